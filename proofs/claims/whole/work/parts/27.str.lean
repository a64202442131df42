/-! String constants: length, charAt; Row.pushText -/
theorem lf38 : Cond.fieldLink "java/lang/String" 38 "java/lang/String" "COMPACT_STRINGS" "Z" ∈ gTB := gw 287 (by decide +kernel) rfl
theorem lf9 : Cond.fieldLink "java/lang/String" 9 "java/lang/String" "value" "[B" ∈ gTB := gw 1218 (by decide +kernel) rfl
theorem lf15 : Cond.fieldLink "java/lang/String" 15 "java/lang/String" "coder" "B" ∈ gTB := gw 1219 (by decide +kernel) rfl
theorem lf1053 : Cond.fieldLink "java/lang/String" 1053 "jdk/internal/util/Preconditions" "SIOOBE_FORMATTER" "Ljava/util/function/BiFunction;" ∈ gTB := gw 307 (by decide +kernel) rfl
/-- a text's characters -/
def txt (t : Nat) : List Int32 := gSB.getD t []
theorem txt_len : ∀ t, t < gSN → (txt t).length = gSL.getD t 0 := by decide +kernel
theorem txt_ch : ∀ t, t < gSN → ∀ j, j < (txt t).length → (((txt t).getD j 0 &&& (Int16.ofInt 255).toInt32).toUInt32 % 65536).toInt32 = (txt t).getD j 0 ∧ narrow .char (.int ((txt t).getD j 0)) = .int ((txt t).getD j 0) := by decide +kernel
section ST
variable {l : Launch} {D : xD} {R : Room}
theorem ct_coder {t : Nat} (ht : t < gSN) : Ct l mJSt_coder D R [.ref (D.2.2.2.1 t)] [] (fun v S => v = some (.int 0) ∧ S = []) := by
  refine Ct.of rfl (by decide) tkJSt_coder (Nat.le_of_ble_eq_true rfl) (fun A => ?_)
  refine Ex.gst1 rfl lf38 ?_
  refine Ex.br rfl (fun c => absurd c (by decide)) (fun _ => ?_)
  refine Ex.p rfl ?_
  refine Ex.sgc ht rfl lf15 ?_
  refine Ex.p rfl ?_
  exact Ex.nret (ty := .byte) rfl rfl rfl (Nat.zero_le _) (Nat.zero_le _) rfl ⟨rfl, rfl⟩
theorem ct_isLatin1 {t : Nat} (ht : t < gSN) : Ct l mJSt_isLatin1 D R [.ref (D.2.2.2.1 t)] [] (fun v S => v = some (.int 1) ∧ S = []) := by
  refine Ct.of rfl (by decide) tkJSt_isLatin1 (Nat.le_of_ble_eq_true rfl) (fun A => ?_)
  refine Ex.gst1 rfl lf38 ?_
  refine Ex.br rfl (fun c => absurd c (by decide)) (fun _ => ?_)
  refine Ex.p rfl ?_
  refine Ex.sgc ht rfl lf15 ?_
  refine Ex.br rfl (fun c => absurd rfl c) (fun _ => ?_)
  repeat (first | refine Ex.p rfl ?_ | refine Ex.ldc rfl ?_ | refine Ex.ldc2 rfl ?_)
  exact Ex.zret rfl rfl (Or.inr rfl) (Nat.zero_le _) (Nat.zero_le _) rfl ⟨rfl, rfl⟩
theorem ct_prCheck {x y : Int32} {w : Option Nat} (h0 : 0 ≤ x.toInt) (h1 : x.toInt < y.toInt) : Ct l mJPr_checkIndex D R [.int x, .int y, va_rf w] [] (fun v S => v = some (.int x) ∧ S = []) := by
  refine Ct.of rfl (by decide) tkJPr_checkIndex (by cases w <;> exact Nat.le_of_ble_eq_true rfl) (fun A => ?_)
  cases w with
  | none =>
    refine Ex.p rfl ?_
    refine Ex.br rfl (fun c => absurd c (by rw [Int32.lt_iff_toInt_lt, i0_toInt]; omega)) (fun _ => ?_)
    refine Ex.p rfl ?_
    refine Ex.p rfl ?_
    refine Ex.br rfl (fun _ => ?_) (fun c => absurd (Int32.lt_iff_toInt_lt.mpr h1) c)
    refine Ex.p rfl ?_
    exact Ex.iret rfl rfl (Nat.zero_le _) (Nat.zero_le _) rfl ⟨rfl, rfl⟩
  | some a =>
    refine Ex.p rfl ?_
    refine Ex.br rfl (fun c => absurd c (by rw [Int32.lt_iff_toInt_lt, i0_toInt]; omega)) (fun _ => ?_)
    refine Ex.p rfl ?_
    refine Ex.p rfl ?_
    refine Ex.br rfl (fun _ => ?_) (fun c => absurd (Int32.lt_iff_toInt_lt.mpr h1) c)
    refine Ex.p rfl ?_
    exact Ex.iret rfl rfl (Nat.zero_le _) (Nat.zero_le _) rfl ⟨rfl, rfl⟩
theorem ct_stCheck {x y : Int32} (h0 : 0 ≤ x.toInt) (h1 : x.toInt < y.toInt) (hr : rmOk R 1 0 0) : Ct l mJSt_checkIndex D R [.int x, .int y] [] (fun v S => v = none ∧ S = []) := by
  obtain ⟨r1, r2, r3, r4⟩ := hr
  refine Ct.of rfl (by decide) tkJSt_checkIndex (Nat.le_of_ble_eq_true rfl) (fun A => ?_)
  refine Ex.p rfl ?_
  refine Ex.p rfl ?_
  refine Ex.gstF rfl lf1053 (fun w => ?_)
  refine Ex.cs0 (Mc := mJPr_checkIndex) (Rc := rm 0 0 0) (As := [.int x, .int y, va_rf w]) (rest := []) (ct_prCheck h0 h1) rfl lk_16_1059 lcJPr_checkIndex rfl ⟨r1, by show 8 + (3 + 11) + 0 ≤ R.locals; omega⟩ (Nat.zero_le _) (Nat.zero_le _) (Nat.zero_le _) ?_
  rintro v S1 ⟨rfl, rfl⟩
  refine Ex.p rfl ?_
  exact Ex.vret rfl rfl (Nat.zero_le _) (Nat.zero_le _) rfl ⟨rfl, rfl⟩
theorem ct_slCharAt {t j : Nat} (ht : t < gSN) (hj : j < (txt t).length) (hr : rmOk R 2 0 0) : Ct l mJSl_charAt D R [.ref (D.2.2.2.2 t), .int (nI j)] [] (fun v S => v = some (.int ((txt t).getD j 0)) ∧ S = []) := by
  obtain ⟨r1, r2, r3, r4⟩ := hr
  have hb : ∀ t, t < gSN → gSL.getD t 0 < 100 := by decide
  have hlen := txt_len t ht
  have := hb t ht
  obtain ⟨e1, e2⟩ := txt_ch t ht j hj
  refine Ct.of rfl (by decide) tkJSl_charAt (Nat.le_of_ble_eq_true rfl) (fun A => ?_)
  refine Ex.p rfl ?_
  refine Ex.p rfl ?_
  refine Ex.slen ht rfl ?_
  refine Ex.cs0 (Mc := mJSt_checkIndex) (Rc := rm 1 0 0) (As := [.int (nI j), .int (nI (gSL.getD t 0))]) (rest := []) (ct_stCheck (by rw [nI_toInt (by omega)]; omega) (by rw [nI_toInt (by omega), nI_toInt (by omega)]; omega) (rm_ok _ _ _)) rfl lk_17_9 lcJSt_checkIndex rfl ⟨r1, by show 8 + (2 + 11) + 40 ≤ R.locals; omega⟩ (Nat.zero_le _) (Nat.zero_le _) (Nat.zero_le _) ?_
  rintro v S1 ⟨rfl, rfl⟩
  refine Ex.p rfl ?_
  refine Ex.p rfl ?_
  refine Ex.sbl j ht rfl (nI_toInt (by omega)) (by omega) ?_
  show Ex l mJSl_charAt D R A _ _ _ _ _ [.int ((txt t).getD j 0)] [] _ _
  refine Ex.p rfl ?_
  refine Ex.p rfl ?_
  refine Ex.p rfl ?_
  rw [e1]
  exact Ex.nret (ty := .char) rfl rfl e2 (Nat.zero_le _) (Nat.zero_le _) rfl ⟨rfl, rfl⟩
theorem ct_length {t : Nat} (ht : t < gSN) (hr : rmOk R 1 0 0) : Ct l mJSt_length D R [.ref (D.2.2.2.1 t)] [] (fun v S => v = some (.int (nI (txt t).length)) ∧ S = []) := by
  obtain ⟨r1, r2, r3, r4⟩ := hr
  have hlen := txt_len t ht
  refine Ct.of rfl (by decide) tkJSt_length (Nat.le_of_ble_eq_true rfl) (fun A => ?_)
  refine Ex.p rfl ?_
  refine Ex.sgv ht rfl lf9 ?_
  refine Ex.slen ht rfl ?_
  refine Ex.p rfl ?_
  refine Ex.cvS (Mc := mJSt_coder) (Rc := rm 0 0 0) (t := t) (As := []) (rest := [.int (nI (gSL.getD t 0))]) (ct_coder ht) ht rfl rfl lk_16_335 lcJSt_coder rfl ⟨r1, by show 8 + (1 + 11) + 0 ≤ R.locals; omega⟩ (Nat.le_of_ble_eq_true rfl) (Nat.zero_le _) (Nat.zero_le _) ?_
  rintro v S1 ⟨rfl, rfl⟩
  refine Ex.p rfl ?_
  rw [sb_shr0, ← hlen]
  exact Ex.iret rfl rfl (Nat.zero_le _) (Nat.zero_le _) rfl ⟨rfl, rfl⟩
theorem ct_charAt {t j : Nat} (ht : t < gSN) (hj : j < (txt t).length) (hr : rmOk R 3 0 0) : Ct l mJSt_charAt D R [.ref (D.2.2.2.1 t), .int (nI j)] [] (fun v S => v = some (.int ((txt t).getD j 0)) ∧ S = []) := by
  obtain ⟨r1, r2, r3, r4⟩ := hr
  obtain ⟨e1, e2⟩ := txt_ch t ht j hj
  refine Ct.of rfl (by decide) tkJSt_charAt (Nat.le_of_ble_eq_true rfl) (fun A => ?_)
  refine Ex.p rfl ?_
  refine Ex.cvS (Mc := mJSt_isLatin1) (Rc := rm 0 0 0) (t := t) (As := []) (rest := []) (ct_isLatin1 ht) ht rfl rfl lk_16_492 lcJSt_isLatin1 rfl ⟨by dsimp only [rm]; omega, by show 8 + (1 + 11) + 0 ≤ R.locals; omega⟩ (Nat.zero_le _) (Nat.zero_le _) (Nat.zero_le _) ?_
  rintro v S1 ⟨rfl, rfl⟩
  refine Ex.br rfl (fun c => absurd c (by decide)) (fun _ => ?_)
  refine Ex.p rfl ?_
  refine Ex.sgv ht rfl lf9 ?_
  refine Ex.p rfl ?_
  refine Ex.cs0 (Mc := mJSl_charAt) (Rc := rm 2 0 0) (As := [.ref (D.2.2.2.2 t), .int (nI j)]) (rest := []) (ct_slCharAt ht hj (rm_ok _ _ _)) rfl lk_16_495 lcJSl_charAt rfl ⟨r1, by show 8 + (2 + 11) + 80 ≤ R.locals; omega⟩ (Nat.zero_le _) (Nat.zero_le _) (Nat.zero_le _) ?_
  rintro v S1 ⟨rfl, rfl⟩
  exact Ex.nret (ty := .char) rfl rfl e2 (Nat.zero_le _) (Nat.zero_le _) rfl ⟨rfl, rfl⟩
end ST

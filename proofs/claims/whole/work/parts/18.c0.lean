/-! OWN FRAME 13: calls that need no cell; String constants -/
section XS
variable {l : Launch} {M : xM} {D : xD} {R : Room} {A : Nat → Prop} {Q : Array Value → State → Outcome → State → Prop} {mc ms pc k n : Nat} {lv : List (Nat × Value)} {S S' : List va_W} {st rest : List Value}
theorem Ex.cs0 {Mc : xM} {Rc : Room} {ix : Nat} {As rest st0 : List Value} {Q0 : Option Value → List va_W → Prop} (hct : Ct l Mc D Rc As [] Q0) (hf : xfe M.2.2.2.2.2 pc = some (.invokestatic ix)) (hlk : Lk M.2.1.cls ix Mc) (hm : LkS Mc As.length)
    (hst : st0 = As.reverse ++ rest) (hR : Rc.frames + 1 ≤ R.frames ∧ 8 + (Mc.2.2.2.1 + 11) + Rc.locals ≤ R.locals) (hrm : (rest.map fun v => v.category).sum ≤ 8) (h1 : k + Rc.cells ≤ R.cells) (h2 : n + Rc.slots ≤ R.slots)
    (kk : ∀ (v : Option Value) (S1 : List va_W), Q0 v S1 → Ex l M D R A Q mc ms (pc + 3) lv (v.toList ++ rest) S (k + Rc.cells) (n + Rc.slots)) : Ex l M D R A Q mc ms pc lv st0 S k n := by
  intro p e s m args below meth c H locs ls F hS hP hD hl
  obtain ⟨ho, hx, hb, hml, -, hown, hts, -, hin, hK, hN, hX, hA, htb⟩ := id F
  have hd := htb _ (xfe_mem _ _ _ hf)
  obtain ⟨hpre, hsub⟩ := x_pre (S := S) (is := []) (Sc := []) (av := As) F hS hP hD rfl rfl
  have hcb := callB_of (ret := Mc.2.2.2.2.1) As.length hts hm.1.good rfl rfl rfl (hts _ hm.1.1) (hts _ hlk) hm.1.2.2 hR
  refine x_call (va_runS (As := As) (rest := rest) ⟨hx, hb, hml, hown, hts⟩ (hct H.size) ⟨hcb, hts _ hm.2⟩ ⟨xP_blind, hpre⟩ rfl rfl hl.1 hst (lv_room hrm) hd ⟨h1, h2⟩) hS hsub (fun v S1 H1 locs1 hq hP1 hD1 hk1 hS1 => ?_)
  have hun : ∀ q : Nat, q < H.size → H1[q]? = H[q]? := fun q h => hk1 q h (by
    rintro (⟨k2, e2, h3⟩ | h3)
    · simp at h3
    · omega)
  exact kk v S1 hq p e s m args below meth c H1 locs1 ls F hS1 (va_P_iff.mpr fun q hq => (va_P_iff.mp hP q hq).kept (hun _ (va_P_iff.mp hP q hq).lt)) hD hl
theorem Ex.cs0N {Mc : xM} {Rc : Room} {ix : Nat} {As rest st0 : List Value} {Q0 : Option Value → List va_W → Prop} (hct : Ct l Mc D Rc As [] Q0) (hf : xfe M.2.2.2.2.2 pc = some (.invokestatic ix)) (hlk : LkN M.2.1.cls ix Mc) (hm : LkS Mc As.length)
    (hst : st0 = As.reverse ++ rest) (hR : Rc.frames + 1 ≤ R.frames ∧ 8 + (Mc.2.2.2.1 + 11) + Rc.locals ≤ R.locals) (hrm : (rest.map fun v => v.category).sum ≤ 8) (h1 : k + Rc.cells ≤ R.cells) (h2 : n + Rc.slots ≤ R.slots)
    (kk : ∀ (v : Option Value) (S1 : List va_W), Q0 v S1 → Ex l M D R A Q mc ms (pc + 3) lv (v.toList ++ rest) S (k + Rc.cells) (n + Rc.slots)) : Ex l M D R A Q mc ms pc lv st0 S k n := by
  intro p e s m args below meth c H locs ls F hS hP hD hl
  obtain ⟨ho, hx, hb, hml, -, hown, hts, -, hin, hK, hN, hX, hA, htb⟩ := id F
  have hd := htb _ (xfe_mem _ _ _ hf)
  obtain ⟨hpre, hsub⟩ := x_pre (S := S) (is := []) (Sc := []) (av := As) F hS hP hD rfl rfl
  have hcb := va_cnB (bytes := Mc.2.2.1) (maxL := Mc.2.2.2.1) (ret := Mc.2.2.2.2.1) As.length hts hm.1.good rfl rfl rfl (hN.1 _ hlk) (hts _ hm.1.1) hm.1.2.2 hR
  refine x_call (va_runSN (As := As) (rest := rest) ⟨hx, hb, hml, hown, hts⟩ (hct H.size) ⟨hcb, hts _ hm.2, trivial⟩ ⟨xP_blind, hpre⟩ rfl rfl hl.1 hst (lv_room hrm) hd ⟨h1, h2⟩) hS hsub (fun v S1 H1 locs1 hq hP1 hD1 hk1 hS1 => ?_)
  have hun : ∀ q : Nat, q < H.size → H1[q]? = H[q]? := fun q h => hk1 q h (by
    rintro (⟨k2, e2, h3⟩ | h3)
    · simp at h3
    · omega)
  exact kk v S1 hq p e s m args below meth c H1 locs1 ls F hS1 (va_P_iff.mpr fun q hq => (va_P_iff.mp hP q hq).kept (hun _ (va_P_iff.mp hP q hq).lt)) hD hl
theorem Ex.cvS {Mc : xM} {Rc : Room} {ix t : Nat} {As rest st0 : List Value} {Q0 : Option Value → List va_W → Prop} (hct : Ct l Mc D Rc (.ref (D.2.2.2.1 t) :: As) [] Q0) (ht : t < gSN) (hcn : Mc.2.1.cls = "java/lang/String") (hf : xfe M.2.2.2.2.2 pc = some (.invokevirtual ix)) (hlk : Lk M.2.1.cls ix Mc) (hm : LkV Mc As.length)
    (hst : st0 = As.reverse ++ .ref (D.2.2.2.1 t) :: rest) (hR : Rc.frames + 1 ≤ R.frames ∧ 8 + (Mc.2.2.2.1 + 11) + Rc.locals ≤ R.locals) (hrm : (rest.map fun v => v.category).sum ≤ 8) (h1 : k + Rc.cells ≤ R.cells) (h2 : n + Rc.slots ≤ R.slots)
    (kk : ∀ (v : Option Value) (S1 : List va_W), Q0 v S1 → Ex l M D R A Q mc ms (pc + 3) lv (v.toList ++ rest) S (k + Rc.cells) (n + Rc.slots)) : Ex l M D R A Q mc ms pc lv st0 S k n := by
  intro p e s m args below meth c H locs ls F hS hP hD hl
  obtain ⟨ho, hx, hb, hml, -, hown, hts, -, hin, hK, hN, hX, hA, htb⟩ := id F
  have hd := htb _ (xfe_mem _ _ _ hf)
  obtain ⟨hpre, hsub⟩ := x_pre (S := S) (is := []) (Sc := []) (av := (.ref (D.2.2.2.1 t) :: As)) F hS hP hD rfl rfl
  have hcb := callB_of (ret := Mc.2.2.2.2.1) As.length hts hm.1.good rfl rfl rfl (hts _ hm.1.1) (hts _ hlk) hm.1.2.2 hR
  refine x_call (va_runV (C := Mc.2.1.cls) (As := As) (rest := rest) ⟨hx, hb, hml, hown, hts⟩ (hct H.size) ⟨hcb, hts _ hm.2.1, hts _ hm.2.2⟩ ⟨xP_blind, by rw [hcn]; exact vk_recv hX.1 ht hS, hpre⟩ rfl rfl hl.1 hst (lv_room hrm) hd ⟨h1, h2⟩) hS hsub (fun v S1 H1 locs1 hq hP1 hD1 hk1 hS1 => ?_)
  have hun : ∀ q : Nat, q < H.size → H1[q]? = H[q]? := fun q h => hk1 q h (by
    rintro (⟨k2, e2, h3⟩ | h3)
    · simp at h3
    · omega)
  exact kk v S1 hq p e s m args below meth c H1 locs1 ls F hS1 (va_P_iff.mpr fun q hq => (va_P_iff.mp hP q hq).kept (hun _ (va_P_iff.mp hP q hq).lt)) hD hl
theorem Ex.gst1 {ix : Nat} (hf : xfe M.2.2.2.2.2 pc = some (.getstatic ix)) (hlk : Cond.fieldLink M.2.1.cls ix "java/lang/String" "COMPACT_STRINGS" "Z" ∈ gTB) (kk : Ex l M D R A Q mc ms (pc + 3) lv (.int 1 :: st) S k n) : Ex l M D R A Q mc ms pc lv st S k n := by
  intro p e s m args below meth c H locs ls F hS hP hD hl
  obtain ⟨ho, hx, hb, hml, -, hown, hts, -, hin, hK, hN, hX, hA, htb⟩ := id F
  have hd := htb _ (xfe_mem _ _ _ hf)
  exact va_gets hx hb hX.2.1 hS hown (hts _ hlk) (fun _ h => h) hd (kk p e s m args below meth c H locs ls F hS hP hD hl)
theorem Ex.gstF {ix : Nat} (hf : xfe M.2.2.2.2.2 pc = some (.getstatic ix)) (hlk : Cond.fieldLink M.2.1.cls ix "jdk/internal/util/Preconditions" "SIOOBE_FORMATTER" "Ljava/util/function/BiFunction;" ∈ gTB) (kk : ∀ w : Option Nat, Ex l M D R A Q mc ms (pc + 3) lv (va_rf w :: st) S k n) : Ex l M D R A Q mc ms pc lv st S k n := by
  intro p e s m args below meth c H locs ls F hS hP hD hl
  obtain ⟨ho, hx, hb, hml, -, hown, hts, -, hin, hK, hN, hX, hA, htb⟩ := id F
  have hd := htb _ (xfe_mem _ _ _ hf)
  rcases hX.2.2.1 with h | ⟨t, h⟩
  · exact va_gets hx hb h hS hown (hts _ hlk) (fun _ h => h) hd (kk none p e s m args below meth c H locs ls F hS hP hD hl)
  · exact va_gets hx hb h hS hown (hts _ hlk) (fun _ h => h) hd (kk (some t) p e s m args below meth c H locs ls F hS hP hD hl)
theorem Ex.sgc {ix t : Nat} (ht : t < gSN) (hf : xfe M.2.2.2.2.2 pc = some (.getfield ix)) (hlk : Cond.fieldLink M.2.1.cls ix "java/lang/String" "coder" "B" ∈ gTB) (kk : Ex l M D R A Q mc ms (pc + 3) lv (.int 0 :: st) S k n) : Ex l M D R A Q mc ms pc lv (.ref (D.2.2.2.1 t) :: st) S k n := by
  intro p e s m args below meth c H locs ls F hS hP hD hl
  obtain ⟨ho, hx, hb, hml, -, hown, hts, -, hin, hK, hN, hX, hA, htb⟩ := id F
  have hd := htb _ (xfe_mem _ _ _ hf)
  exact vk_getf hx hb (hX.1.1 t ht).2.1 hS hown (hts _ hlk) (fun _ h => h) hd (kk p e s m args below meth c H locs ls F hS hP hD hl)
theorem Ex.sgv {ix t : Nat} (ht : t < gSN) (hf : xfe M.2.2.2.2.2 pc = some (.getfield ix)) (hlk : Cond.fieldLink M.2.1.cls ix "java/lang/String" "value" "[B" ∈ gTB) (kk : Ex l M D R A Q mc ms (pc + 3) lv (.ref (D.2.2.2.2 t) :: st) S k n) : Ex l M D R A Q mc ms pc lv (.ref (D.2.2.2.1 t) :: st) S k n := by
  intro p e s m args below meth c H locs ls F hS hP hD hl
  obtain ⟨ho, hx, hb, hml, -, hown, hts, -, hin, hK, hN, hX, hA, htb⟩ := id F
  have hd := htb _ (xfe_mem _ _ _ hf)
  exact vk_getf hx hb (hX.1.1 t ht).2.2.1 hS hown (hts _ hlk) (fun _ h => h) hd (kk p e s m args below meth c H locs ls F hS hP hD hl)
theorem Ex.slen {t : Nat} (ht : t < gSN) (hf : xfe M.2.2.2.2.2 pc = some .arraylength) (kk : Ex l M D R A Q mc ms (pc + 1) lv (.int (nI (gSL.getD t 0)) :: st) S k n) : Ex l M D R A Q mc ms pc lv (.ref (D.2.2.2.2 t) :: st) S k n := by
  intro p e s m args below meth c H locs ls F hS hP hD hl
  obtain ⟨ho, hx, hb, hml, -, hown, hts, -, hin, hK, hN, hX, hA, htb⟩ := id F
  have hd := htb _ (xfe_mem _ _ _ hf)
  exact va_tlen hx hb (hX.1.1 t ht).2.2.2 hS rfl hd (kk p e s m args below meth c H locs ls F hS hP hD hl)
theorem Ex.sbl {t : Nat} (j : Nat) {x : Int32} (ht : t < gSN) (hf : xfe M.2.2.2.2.2 pc = some .baload) (hx9 : x.toInt = j) (hj : j < gSL.getD t 0) (kk : Ex l M D R A Q mc ms (pc + 1) lv (.int ((gSB.getD t []).getD j 0) :: st) S k n) : Ex l M D R A Q mc ms pc lv (.int x :: .ref (D.2.2.2.2 t) :: st) S k n := by
  intro p e s m args below meth c H locs ls F hS hP hD hl
  obtain ⟨ho, hx, hb, hml, -, hown, hts, -, hin, hK, hN, hX, hA, htb⟩ := id F
  have hd := htb _ (xfe_mem _ _ _ hf)
  exact va_tb hx hb (hX.1.1 t ht).2.2.2 hS (vp_in_int hx9 hj) (by rw [clamp_int hx9]) hd (kk p e s m args below meth c H locs ls F hS hP hD hl)
theorem Ex.nret {v : Int32} {ty : FieldType} {Q0 : Option Value → List va_W → Prop} (hf : xfe M.2.2.2.2.2 pc = some .ireturn) (hr9 : M.2.2.2.2.1 = some ty) (hv : narrow ty (.int v) = .int v) (hk : k ≤ mc) (hn : n ≤ ms) (hS9 : S.flatten = S'.flatten) (hq : Q0 (some (.int v)) S') : Ex l M D R A (xQ D A Q0) mc ms pc lv [.int v] S k n := by
  intro p e s m args below meth c H locs ls F hS hP hD hl
  obtain ⟨ho, hx, hb, -, hr, hown, hts, hlocks, hin, hK, hN, hX, hA, htb⟩ := id F
  have hd := htb _ (xfe_mem _ _ _ hf)
  refine W.widen hk hn ?_
  rw [hS9] at hP hD
  exact W.x (W.zret hx hb (hr.trans hr9) hv (fun t ht hW => ⟨⟨_, S', rfl, hq, by rw [ht]; exact hP, hD⟩, hS.F ht⟩) hS.2.2 hd)
end XS

/-! TextReader: its start, isDigit, can, passes -/
abbrev sTr (a tx dr p : Nat) (f t ch nu px py : Int32) : va_W := [(a, .inr (7, [.ref tx, .ref dr, .int (nI p), .int f, .int t, .int ch, .int nu, .int px, .int py]))]
section R1
variable {l : Launch} {D : xD} {R : Room}
theorem ct_Tr_init {a tx dr : Nat} (hr : rmOk R 1 0 0) : Ct l mTr_init D R [.ref a, .ref tx, .ref dr] [[(a, .inr (7, gdf 7))]] (fun v S => v = none ∧ S = [sTr a tx dr 0 0 0 (-1) 0 0 0]) := by
  obtain ⟨r1, r2, r3, r4⟩ := hr
  refine Ct.of rfl (by decide) tkTr_init (Nat.le_of_ble_eq_true rfl) (fun A => ?_)
  refine Ex.p rfl ?_
  refine Ex.oi rfl lk_7_3 (by omega) (by simp; omega) ?_
  refine Ex.p rfl ?_
  refine Ex.p rfl ?_
  refine Ex.pf 0 0 rfl rfl rfl rfl rfl rfl ?_
  refine Ex.p rfl ?_
  refine Ex.p rfl ?_
  refine Ex.pfF 0 0 rfl rfl rfl rfl rfl rfl rfl rfl ?_
  refine Ex.p rfl ?_
  refine Ex.p rfl ?_
  refine Ex.pfF 0 0 rfl rfl rfl rfl rfl rfl rfl rfl ?_
  exact Ex.vret rfl rfl (Nat.zero_le _) (Nat.zero_le _) rfl ⟨rfl, rfl⟩
theorem ct_Tr_isDigit {x : Int32} : Ct l mTr_isDigit D R [.int x] [] (fun v S => v = some (.int (b32 (isDg x))) ∧ S = []) := by
  refine Ct.of rfl (by decide) tkTr_isDigit (Nat.le_of_ble_eq_true rfl) (fun A => ?_)
  refine Ex.p rfl ?_
  refine Ex.p rfl ?_
  refine Ex.br rfl (fun c1 => ?_) (fun c1 => ?_)
  · have c1 : x < 48 := c1
    rw [Int32.lt_iff_toInt_lt] at c1
    have c1 : x.toInt < 48 := c1
    refine Ex.p rfl ?_
    refine Ex.zret rfl rfl (Or.inl rfl) (Nat.zero_le _) (Nat.zero_le _) rfl ⟨?_, rfl⟩
    rw [isDg, decide_eq_false (by omega)]; rfl
  · have c1 : ¬ x < 48 := c1
    rw [Int32.lt_iff_toInt_lt] at c1
    have c1 : ¬ x.toInt < 48 := c1
    refine Ex.p rfl ?_
    refine Ex.p rfl ?_
    refine Ex.br rfl (fun c2 => ?_) (fun c2 => ?_)
    · have c2 : 57 < x := c2
      rw [Int32.lt_iff_toInt_lt] at c2
      have c2 : 57 < x.toInt := c2
      refine Ex.p rfl ?_
      refine Ex.zret rfl rfl (Or.inl rfl) (Nat.zero_le _) (Nat.zero_le _) rfl ⟨?_, rfl⟩
      rw [isDg, decide_eq_false (by omega)]; rfl
    · have c2 : ¬ 57 < x := c2
      rw [Int32.lt_iff_toInt_lt] at c2
      have c2 : ¬ 57 < x.toInt := c2
      refine Ex.p rfl ?_
      refine Ex.p rfl ?_
      refine Ex.zret rfl rfl (Or.inr rfl) (Nat.zero_le _) (Nat.zero_le _) rfl ⟨?_, rfl⟩
      rw [isDg, decide_eq_true (by omega)]; rfl
theorem ct_Tr_can {a tx dr p q : Nat} {f t ch nu px py : Int32} {b : Bool} : Ct l mTr_can D R [.ref a, .int (b32 b), .int (nI q)] [sTr a tx dr p f t ch nu px py] (fun v S => v = some (.int (b32 b)) ∧ S = [sTr a tx dr (if b then p else q) f t ch nu px py]) := by
  refine Ct.of rfl (by decide) tkTr_can (Nat.le_of_ble_eq_true rfl) (fun A => ?_)
  refine Ex.p rfl ?_
  cases b with
  | true =>
    refine Ex.br rfl (fun _ => ?_) (fun c => absurd (by decide) c)
    refine Ex.p rfl ?_
    exact Ex.zret rfl rfl (Or.inr rfl) (Nat.zero_le _) (Nat.zero_le _) rfl ⟨rfl, rfl⟩
  | false =>
    refine Ex.br rfl (fun c => absurd rfl c) (fun _ => ?_)
    refine Ex.p rfl ?_
    refine Ex.p rfl ?_
    refine Ex.pf 0 0 rfl rfl rfl rfl rfl rfl ?_
    refine Ex.p rfl ?_
    exact Ex.zret rfl rfl (Or.inl rfl) (Nat.zero_le _) (Nat.zero_le _) rfl ⟨rfl, rfl⟩
theorem txt_pos : ∀ t, t < gSN → ∀ c ∈ txt t, c ≠ -1 := by decide +kernel
theorem txt_100 : ∀ t, t < gSN → (txt t).length < 100 := by decide
theorem ct_Tr_passes {a tx dr p n cp : Nat} {f t ch nu px py : Int32} {xs : List Int32} {Cx : va_W} {L : Nat} (hx : IsRow D tx L cp xs Cx) (ht : n < gSN) (hp : p ≤ xs.length) (hr : rmOk R 4 0 0) : Ct l mTr_passes D R [.ref a, .ref (D.2.2.2.1 n)] [sTr a tx dr p f t ch nu px py, Cx] (fun v S => v = some (.int (b32 (pLit xs (txt n) p).1)) ∧ S = [sTr a tx dr (pLit xs (txt n) p).2 f t ch nu px py, Cx]) := by
  obtain ⟨r1, r2, r3, r4⟩ := hr
  obtain ⟨arr, fx, eC, x1, x2, x3, x4, x5, x6⟩ := id hx
  have hb := txt_100 n ht
  generalize hP : pLit xs (txt n) p = P
  refine Ct.of rfl (by decide) tkTr_passes (Nat.le_of_ble_eq_true rfl) (fun A => ?_)
  have loop : ∀ (m i q : Nat), (txt n).length - i < m → i ≤ (txt n).length → q ≤ xs.length → pLit xs ((txt n).drop i) q = P → Ex l mTr_passes D R A (xQ D A (fun v S => v = some (.int (b32 P.1)) ∧ S = [sTr a tx dr P.2 f t ch nu px py, Cx])) R.cells R.slots 2 [(2, .int (nI i)), (0, .ref a), (1, .ref (D.2.2.2.1 n))] [] [sTr a tx dr q f t ch nu px py, Cx] 0 0 := by
    intro m
    induction m with
    | zero => intro i q h; omega
    | succ m ih =>
      intro i q hm hi hq hPq
      refine Ex.p rfl ?_
      refine Ex.p rfl ?_
      refine Ex.cvS (Mc := mJSt_length) (Rc := rm 1 0 0) (t := n) (As := []) (rest := [.int (nI i)]) (ct_length ht (rm_ok _ _ _)) ht rfl rfl lk_7_138 lcJSt_length rfl ⟨by dsimp only [rm]; omega, by show 8 + (1 + 11) + 40 ≤ R.locals; omega⟩ (Nat.le_of_ble_eq_true rfl) (by dsimp only [rm]; omega) (by dsimp only [rm]; omega) ?_
      rintro v S1 ⟨rfl, rfl⟩
      refine Ex.br rfl (fun c1 => ?_) (fun c1 => ?_)
      · rw [nI_leI (by omega) (by omega)] at c1
        rw [show i = (txt n).length by omega, List.drop_length] at hPq
        have hPq : (true, q) = P := hPq
        subst hPq
        refine Ex.p rfl ?_
        exact Ex.zret rfl rfl (Or.inr rfl) (Nat.zero_le _) (Nat.zero_le _) rfl ⟨rfl, rfl⟩
      · rw [nI_leI (by omega) (by omega)] at c1
        have hi9 : i < (txt n).length := by omega
        rw [List.drop_eq_getElem_cons hi9] at hPq
        have hPq : (if gt xs q = (txt n)[i] then pLit xs ((txt n).drop (i + 1)) (q + 1) else (false, q)) = P := hPq
        refine Ex.p rfl ?_
        refine Ex.gf 0 0 rfl rfl rfl ?_
        refine Ex.p rfl ?_
        refine Ex.gf 0 0 rfl rfl rfl ?_
        refine Ex.cv (Mc := mRo_get) (Rc := rm 0 0 0) (As := [.int (nI q)]) (rest := []) (Sr := [sTr a tx dr q f t ch nu px py]) (ic := 1) (jc := 0) (ci := 5) [1] [0] (ct_Ro_get hx) rfl lk_7_50 lcRo_get rfl rfl rfl rfl rfl (by decide) rfl (by rw [eC]; rfl) rfl (by decide) ⟨by dsimp only [rm]; omega, by show 8 + (2 + 11) + 0 ≤ R.locals; omega⟩ (Nat.le_of_ble_eq_true rfl) (by dsimp only [rm]; omega) (by dsimp only [rm]; omega) ?_
        rintro v S1 ⟨rfl, rfl⟩
        rw [rget_gt (by omega)]
        refine Ex.p rfl ?_
        refine Ex.p rfl ?_
        refine Ex.cvS (Mc := mJSt_charAt) (Rc := rm 3 0 0) (t := n) (As := [.int (nI i)]) (rest := [.int (gt xs q)]) (ct_charAt ht hi9 (rm_ok _ _ _)) ht rfl rfl lk_7_144 lcJSt_charAt rfl ⟨by dsimp only [rm]; omega, by show 8 + (2 + 11) + 120 ≤ R.locals; omega⟩ (Nat.le_of_ble_eq_true rfl) (by dsimp only [rm]; omega) (by dsimp only [rm]; omega) ?_
        rintro v S1 ⟨rfl, rfl⟩
        rw [show (txt n).getD i 0 = (txt n)[i] by rw [List.getD_eq_getElem?_getD, List.getElem?_eq_getElem hi9]; rfl]
        refine Ex.br rfl (fun c2 => ?_) (fun c2 => ?_)
        · have c2 : gt xs q = (txt n)[i] := c2
          rw [if_pos c2] at hPq
          have hlt : q < xs.length := gt_lt (by rw [c2]; exact txt_pos n ht _ (List.getElem_mem hi9))
          refine Ex.p rfl ?_
          refine Ex.p rfl ?_
          refine Ex.gf 0 0 rfl rfl rfl ?_
          refine Ex.p rfl ?_
          refine Ex.p rfl ?_
          rw [i_add1]
          refine Ex.pf 0 0 rfl rfl rfl rfl rfl rfl ?_
          refine Ex.p rfl ?_
          refine Ex.p rfl ?_
          rw [i_add1]
          exact ih (i + 1) (q + 1) (by omega) (by omega) (by omega) hPq
        · have c2 : ¬ gt xs q = (txt n)[i] := c2
          rw [if_neg c2] at hPq
          subst hPq
          refine Ex.p rfl ?_
          exact Ex.zret rfl rfl (Or.inl rfl) (Nat.zero_le _) (Nat.zero_le _) rfl ⟨rfl, rfl⟩
  refine Ex.p rfl ?_
  refine Ex.p rfl ?_
  exact loop ((txt n).length + 1) 0 p (by omega) (by omega) hp hP
end R1

/-! TextReader: readPart, readPlace -/
theorem dg_of {c : Int32} (h : isDg c = true) : ∃ j : Nat, j ≤ 9 ∧ c = nI (48 + j) ∧ (c.toInt - 48).toNat = j := by
  have h : 48 ≤ c.toInt ∧ c.toInt ≤ 57 := of_decide_eq_true h
  refine ⟨(c.toInt - 48).toNat, by omega, Int32.toInt_inj.mp ?_, rfl⟩
  rw [nI_toInt (by omega)]
  omega
theorem dg_step (v j : Nat) : nI v * (Int8.ofInt 10).toInt32 + nI (48 + j) - (Int8.ofInt 48).toInt32 = nI (v * 10 + j) := by
  rw [show (Int8.ofInt 10).toInt32 = nI 10 from rfl, show (Int8.ofInt 48).toInt32 = nI 48 from rfl, pk_mul, nI_add, show v * 10 + (48 + j) = (v * 10 + j) + 48 by omega, ← nI_add, Int32.add_sub_cancel]
section R2
variable {l : Launch} {D : xD} {R : Room}
theorem ct_Tr_readPart {a tx dr p cp L : Nat} {f t ch nu px py c : Int32} {sg : Bool} {xs : List Int32} {Cx : va_W} (hx : IsRow D tx L cp xs Cx) (hc : c ≠ -1) (hp : p ≤ xs.length) (hr : rmOk R 1 0 0) : Ct l mTr_readPart D R [.ref a, .int c, .int (b32 sg)] [sTr a tx dr p f t ch nu px py, Cx] (fun v S => v = some (.int (b32 (pPart xs c sg p).1.isSome)) ∧ ∃ nu', S = [sTr a tx dr (pPart xs c sg p).2 f t ch nu' px py, Cx] ∧ ∀ x, (pPart xs c sg p).1 = some x → nu' = x) := by
  obtain ⟨r1, r2, r3, r4⟩ := hr
  obtain ⟨arr, fx, eC, x1, x2, x3, x4, x5, x6⟩ := id hx
  generalize hP : pPart xs c sg p = P
  unfold pPart at hP
  refine Ct.of rfl (by decide) tkTr_readPart (Nat.le_of_ble_eq_true rfl) (fun A => ?_)
  generalize hQ : (fun (v : Option Value) S => v = some (.int (b32 P.1.isSome)) ∧ ∃ nu', S = [sTr a tx dr P.2 f t ch nu' px py, Cx] ∧ ∀ x, P.1 = some x → nu' = x) = Q
  have loop : ∀ (ng : Bool) (q0 : Nat), pNumAt xs ng q0 = P → ∀ (m d q v : Nat), 7 - d < m → d ≤ 7 → q = q0 + d → q ≤ xs.length → v < 10 ^ d → pDig xs (7 - d) q v = pDig xs 7 q0 0 → ∀ lv9 : List (Nat × Value), (∀ z ∈ [(5, Value.int (nI d)), (4, .int (nI v)), (3, .int (b32 ng)), (0, .ref a)], z ∈ lv9) → Ex l mTr_readPart D R A (xQ D A Q) R.cells R.slots 73 lv9 [] [sTr a tx dr q f t ch nu px py, Cx] 0 0 := by
    intro ng q0 hPP
    have fin : ∀ (d v : Nat), d ≤ 7 → pDig xs 7 q0 0 = (v, q0 + d) → ∀ lv9 : List (Nat × Value), (∀ z ∈ [(5, Value.int (nI d)), (4, .int (nI v)), (3, .int (b32 ng)), (0, .ref a)], z ∈ lv9) → Ex l mTr_readPart D R A (xQ D A Q) R.cells R.slots 135 lv9 [] [sTr a tx dr (q0 + d) f t ch nu px py, Cx] 0 0 := by
      intro d v hd e lv9 hlv
      refine Ex.lv hlv ?_
      have hres : P = (if 0 < d then some (if ng then - nI v else nI v) else none, q0 + d) := by
        rw [← hPP, pNumAt, e]
        by_cases h0 : 0 < d
        · rw [if_pos (show q0 < (v, q0 + d).2 by show q0 < q0 + d; omega), if_pos h0]
        · rw [if_neg (show ¬ q0 < (v, q0 + d).2 by show ¬ q0 < q0 + d; omega), if_neg h0]
      have last : Ex l mTr_readPart D R A (xQ D A Q) R.cells R.slots 151 [(5, Value.int (nI d)), (4, .int (nI v)), (3, .int (b32 ng)), (0, .ref a)] [] [sTr a tx dr (q0 + d) f t ch (if ng then - nI v else nI v) px py, Cx] 0 0 := by
        refine Ex.p rfl ?_
        refine Ex.br rfl (fun c1 => ?_) (fun c1 => ?_)
        · have c1 : nI d ≤ nI 0 := c1
          rw [nI_leI (by omega) (by omega)] at c1
          refine Ex.p rfl ?_
          refine Ex.zret rfl rfl (Or.inl rfl) (Nat.zero_le _) (Nat.zero_le _) rfl ?_
          subst hQ
          rw [hres, if_neg (by omega)]
          exact ⟨rfl, _, rfl, fun x h => by cases h⟩
        · have c1 : ¬ nI d ≤ nI 0 := c1
          rw [nI_leI (by omega) (by omega)] at c1
          refine Ex.p rfl ?_
          refine Ex.p rfl ?_
          refine Ex.zret rfl rfl (Or.inr rfl) (Nat.zero_le _) (Nat.zero_le _) rfl ?_
          subst hQ
          rw [hres, if_pos (by omega)]
          exact ⟨rfl, _, rfl, fun x h => by cases h; rfl⟩
      refine Ex.p rfl ?_
      refine Ex.p rfl ?_
      cases ng with
      | true =>
        refine Ex.br rfl (fun c => absurd c (by decide)) (fun _ => ?_)
        refine Ex.p rfl ?_
        refine Ex.p rfl ?_
        refine Ex.p rfl ?_
        refine Ex.pf 0 0 rfl rfl rfl rfl rfl rfl ?_
        exact last
      | false =>
        refine Ex.br rfl (fun _ => ?_) (fun c => absurd rfl c)
        refine Ex.p rfl ?_
        refine Ex.pf 0 0 rfl rfl rfl rfl rfl rfl ?_
        exact last
    intro m
    induction m with
    | zero => intro d q v h; omega
    | succ m ih =>
      intro d q v hm hd hqd hq hv hdig lv9 hlv
      refine Ex.lv hlv ?_
      refine Ex.p rfl ?_
      refine Ex.p rfl ?_
      refine Ex.br rfl (fun c1 => ?_) (fun c1 => ?_)
      · have c1 : nI 7 ≤ nI d := c1
        rw [nI_leI (by omega) (by omega)] at c1
        have hd7 : d = 7 := by omega
        subst hd7
        subst hqd
        exact fin 7 v (Nat.le_refl _) (hdig.symm) _ (fun z h => h)
      · have c1 : ¬ nI 7 ≤ nI d := c1
        rw [nI_leI (by omega) (by omega)] at c1
        rw [show 7 - d = (7 - (d + 1)) + 1 by omega] at hdig
        have hdig : (if isDg (gt xs q) then pDig xs (7 - (d + 1)) (q + 1) (v * 10 + ((gt xs q).toInt - 48).toNat) else (v, q)) = pDig xs 7 q0 0 := hdig
        refine Ex.p rfl ?_
        refine Ex.gf 0 0 rfl rfl rfl ?_
        refine Ex.p rfl ?_
        refine Ex.gf 0 0 rfl rfl rfl ?_
        refine Ex.cv (Mc := mRo_get) (Rc := rm 0 0 0) (As := [.int (nI q)]) (rest := []) (Sr := [sTr a tx dr q f t ch nu px py]) (ic := 1) (jc := 0) (ci := 5) [1] [0] (ct_Ro_get hx) rfl lk_7_50 lcRo_get rfl rfl rfl rfl rfl (by decide) rfl (by rw [eC]; rfl) rfl (by decide) ⟨by dsimp only [rm]; omega, by show 8 + (2 + 11) + 0 ≤ R.locals; omega⟩ (Nat.le_of_ble_eq_true rfl) (by dsimp only [rm]; omega) (by dsimp only [rm]; omega) ?_
        rintro w S1 ⟨rfl, rfl⟩
        rw [rget_gt (by omega)]
        refine Ex.cs0 (Mc := mTr_isDigit) (Rc := rm 0 0 0) (As := [.int (gt xs q)]) (rest := []) ct_Tr_isDigit rfl lk_7_135 lcTr_isDigit rfl ⟨by dsimp only [rm]; omega, by show 8 + (1 + 11) + 0 ≤ R.locals; omega⟩ (Nat.zero_le _) (Nat.zero_le _) (Nat.zero_le _) ?_
        rintro w S1 ⟨rfl, rfl⟩
        cases hg : isDg (gt xs q) with
        | false =>
          rw [hg] at hdig
          have hdig : (v, q) = pDig xs 7 q0 0 := hdig
          refine Ex.br rfl (fun _ => ?_) (fun c => absurd rfl c)
          subst hqd
          exact fin d v hd hdig.symm _ (fun z h => h)
        | true =>
          rw [hg] at hdig
          have hdig : pDig xs (7 - (d + 1)) (q + 1) (v * 10 + ((gt xs q).toInt - 48).toNat) = pDig xs 7 q0 0 := hdig
          have hlt : q < xs.length := gt_lt (fun e => by rw [e] at hg; exact absurd hg (by decide))
          obtain ⟨j, hj, ej, ej2⟩ := dg_of hg
          rw [ej2] at hdig
          refine Ex.br rfl (fun c => absurd c (by decide)) (fun _ => ?_)
          refine Ex.p rfl ?_
          refine Ex.p rfl ?_
          refine Ex.p rfl ?_
          refine Ex.p rfl ?_
          refine Ex.gf 0 0 rfl rfl rfl ?_
          refine Ex.p rfl ?_
          refine Ex.gf 0 0 rfl rfl rfl ?_
          refine Ex.cv (Mc := mRo_get) (Rc := rm 0 0 0) (As := [.int (nI q)]) (rest := [.int (nI v * (Int8.ofInt 10).toInt32)]) (Sr := [sTr a tx dr q f t ch nu px py]) (ic := 1) (jc := 0) (ci := 5) [1] [0] (ct_Ro_get hx) rfl lk_7_50 lcRo_get rfl rfl rfl rfl rfl (by decide) rfl (by rw [eC]; rfl) rfl (by decide) ⟨by dsimp only [rm]; omega, by show 8 + (2 + 11) + 0 ≤ R.locals; omega⟩ (Nat.le_of_ble_eq_true rfl) (by dsimp only [rm]; omega) (by dsimp only [rm]; omega) ?_
          rintro w S1 ⟨rfl, rfl⟩
          rw [rget_gt (by omega), ej]
          refine Ex.p rfl ?_
          refine Ex.p rfl ?_
          refine Ex.p rfl ?_
          rw [dg_step]
          refine Ex.p rfl ?_
          refine Ex.p rfl ?_
          refine Ex.p rfl ?_
          refine Ex.gf 0 0 rfl rfl rfl ?_
          refine Ex.p rfl ?_
          refine Ex.p rfl ?_
          rw [i_add1]
          refine Ex.pf 0 0 rfl rfl rfl rfl rfl rfl ?_
          refine Ex.p rfl ?_
          refine Ex.p rfl ?_
          rw [i_add1]
          refine ih (d + 1) (q + 1) (v * 10 + j) (by omega) (by omega) (by omega) (by omega) (by rw [Nat.pow_succ]; omega) hdig _ (fun z h => ?_)
          simp only [List.mem_cons, List.not_mem_nil, or_false] at h
          rcases h with rfl | rfl | rfl | rfl <;> simp [xs1, Value.category]
  have start : ∀ (ng : Bool) (q0 : Nat), pNumAt xs ng q0 = P → q0 ≤ xs.length → ∀ lv9 : List (Nat × Value), (∀ z ∈ [(3, .int (b32 ng)), (0, .ref a)], z ∈ lv9) → Ex l mTr_readPart D R A (xQ D A Q) R.cells R.slots 67 lv9 [] [sTr a tx dr q0 f t ch nu px py, Cx] 0 0 := by
    intro ng q0 hPP hq0 lv9 hlv
    refine Ex.lv hlv ?_
    refine Ex.p rfl ?_
    refine Ex.p rfl ?_
    refine Ex.p rfl ?_
    refine Ex.p rfl ?_
    refine loop ng q0 hPP 8 0 q0 0 (by omega) (by omega) rfl hq0 (by decide) rfl _ (fun z h => ?_)
    simp only [List.mem_cons, List.not_mem_nil, or_false] at h
    rcases h with rfl | rfl | rfl | rfl <;> simp [xs1, Value.category, nI]
  refine Ex.p rfl ?_
  refine Ex.gf 0 0 rfl rfl rfl ?_
  refine Ex.p rfl ?_
  refine Ex.gf 0 0 rfl rfl rfl ?_
  refine Ex.cv (Mc := mRo_get) (Rc := rm 0 0 0) (As := [.int (nI p)]) (rest := []) (Sr := [sTr a tx dr p f t ch nu px py]) (ic := 1) (jc := 0) (ci := 5) [1] [0] (ct_Ro_get hx) rfl lk_7_50 lcRo_get rfl rfl rfl rfl rfl (by decide) rfl (by rw [eC]; rfl) rfl (by decide) ⟨by dsimp only [rm]; omega, by show 8 + (2 + 11) + 0 ≤ R.locals; omega⟩ (Nat.le_of_ble_eq_true rfl) (by dsimp only [rm]; omega) (by dsimp only [rm]; omega) ?_
  rintro w S1 ⟨rfl, rfl⟩
  rw [rget_gt (by omega)]
  refine Ex.p rfl ?_
  refine Ex.br rfl (fun c1 => ?_) (fun c1 => ?_)
  · have c1 : gt xs p = c := c1
    rw [if_pos c1] at hP
    unfold pNum at hP
    have hlt : p < xs.length := gt_lt (by rw [c1]; exact hc)
    refine Ex.p rfl ?_
    refine Ex.p rfl ?_
    refine Ex.gf 0 0 rfl rfl rfl ?_
    refine Ex.p rfl ?_
    refine Ex.p rfl ?_
    rw [i_add1]
    refine Ex.pf 0 0 rfl rfl rfl rfl rfl rfl ?_
    refine Ex.p rfl ?_
    cases sg with
    | false =>
      have hng : pNeg xs false (p + 1) = false := rfl
      rw [hng] at hP
      refine Ex.br rfl (fun _ => ?_) (fun c => absurd rfl c)
      refine Ex.p rfl ?_
      refine Ex.p rfl ?_
      refine Ex.p rfl ?_
      refine Ex.br rfl (fun _ => ?_) (fun c => absurd rfl c)
      refine start false (p + 1) hP hlt _ (fun z h => ?_)
      simp only [List.mem_cons, List.not_mem_nil, or_false] at h
      rcases h with rfl | rfl <;> first | (simp [xs1, lv_args, Value.category, b32]; done) | (simp [xs1, lv_args, Value.category, b32]; decide)
    | true =>
      refine Ex.br rfl (fun c => absurd c (by decide)) (fun _ => ?_)
      refine Ex.p rfl ?_
      refine Ex.gf 0 0 rfl rfl rfl ?_
      refine Ex.p rfl ?_
      refine Ex.gf 0 0 rfl rfl rfl ?_
      refine Ex.cv (Mc := mRo_get) (Rc := rm 0 0 0) (As := [.int (nI (p + 1))]) (rest := []) (Sr := [sTr a tx dr (p + 1) f t ch nu px py]) (ic := 1) (jc := 0) (ci := 5) [1] [0] (ct_Ro_get hx) rfl lk_7_50 lcRo_get rfl rfl rfl rfl rfl (by decide) rfl (by rw [eC]; rfl) rfl (by decide) ⟨by dsimp only [rm]; omega, by show 8 + (2 + 11) + 0 ≤ R.locals; omega⟩ (Nat.le_of_ble_eq_true rfl) (by dsimp only [rm]; omega) (by dsimp only [rm]; omega) ?_
      rintro w S1 ⟨rfl, rfl⟩
      rw [rget_gt (by omega)]
      refine Ex.p rfl ?_
      refine Ex.br rfl (fun c2 => ?_) (fun c2 => ?_)
      · have c2 : ¬ gt xs (p + 1) = 45 := c2
        have hng : pNeg xs true (p + 1) = false := by unfold pNeg; rw [decide_eq_false c2]; rfl
        rw [hng] at hP
        refine Ex.p rfl ?_
        refine Ex.p rfl ?_
        refine Ex.p rfl ?_
        refine Ex.br rfl (fun _ => ?_) (fun c => absurd rfl c)
        refine start false (p + 1) hP hlt _ (fun z h => ?_)
        simp only [List.mem_cons, List.not_mem_nil, or_false] at h
        rcases h with rfl | rfl <;> first | (simp [xs1, lv_args, Value.category, b32]; done) | (simp [xs1, lv_args, Value.category, b32]; decide)
      · have c2 : gt xs (p + 1) = 45 := Decidable.byContradiction c2
        have hng : pNeg xs true (p + 1) = true := by unfold pNeg; rw [decide_eq_true c2]; rfl
        rw [hng] at hP
        have hlt2 : p + 1 < xs.length := gt_lt (by rw [c2]; decide)
        refine Ex.p rfl ?_
        refine Ex.p rfl ?_
        refine Ex.p rfl ?_
        refine Ex.p rfl ?_
        refine Ex.br rfl (fun c => absurd c (by decide)) (fun _ => ?_)
        refine Ex.p rfl ?_
        refine Ex.p rfl ?_
        refine Ex.gf 0 0 rfl rfl rfl ?_
        refine Ex.p rfl ?_
        refine Ex.p rfl ?_
        rw [i_add1]
        refine Ex.pf 0 0 rfl rfl rfl rfl rfl rfl ?_
        refine start true (p + 1 + 1) hP hlt2 _ (fun z h => ?_)
        simp only [List.mem_cons, List.not_mem_nil, or_false] at h
        rcases h with rfl | rfl <;> first | (simp [xs1, lv_args, Value.category, b32]; done) | (simp [xs1, lv_args, Value.category, b32]; decide)
  · have c1 : ¬ gt xs p = c := c1
    rw [if_neg c1] at hP
    subst hP
    refine Ex.p rfl ?_
    refine Ex.zret rfl rfl (Or.inl rfl) (Nat.zero_le _) (Nat.zero_le _) rfl ?_
    subst hQ
    exact ⟨rfl, nu, rfl, fun x h => by cases h⟩
/-- readPlace -/
theorem ct_Tr_readPlace {a tx dr p cp L : Nat} {f t ch nu px py : Int32} {xs : List Int32} {Cx : va_W} (hx : IsRow D tx L cp xs Cx) (hp : p ≤ xs.length) (hr : rmOk R 2 0 0) : Ct l mTr_readPlace D R [.ref a] [sTr a tx dr p f t ch nu px py, Cx] (fun v S => v = some (.int (b32 (pPlace xs p).1.isSome)) ∧ ∃ nu' px' py', S = [sTr a tx dr (pPlace xs p).2 f t ch nu' px' py', Cx] ∧ ∀ x, (pPlace xs p).1 = some x → px' = x.1 ∧ py' = x.2) := by
  obtain ⟨r1, r2, r3, r4⟩ := hr
  refine Ct.of rfl (by decide) tkTr_readPlace (Nat.le_of_ble_eq_true rfl) (fun A => ?_)
  refine Ex.p rfl ?_
  refine Ex.p rfl ?_
  refine Ex.p rfl ?_
  refine Ex.cv (Mc := mTr_readPart) (Rc := rm 1 0 0) (As := [.int 88, .int (b32 true)]) (rest := []) (Sr := []) (ic := 0) (jc := 0) (ci := 7) [0, 1] [] (ct_Tr_readPart hx (by decide) hp (rm_ok _ _ _)) rfl lk_7_67 lcTr_readPart rfl rfl rfl rfl rfl (by decide) rfl rfl rfl (by decide) ⟨by dsimp only [rm]; omega, by show 8 + (6 + 11) + 40 ≤ R.locals; omega⟩ (Nat.le_of_ble_eq_true rfl) (by dsimp only [rm]; omega) (by dsimp only [rm]; omega) ?_
  rintro w S1 ⟨rfl, nu1, rfl, hnu1⟩
  have hle := pPart_le (xs := xs) (c := 88) (sg := true) (by decide) hp
  unfold pPlace
  generalize pPart xs 88 true p = P1 at hnu1 hle
  obtain ⟨o1, p1⟩ := P1
  cases o1 with
  | none =>
    refine Ex.br rfl (fun c => absurd rfl c) (fun _ => ?_)
    refine Ex.p rfl ?_
    exact Ex.zret rfl rfl (Or.inl rfl) (Nat.zero_le _) (Nat.zero_le _) rfl ⟨rfl, _, _, _, rfl, fun x h => by cases h⟩
  | some x1 =>
    have e1 := hnu1 x1 rfl
    subst e1
    refine Ex.br rfl (fun _ => ?_) (fun c => absurd (show (1 : Int32) ≠ 0 by decide) c)
    refine Ex.p rfl ?_
    refine Ex.p rfl ?_
    refine Ex.gf 0 0 rfl rfl rfl ?_
    refine Ex.pf 0 0 rfl rfl rfl rfl rfl rfl ?_
    refine Ex.p rfl ?_
    refine Ex.p rfl ?_
    refine Ex.p rfl ?_
    refine Ex.cv (Mc := mTr_readPart) (Rc := rm 1 0 0) (As := [.int 89, .int (b32 true)]) (rest := []) (Sr := []) (ic := 0) (jc := 0) (ci := 7) [0, 1] [] (ct_Tr_readPart hx (by decide) hle.2.1 (rm_ok _ _ _)) rfl lk_7_67 lcTr_readPart rfl rfl rfl rfl rfl (by decide) rfl rfl rfl (by decide) ⟨by dsimp only [rm]; omega, by show 8 + (6 + 11) + 40 ≤ R.locals; omega⟩ (Nat.le_of_ble_eq_true rfl) (by dsimp only [rm]; omega) (by dsimp only [rm]; omega) ?_
    rintro w S1 ⟨rfl, nu2, rfl, hnu2⟩
    dsimp only
    generalize pPart xs 89 true p1 = P2 at hnu2
    obtain ⟨o2, p2⟩ := P2
    cases o2 with
    | none =>
      refine Ex.br rfl (fun c => absurd rfl c) (fun _ => ?_)
      refine Ex.p rfl ?_
      exact Ex.zret rfl rfl (Or.inl rfl) (Nat.zero_le _) (Nat.zero_le _) rfl ⟨rfl, _, _, _, rfl, fun x h => by cases h⟩
    | some x2 =>
      have e2 := hnu2 x2 rfl
      subst e2
      refine Ex.br rfl (fun _ => ?_) (fun c => absurd (show (1 : Int32) ≠ 0 by decide) c)
      refine Ex.p rfl ?_
      refine Ex.p rfl ?_
      refine Ex.gf 0 0 rfl rfl rfl ?_
      refine Ex.pf 0 0 rfl rfl rfl rfl rfl rfl ?_
      refine Ex.p rfl ?_
      exact Ex.zret rfl rfl (Or.inr rfl) (Nat.zero_le _) (Nat.zero_le _) rfl ⟨rfl, _, _, _, rfl, fun x h => by cases h; exact ⟨rfl, rfl⟩⟩
end R2

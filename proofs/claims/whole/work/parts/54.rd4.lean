/-! TextReader: readToolLine -/
section R4
variable {l : Launch} {D : xD} {R : Room}
theorem ct_Tr_readToolLine {a tx d p cp L : Nat} {f t ch nu px py : Int32} {xs : List Int32} {ts : List TV} {hs : List (Nat × HV)} {Cx Cd T Hs : va_W} (hx : IsRow D tx L cp xs Cx) (hd : IsDr D d ts hs Cd T Hs) (hp : p ≤ xs.length) (hr : rmOk R 5 5 28) : Ct l mTr_readToolLine D R [.ref a] [sTr a tx d p f t ch nu px py, Cx, Cd, T] (fun v S => v = some (.int (b32 (pToolLine xs ts.length p).1.isSome)) ∧ ∃ nu' Cd' T' ts', S = [sTr a tx d (pToolLine xs ts.length p).2 f t ch nu' px py, Cx, Cd', T'] ∧ IsDr D d ts' hs Cd' T' Hs ∧ (∀ x, (pToolLine xs ts.length p).1 = some x → ∃ q, ts' = ts ++ [(q, x.1, x.2, [], [], 0, false, 8, 8)]) ∧ ((pToolLine xs ts.length p).1 = none → ts' = ts)) := by
  obtain ⟨r1, r2, r3, r4⟩ := hr
  obtain ⟨ta, ha, ft, fh, eCd, -, -, -, -, h3, h4⟩ := id hd
  generalize hP : pToolLine xs ts.length p = P
  unfold pToolLine at hP
  refine Ct.of rfl (by decide) tkTr_readToolLine (Nat.le_of_ble_eq_true rfl) (fun A => ?_)
  generalize hQ : (fun (v : Option Value) S => v = some (.int (b32 P.1.isSome)) ∧ ∃ nu' Cd' T' ts', S = [sTr a tx d P.2 f t ch nu' px py, Cx, Cd', T'] ∧ IsDr D d ts' hs Cd' T' Hs ∧ (∀ x, P.1 = some x → ∃ q, ts' = ts ++ [(q, x.1, x.2, [], [], 0, false, 8, 8)]) ∧ (P.1 = none → ts' = ts)) = Q
  have failed : ∀ (q : Nat) (nu' : Int32) (lv9 : List (Nat × Value)) (pc k n : Nat), P = (none, q) → xfe mTr_readToolLine.2.2.2.2.2 pc = some .ireturn → k ≤ R.cells → n ≤ R.slots → Ex l mTr_readToolLine D R A (xQ D A Q) R.cells R.slots pc lv9 [.int 0] [sTr a tx d q f t ch nu' px py, Cx, Cd, T] k n := by
    intro q nu' lv9 pc k n e hf hk hn
    refine Ex.zret hf rfl (Or.inl rfl) hk hn rfl ?_
    subst hQ
    rw [e]
    exact ⟨rfl, _, _, _, _, rfl, hd, (fun x h => by cases h), (fun _ => rfl)⟩
  refine Ex.p rfl ?_
  refine Ex.gf 0 0 rfl rfl rfl ?_
  refine Ex.p rfl ?_
  refine Ex.p rfl ?_
  refine Ex.p rfl ?_
  refine Ex.p rfl ?_
  refine Ex.cv (Mc := mTr_readPart) (Rc := rm 1 0 0) (As := [.int 84, .int (b32 false)]) (rest := []) (Sr := [Cd, T]) (ic := 0) (jc := 0) (ci := 7) [0, 1] [2, 3] (ct_Tr_readPart hx (by decide) hp (rm_ok _ _ _)) rfl lk_7_67 lcTr_readPart rfl rfl rfl rfl rfl (by decide) rfl rfl rfl (by decide) ⟨by dsimp only [rm]; omega, by show 8 + (6 + 11) + 40 ≤ R.locals; omega⟩ (Nat.le_of_ble_eq_true rfl) (by dsimp only [rm]; omega) (by dsimp only [rm]; omega) ?_
  rintro w S1 ⟨rfl, nu1, rfl, hnu1⟩
  have hle := pPart_le (xs := xs) (c := 84) (sg := false) (by decide) hp
  generalize pPart xs 84 false p = P1 at hnu1 hle hP
  obtain ⟨o1, p1⟩ := P1
  refine Ex.sub (S' := [sTr a tx d p1 f t ch nu1 px py, Cx, Cd, T]) [2, 3, 0, 1] rfl rfl ?_
  cases o1 with
  | none =>
    refine Ex.br rfl (fun c => absurd rfl c) (fun _ => ?_)
    refine Ex.p rfl ?_
    exact failed p1 _ _ _ _ _ hP.symm rfl (Nat.zero_le _) (Nat.zero_le _)
  | some x1 =>
    have e1 := hnu1 x1 rfl
    subst e1
    refine Ex.br rfl (fun _ => ?_) (fun c => absurd (show (1 : Int32) ≠ 0 by decide) c)
    refine Ex.p rfl ?_
    refine Ex.gf 0 0 rfl rfl rfl ?_
    refine Ex.p rfl ?_
    refine Ex.p rfl ?_
    refine Ex.p rfl ?_
    refine Ex.p rfl ?_
    refine Ex.cv (Mc := mTr_readPart) (Rc := rm 1 0 0) (As := [.int 67, .int (b32 false)]) (rest := []) (Sr := [Cd, T]) (ic := 0) (jc := 0) (ci := 7) [0, 1] [2, 3] (ct_Tr_readPart hx (by decide) hle.2.1 (rm_ok _ _ _)) rfl lk_7_67 lcTr_readPart rfl rfl rfl rfl rfl (by decide) rfl rfl rfl (by decide) ⟨by dsimp only [rm]; omega, by show 8 + (6 + 11) + 40 ≤ R.locals; omega⟩ (Nat.le_of_ble_eq_true rfl) (by dsimp only [rm]; omega) (by dsimp only [rm]; omega) ?_
    rintro w S1 ⟨rfl, nu2, rfl, hnu2⟩
    have hle2 := pPart_le (xs := xs) (c := 67) (sg := false) (by decide) hle.2.1
    dsimp only at hle2 hnu2 hP ⊢
    generalize pPart xs 67 false p1 = P2 at hnu2 hle2 hP
    obtain ⟨o2, p2⟩ := P2
    refine Ex.sub (S' := [sTr a tx d p2 f t ch nu2 px py, Cx, Cd, T]) [2, 3, 0, 1] rfl rfl ?_
    cases o2 with
    | none =>
      refine Ex.br rfl (fun c => absurd rfl c) (fun _ => ?_)
      refine Ex.p rfl ?_
      exact failed p2 _ _ _ _ _ hP.symm rfl (Nat.zero_le _) (Nat.zero_le _)
    | some x2 =>
      have e2 := hnu2 x2 rfl
      subst e2
      have hp2 : p2 ≤ xs.length := hle2.2.1
      obtain ⟨arr, fx, eCx, x1, x2, x3, x4, x5, x6⟩ := id hx
      refine Ex.br rfl (fun _ => ?_) (fun c => absurd (show (1 : Int32) ≠ 0 by decide) c)
      dsimp only at hP
      refine Ex.p rfl ?_
      refine Ex.gf 0 0 rfl rfl rfl ?_
      refine Ex.p rfl ?_
      refine Ex.gf 0 0 rfl rfl rfl ?_
      refine Ex.cv (Mc := mRo_get) (Rc := rm 0 0 0) (As := [.int (nI p2)]) (rest := []) (Sr := [sTr a tx d p2 f t ch nu2 px py, Cd, T]) (ic := 1) (jc := 0) (ci := 5) [1] [0, 2, 3] (ct_Ro_get hx) rfl lk_7_50 lcRo_get rfl rfl rfl rfl rfl (by decide) rfl (by rw [eCx]; rfl) rfl (by decide) ⟨by dsimp only [rm]; omega, by show 8 + (2 + 11) + 0 ≤ R.locals; omega⟩ (Nat.le_of_ble_eq_true rfl) (by dsimp only [rm]; omega) (by dsimp only [rm]; omega) ?_
      rintro w S1 ⟨rfl, rfl⟩
      rw [rget_gt (by omega)]
      refine Ex.sub (S' := [sTr a tx d p2 f t ch nu2 px py, Cx, Cd, T]) [0, 3, 1, 2] rfl rfl ?_
      have s68 : ∀ (pl : Bool) (tt : Nat), tt < gSN → pl = decide (gt xs p2 = 80) → txt tt = (if gt xs p2 = 80 then [80, 10] else [78, 10]) → ∀ lv9 : List (Nat × Value), (∀ z ∈ [(3, Value.int (b32 pl)), (2, .int nu1), (1, .int (nI p)), (0, .ref a)], z ∈ lv9) → Ex l mTr_readToolLine D R A (xQ D A Q) R.cells R.slots 68 lv9 [.ref (D.2.2.2.1 tt), .ref a] [sTr a tx d p2 f t ch nu2 px py, Cx, Cd, T] 0 0 := by
        intro pl tt htt hpl ett lv9 hlv
        refine Ex.lv hlv ?_
        rw [← ett, ← hpl] at hP
        refine Ex.cv (Mc := mTr_passes) (Rc := rm 4 0 0) (As := [.ref (D.2.2.2.1 tt)]) (rest := []) (Sr := [Cd, T]) (ic := 0) (jc := 0) (ci := 7) [0, 1] [2, 3] (ct_Tr_passes hx htt hp2 (rm_ok _ _ _)) rfl lk_7_43 lcTr_passes rfl rfl rfl rfl rfl (by decide) rfl rfl rfl (by decide) ⟨by dsimp only [rm]; omega, by show 8 + (3 + 11) + 160 ≤ R.locals; omega⟩ (Nat.le_of_ble_eq_true rfl) (by dsimp only [rm]; omega) (by dsimp only [rm]; omega) ?_
        rintro w S1 ⟨rfl, rfl⟩
        generalize pLit xs (txt tt) p2 = P3 at hP
        obtain ⟨o3, p3⟩ := P3
        refine Ex.sub (S' := [sTr a tx d p3 f t ch nu2 px py, Cx, Cd, T]) [2, 3, 0, 1] rfl rfl ?_
        cases o3 with
        | false =>
          refine Ex.br rfl (fun c => absurd rfl c) (fun _ => ?_)
          refine Ex.p rfl ?_
          exact failed p3 _ _ _ _ _ hP.symm rfl (Nat.zero_le _) (Nat.zero_le _)
        | true =>
          dsimp only at hP
          refine Ex.br rfl (fun _ => ?_) (fun c => absurd (show (1 : Int32) ≠ 0 by decide) c)
          have s119 : ¬ (nu1 = nI ts.length ∧ (1 ≤ nu2.toInt ∧ nu2.toInt ≤ 10000) ∧ ts.length < 10) → ∀ k n : Nat, k ≤ R.cells → n ≤ R.slots → Ex l mTr_readToolLine D R A (xQ D A Q) R.cells R.slots 119 [(3, Value.int (b32 pl)), (2, .int nu1), (1, .int (nI p)), (0, .ref a)] [.ref a] [sTr a tx d p3 f t ch nu2 px py, Cx, Cd, T] k n := by
            intro hne k n hk hn
            rw [if_neg hne] at hP
            refine Ex.p rfl ?_
            refine Ex.p rfl ?_
            refine Ex.cv (Mc := mTr_can) (Rc := rm 0 0 0) (As := [.int (b32 false), .int (nI p)]) (rest := []) (Sr := [Cx, Cd, T]) (ic := 0) (jc := 0) (ci := 7) [0] [1, 2, 3] (ct_Tr_can) rfl lk_7_86 lcTr_can rfl rfl rfl rfl rfl (by decide) rfl rfl rfl (by decide) ⟨by dsimp only [rm]; omega, by show 8 + (3 + 11) + 0 ≤ R.locals; omega⟩ (Nat.le_of_ble_eq_true rfl) (by dsimp only [rm]; omega) (by dsimp only [rm]; omega) ?_
            rintro w S1 ⟨rfl, rfl⟩
            refine Ex.sub (S' := [sTr a tx d p f t ch nu2 px py, Cx, Cd, T]) [3, 0, 1, 2] rfl rfl ?_
            exact failed p _ _ _ _ _ hP.symm rfl (by dsimp only [rm]; omega) (by dsimp only [rm]; omega)
          refine Ex.p rfl ?_
          refine Ex.p rfl ?_
          refine Ex.p rfl ?_
          refine Ex.gf 0 0 rfl rfl rfl ?_
          refine Ex.gf 2 0 rfl (by rw [eCd]; rfl) rfl ?_
          refine Ex.br rfl (fun c => s119 (fun q => c q.1) _ _ (Nat.zero_le _) (Nat.zero_le _)) (fun c1 => ?_)
          have c1 : nu1 = nI ts.length := Decidable.byContradiction c1
          refine Ex.p rfl ?_
          refine Ex.gf 0 0 rfl rfl rfl ?_
          refine Ex.p rfl ?_
          refine Ex.cs0N (Mc := mDa_isDiameter) (Rc := rm 0 0 0) (As := [.long nu2.toInt64]) (rest := [.ref a]) ct_isDiameter rfl ln_7_99 lcDa_isDiameter rfl ⟨by dsimp only [rm]; omega, by show 8 + (2 + 11) + 0 ≤ R.locals; omega⟩ (Nat.le_of_ble_eq_true rfl) (Nat.zero_le _) (Nat.zero_le _) ?_
          rintro w S1 ⟨rfl, rfl⟩
          rw [Int32.toInt_toInt64]
          by_cases g1 : 1 ≤ nu2.toInt ∧ nu2.toInt ≤ 10000
          · rw [decide_eq_true g1]
            refine Ex.br rfl (fun c => absurd c (show (1 : Int32) ≠ 0 by decide)) (fun _ => ?_)
            refine Ex.p rfl ?_
            refine Ex.gf 0 0 rfl rfl rfl ?_
            refine Ex.p rfl ?_
            refine Ex.gf 0 0 rfl rfl rfl ?_
            refine Ex.p rfl ?_
            refine Ex.cv (Mc := mDr_addTool) (Rc := rm 3 5 28) (As := [.int nu2, .int (b32 pl)]) (rest := [.ref a]) (Sr := [sTr a tx d p3 f t ch nu2 px py, Cx]) (ic := 2) (jc := 0) (ci := 1) [2, 3] [0, 1] (ct_Dr_addTool hd (rm_ok _ _ _)) rfl lk_7_103 lcDr_addTool rfl rfl rfl rfl rfl (by decide) rfl (by rw [eCd]; rfl) rfl (by decide) ⟨by dsimp only [rm]; omega, by show 8 + (3 + 11) + 120 ≤ R.locals; omega⟩ (Nat.le_of_ble_eq_true rfl) (by dsimp only [rm]; omega) (by dsimp only [rm]; omega) ?_
            rintro w S1 h9
            rcases h9 with ⟨h10, rfl, rfl⟩ | ⟨h10, rfl, Cd', T', q, rfl, hd'⟩
            · refine Ex.p rfl ?_
              refine Ex.br rfl (fun _ => ?_) (fun c => absurd rfl c)
              exact s119 (fun q => by omega) _ _ (by dsimp only [rm]; omega) (by dsimp only [rm]; omega)
            · refine Ex.p rfl ?_
              refine Ex.br rfl (fun c => ?_) (fun _ => ?_)
              · have c := congrArg Int32.toInt c
                rw [nI_toInt (by omega), show (Int32.ofInt (-1)).toInt = -1 from rfl] at c
                omega
              · rw [if_pos ⟨c1, g1, h10⟩] at hP
                refine Ex.p rfl ?_
                refine Ex.p rfl ?_
                refine Ex.p rfl ?_
                refine Ex.cv (Mc := mTr_can) (Rc := rm 0 0 0) (As := [.int (b32 true), .int (nI p)]) (rest := []) (Sr := [Cx, Cd', T']) (ic := 0) (jc := 0) (ci := 7) [0] [1, 2, 3] (ct_Tr_can) rfl lk_7_86 lcTr_can rfl rfl rfl rfl rfl (by decide) rfl rfl rfl (by decide) ⟨by dsimp only [rm]; omega, by show 8 + (3 + 11) + 0 ≤ R.locals; omega⟩ (Nat.le_of_ble_eq_true rfl) (by dsimp only [rm]; omega) (by dsimp only [rm]; omega) ?_
                rintro w S1 ⟨rfl, rfl⟩
                refine Ex.sub (S' := [sTr a tx d p3 f t ch nu2 px py, Cx, Cd', T']) [3, 0, 1, 2] rfl rfl ?_
                refine Ex.zret rfl rfl (Or.inr rfl) (by dsimp only [rm]; omega) (by dsimp only [rm]; omega) rfl ?_
                subst hQ
                subst hP
                exact ⟨rfl, _, _, _, _, rfl, hd', (fun x h => by cases h; exact ⟨q, rfl⟩), (fun h => by cases h)⟩
          · rw [decide_eq_false g1]
            exact Ex.br rfl (fun _ => s119 (fun q => g1 q.2.1) _ _ (Nat.zero_le _) (Nat.zero_le _)) (fun c => absurd rfl c)
      refine Ex.p rfl ?_
      refine Ex.br rfl (fun c => ?_) (fun c => ?_)
      · have c : ¬ gt xs p2 = 80 := c
        refine Ex.p rfl ?_
        refine Ex.p rfl ?_
        refine Ex.p rfl ?_
        refine Ex.p rfl ?_
        refine Ex.br rfl (fun _ => ?_) (fun c => absurd rfl c)
        refine Ex.ldcS rfl ?_
        refine s68 false 3 (by decide) (by rw [decide_eq_false c]) (by rw [if_neg c]; rfl) _ (fun z h => ?_)
        simp only [List.mem_cons, List.not_mem_nil, or_false] at h
        rcases h with rfl | rfl | rfl | rfl <;> first | (simp [xs1, lv_args, Value.category, b32, nI]; done) | (simp [xs1, lv_args, Value.category, b32, nI]; decide) | (simp [xs1, lv_args, Value.category, b32, nI]; exact Or.inr (by decide))
      · have c : gt xs p2 = 80 := Decidable.byContradiction c
        refine Ex.p rfl ?_
        refine Ex.p rfl ?_
        refine Ex.p rfl ?_
        refine Ex.p rfl ?_
        refine Ex.p rfl ?_
        refine Ex.br rfl (fun c => absurd c (show (1 : Int32) ≠ 0 by decide)) (fun _ => ?_)
        refine Ex.ldcS rfl ?_
        refine Ex.p rfl ?_
        refine s68 true 2 (by decide) (by rw [decide_eq_true c]) (by rw [if_pos c]; rfl) _ (fun z h => ?_)
        simp only [List.mem_cons, List.not_mem_nil, or_false] at h
        rcases h with rfl | rfl | rfl | rfl <;> first | (simp [xs1, lv_args, Value.category, b32, nI]; done) | (simp [xs1, lv_args, Value.category, b32, nI]; decide) | (simp [xs1, lv_args, Value.category, b32, nI]; exact Or.inr (by decide))
end R4

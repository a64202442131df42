/-! TextReader: readLayerLine, readChoiceLine -/
section R3
variable {l : Launch} {D : xD} {R : Room}
theorem ct_Tr_readLayerLine {a tx dr p cp L : Nat} {f t ch nu px py : Int32} {xs : List Int32} {Cx : va_W} (hx : IsRow D tx L cp xs Cx) (hp : p ≤ xs.length) (hr : rmOk R 5 0 0) : Ct l mTr_readLayerLine D R [.ref a] [sTr a tx dr p f t ch nu px py, Cx] (fun v S => v = some (.int (b32 (pLayerLine xs p).1.isSome)) ∧ ∃ f' t' nu', S = [sTr a tx dr (pLayerLine xs p).2 f' t' ch nu' px py, Cx] ∧ ∀ x, (pLayerLine xs p).1 = some x → f' = x.1 ∧ t' = x.2) := by
  obtain ⟨r1, r2, r3, r4⟩ := hr
  refine Ct.of rfl (by decide) tkTr_readLayerLine (Nat.le_of_ble_eq_true rfl) (fun A => ?_)
  refine Ex.p rfl ?_
  refine Ex.gf 0 0 rfl rfl rfl ?_
  refine Ex.p rfl ?_
  refine Ex.p rfl ?_
  refine Ex.p rfl ?_
  refine Ex.p rfl ?_
  refine Ex.cv (Mc := mTr_readPart) (Rc := rm 1 0 0) (As := [.int 76, .int (b32 false)]) (rest := []) (Sr := []) (ic := 0) (jc := 0) (ci := 7) [0, 1] [] (ct_Tr_readPart hx (by decide) hp (rm_ok _ _ _)) rfl lk_7_67 lcTr_readPart rfl rfl rfl rfl rfl (by decide) rfl rfl rfl (by decide) ⟨by dsimp only [rm]; omega, by show 8 + (6 + 11) + 40 ≤ R.locals; omega⟩ (Nat.le_of_ble_eq_true rfl) (by dsimp only [rm]; omega) (by dsimp only [rm]; omega) ?_
  rintro w S1 ⟨rfl, nu1, rfl, hnu1⟩
  have hle := pPart_le (xs := xs) (c := 76) (sg := false) (by decide) hp
  unfold pLayerLine
  generalize pPart xs 76 false p = P1 at hnu1 hle
  obtain ⟨o1, p1⟩ := P1
  cases o1 with
  | none =>
    refine Ex.br rfl (fun c => absurd rfl c) (fun _ => ?_)
    refine Ex.p rfl ?_
    exact Ex.zret rfl rfl (Or.inl rfl) (Nat.zero_le _) (Nat.zero_le _) rfl ⟨rfl, _, _, _, rfl, fun x h => by cases h⟩
  | some x1 =>
    have e1 := hnu1 x1 rfl
    subst e1
    refine Ex.br rfl (fun _ => ?_) (fun c => absurd (show (1 : Int32) ≠ 0 by decide) c)
    refine Ex.p rfl ?_
    refine Ex.p rfl ?_
    refine Ex.gf 0 0 rfl rfl rfl ?_
    refine Ex.pf 0 0 rfl rfl rfl rfl rfl rfl ?_
    refine Ex.p rfl ?_
    refine Ex.p rfl ?_
    refine Ex.p rfl ?_
    refine Ex.cv (Mc := mTr_readPart) (Rc := rm 1 0 0) (As := [.int 44, .int (b32 false)]) (rest := []) (Sr := []) (ic := 0) (jc := 0) (ci := 7) [0, 1] [] (ct_Tr_readPart hx (by decide) hle.2.1 (rm_ok _ _ _)) rfl lk_7_67 lcTr_readPart rfl rfl rfl rfl rfl (by decide) rfl rfl rfl (by decide) ⟨by dsimp only [rm]; omega, by show 8 + (6 + 11) + 40 ≤ R.locals; omega⟩ (Nat.le_of_ble_eq_true rfl) (by dsimp only [rm]; omega) (by dsimp only [rm]; omega) ?_
    rintro w S1 ⟨rfl, nu2, rfl, hnu2⟩
    have hle2 := pPart_le (xs := xs) (c := 44) (sg := false) (by decide) hle.2.1
    dsimp only at hle2 hnu2 ⊢
    generalize pPart xs 44 false p1 = P2 at hnu2 hle2
    obtain ⟨o2, p2⟩ := P2
    cases o2 with
    | none =>
      refine Ex.br rfl (fun _ => ?_) (fun c => absurd rfl c)
      refine Ex.p rfl ?_
      exact Ex.zret rfl rfl (Or.inl rfl) (Nat.zero_le _) (Nat.zero_le _) rfl ⟨rfl, _, _, _, rfl, fun x h => by cases h⟩
    | some x2 =>
      have e2 := hnu2 x2 rfl
      subst e2
      refine Ex.br rfl (fun c => absurd c (show (1 : Int32) ≠ 0 by decide)) (fun _ => ?_)
      refine Ex.p rfl ?_
      refine Ex.ldcS rfl ?_
      refine Ex.cv (Mc := mTr_passes) (Rc := rm 4 0 0) (As := [.ref (D.2.2.2.1 1)]) (rest := []) (Sr := []) (ic := 0) (jc := 0) (ci := 7) [0, 1] [] (ct_Tr_passes hx (by decide) hle2.2.1 (rm_ok _ _ _)) rfl lk_7_43 lcTr_passes rfl rfl rfl rfl rfl (by decide) rfl rfl rfl (by decide) ⟨by dsimp only [rm]; omega, by show 8 + (3 + 11) + 160 ≤ R.locals; omega⟩ (Nat.le_of_ble_eq_true rfl) (by dsimp only [rm]; omega) (by dsimp only [rm]; omega) ?_
      rintro w S1 ⟨rfl, rfl⟩
      rw [show txt 1 = [10] from rfl]
      dsimp only
      generalize pLit xs [10] p2 = P3
      obtain ⟨o3, p3⟩ := P3
      cases o3 with
      | false =>
        refine Ex.br rfl (fun c => absurd rfl c) (fun _ => ?_)
        refine Ex.p rfl ?_
        exact Ex.zret rfl rfl (Or.inl rfl) (Nat.zero_le _) (Nat.zero_le _) rfl ⟨rfl, _, _, _, rfl, fun x h => by cases h⟩
      | true =>
        refine Ex.br rfl (fun _ => ?_) (fun c => absurd (show (1 : Int32) ≠ 0 by decide) c)
        refine Ex.p rfl ?_
        refine Ex.p rfl ?_
        refine Ex.gf 0 0 rfl rfl rfl ?_
        refine Ex.pf 0 0 rfl rfl rfl rfl rfl rfl ?_
        dsimp only
        generalize hQ : (fun (v : Option Value) S => v = some (.int (b32 (if (0 ≤ nu1.toInt ∧ nu1.toInt ≤ 7) ∧ (0 ≤ nu2.toInt ∧ nu2.toInt ≤ 7) ∧ nu1 ≤ nu2 then (some (nu1, nu2), p3) else (none, p)).1.isSome)) ∧ ∃ f' t' nu', S = [sTr a tx dr (if (0 ≤ nu1.toInt ∧ nu1.toInt ≤ 7) ∧ (0 ≤ nu2.toInt ∧ nu2.toInt ≤ 7) ∧ nu1 ≤ nu2 then (some (nu1, nu2), p3) else (none, p)).2 f' t' ch nu' px py, Cx] ∧ ∀ x, (if (0 ≤ nu1.toInt ∧ nu1.toInt ≤ 7) ∧ (0 ≤ nu2.toInt ∧ nu2.toInt ≤ 7) ∧ nu1 ≤ nu2 then (some (nu1, nu2), p3) else (none, p)).1 = some x → f' = x.1 ∧ t' = x.2) = Q
        have fin : ∀ b : Bool, b = decide ((0 ≤ nu1.toInt ∧ nu1.toInt ≤ 7) ∧ (0 ≤ nu2.toInt ∧ nu2.toInt ≤ 7) ∧ nu1 ≤ nu2) → Ex l mTr_readLayerLine D R A (xQ D A Q) R.cells R.slots 91 [(1, .int (nI p)), (0, .ref a)] [.int (b32 b), .ref a] [sTr a tx dr p3 nu1 nu2 ch nu2 px py, Cx] 0 0 := by
          intro b hb
          refine Ex.p rfl ?_
          refine Ex.cv (Mc := mTr_can) (Rc := rm 0 0 0) (As := [.int (b32 b), .int (nI p)]) (rest := []) (Sr := [Cx]) (ic := 0) (jc := 0) (ci := 7) [0] [1] (ct_Tr_can) rfl lk_7_86 lcTr_can rfl rfl rfl rfl rfl (by decide) rfl rfl rfl (by decide) ⟨by dsimp only [rm]; omega, by show 8 + (3 + 11) + 0 ≤ R.locals; omega⟩ (Nat.le_of_ble_eq_true rfl) (by dsimp only [rm]; omega) (by dsimp only [rm]; omega) ?_
          rintro w S1 ⟨rfl, rfl⟩
          refine Ex.sub (S' := [sTr a tx dr (if b then p3 else p) nu1 nu2 ch nu2 px py, Cx]) [1, 0] rfl rfl ?_
          refine Ex.zret rfl rfl (b32_01 b) (Nat.zero_le _) (Nat.zero_le _) rfl ?_
          subst hQ
          by_cases h9 : (0 ≤ nu1.toInt ∧ nu1.toInt ≤ 7) ∧ (0 ≤ nu2.toInt ∧ nu2.toInt ≤ 7) ∧ nu1 ≤ nu2
          · rw [decide_eq_true h9] at hb
            subst hb
            rw [if_pos h9]
            exact ⟨rfl, _, _, _, rfl, fun x h => by cases h; exact ⟨rfl, rfl⟩⟩
          · rw [decide_eq_false h9] at hb
            subst hb
            rw [if_neg h9]
            exact ⟨rfl, _, _, _, rfl, fun x h => by cases h⟩
        refine Ex.p rfl ?_
        refine Ex.p rfl ?_
        refine Ex.gf 0 0 rfl rfl rfl ?_
        refine Ex.cs0N (Mc := mDa_isLayer) (Rc := rm 0 0 0) (As := [.int nu1]) (rest := [.ref a]) ct_isLayer rfl ln_7_82 lcDa_isLayer rfl ⟨by dsimp only [rm]; omega, by show 8 + (1 + 11) + 0 ≤ R.locals; omega⟩ (Nat.le_of_ble_eq_true rfl) (Nat.zero_le _) (Nat.zero_le _) ?_
        rintro w S1 ⟨rfl, rfl⟩
        by_cases g1 : 0 ≤ nu1.toInt ∧ nu1.toInt ≤ 7
        · rw [decide_eq_true g1]
          refine Ex.br rfl (fun c => absurd c (show (1 : Int32) ≠ 0 by decide)) (fun _ => ?_)
          refine Ex.p rfl ?_
          refine Ex.gf 0 0 rfl rfl rfl ?_
          refine Ex.cs0N (Mc := mDa_isLayer) (Rc := rm 0 0 0) (As := [.int nu2]) (rest := [.ref a]) ct_isLayer rfl ln_7_82 lcDa_isLayer rfl ⟨by dsimp only [rm]; omega, by show 8 + (1 + 11) + 0 ≤ R.locals; omega⟩ (Nat.le_of_ble_eq_true rfl) (Nat.zero_le _) (Nat.zero_le _) ?_
          rintro w S1 ⟨rfl, rfl⟩
          by_cases g2 : 0 ≤ nu2.toInt ∧ nu2.toInt ≤ 7
          · rw [decide_eq_true g2]
            refine Ex.br rfl (fun c => absurd c (show (1 : Int32) ≠ 0 by decide)) (fun _ => ?_)
            refine Ex.p rfl ?_
            refine Ex.gf 0 0 rfl rfl rfl ?_
            refine Ex.p rfl ?_
            refine Ex.gf 0 0 rfl rfl rfl ?_
            refine Ex.br rfl (fun c3 => ?_) (fun c3 => ?_)
            · have c3 : nu2 < nu1 := c3
              refine Ex.p rfl ?_
              exact fin false (by rw [decide_eq_false (fun q => absurd c3 (Int32.not_lt.mpr q.2.2))])
            · have c3 : ¬ nu2 < nu1 := c3
              refine Ex.p rfl ?_
              refine Ex.p rfl ?_
              exact fin true (by rw [decide_eq_true ⟨g1, g2, Int32.not_lt.mp c3⟩])
          · rw [decide_eq_false g2]
            refine Ex.br rfl (fun _ => ?_) (fun c => absurd rfl c)
            refine Ex.p rfl ?_
            exact fin false (by rw [decide_eq_false (fun q => g2 q.2.1)])
        · rw [decide_eq_false g1]
          refine Ex.br rfl (fun _ => ?_) (fun c => absurd rfl c)
          refine Ex.p rfl ?_
          exact fin false (by rw [decide_eq_false (fun q => g1 q.1)])
theorem ct_Tr_readChoiceLine {a tx d p cp L : Nat} {f t ch nu px py : Int32} {xs : List Int32} {ts : List TV} {hs : List (Nat × HV)} {Cx Cd T Hs : va_W} (hx : IsRow D tx L cp xs Cx) (hd : IsDr D d ts hs Cd T Hs) (hp : p ≤ xs.length) (hr : rmOk R 5 0 0) : Ct l mTr_readChoiceLine D R [.ref a] [sTr a tx d p f t ch nu px py, Cx, Cd] (fun v S => v = some (.int (b32 (pChoice xs ts.length p).1.isSome)) ∧ ∃ ch' nu', S = [sTr a tx d (pChoice xs ts.length p).2 f t ch' nu' px py, Cx, Cd] ∧ ∀ x, (pChoice xs ts.length p).1 = some x → ch' = x) := by
  obtain ⟨r1, r2, r3, r4⟩ := hr
  obtain ⟨ta, ha, ft, fh, eCd, -, -, -, -, h3, h4⟩ := id hd
  refine Ct.of rfl (by decide) tkTr_readChoiceLine (Nat.le_of_ble_eq_true rfl) (fun A => ?_)
  refine Ex.p rfl ?_
  refine Ex.gf 0 0 rfl rfl rfl ?_
  refine Ex.p rfl ?_
  refine Ex.p rfl ?_
  refine Ex.p rfl ?_
  refine Ex.p rfl ?_
  refine Ex.cv (Mc := mTr_readPart) (Rc := rm 1 0 0) (As := [.int 84, .int (b32 false)]) (rest := []) (Sr := [Cd]) (ic := 0) (jc := 0) (ci := 7) [0, 1] [2] (ct_Tr_readPart hx (by decide) hp (rm_ok _ _ _)) rfl lk_7_67 lcTr_readPart rfl rfl rfl rfl rfl (by decide) rfl rfl rfl (by decide) ⟨by dsimp only [rm]; omega, by show 8 + (6 + 11) + 40 ≤ R.locals; omega⟩ (Nat.le_of_ble_eq_true rfl) (by dsimp only [rm]; omega) (by dsimp only [rm]; omega) ?_
  rintro w S1 ⟨rfl, nu1, rfl, hnu1⟩
  have hle := pPart_le (xs := xs) (c := 84) (sg := false) (by decide) hp
  unfold pChoice
  generalize pPart xs 84 false p = P1 at hnu1 hle
  obtain ⟨o1, p1⟩ := P1
  cases o1 with
  | none =>
    refine Ex.br rfl (fun _ => ?_) (fun c => absurd rfl c)
    refine Ex.p rfl ?_
    refine Ex.sub (S' := [sTr a tx d p1 f t ch nu1 px py, Cx, Cd]) [1, 2, 0] rfl rfl ?_
    exact Ex.zret rfl rfl (Or.inl rfl) (Nat.zero_le _) (Nat.zero_le _) rfl ⟨rfl, _, _, rfl, fun x h => by cases h⟩
  | some x1 =>
    have e1 := hnu1 x1 rfl
    subst e1
    refine Ex.br rfl (fun c => absurd c (show (1 : Int32) ≠ 0 by decide)) (fun _ => ?_)
    refine Ex.p rfl ?_
    refine Ex.ldcS rfl ?_
    refine Ex.cv (Mc := mTr_passes) (Rc := rm 4 0 0) (As := [.ref (D.2.2.2.1 1)]) (rest := []) (Sr := [Cd]) (ic := 1) (jc := 0) (ci := 7) [1, 2] [0] (ct_Tr_passes hx (by decide) hle.2.1 (rm_ok _ _ _)) rfl lk_7_43 lcTr_passes rfl rfl rfl rfl rfl (by decide) rfl rfl rfl (by decide) ⟨by dsimp only [rm]; omega, by show 8 + (3 + 11) + 160 ≤ R.locals; omega⟩ (Nat.le_of_ble_eq_true rfl) (by dsimp only [rm]; omega) (by dsimp only [rm]; omega) ?_
    rintro w S1 ⟨rfl, rfl⟩
    rw [show txt 1 = [10] from rfl]
    dsimp only
    generalize pLit xs [10] p1 = P3
    obtain ⟨o3, p3⟩ := P3
    refine Ex.sub (S' := [sTr a tx d p3 f t ch nu1 px py, Cx, Cd]) [1, 2, 0] rfl rfl ?_
    cases o3 with
    | false =>
      refine Ex.br rfl (fun c => absurd rfl c) (fun _ => ?_)
      refine Ex.p rfl ?_
      exact Ex.zret rfl rfl (Or.inl rfl) (Nat.zero_le _) (Nat.zero_le _) rfl ⟨rfl, _, _, rfl, fun x h => by cases h⟩
    | true =>
      refine Ex.br rfl (fun _ => ?_) (fun c => absurd (show (1 : Int32) ≠ 0 by decide) c)
      refine Ex.p rfl ?_
      refine Ex.p rfl ?_
      refine Ex.gf 0 0 rfl rfl rfl ?_
      refine Ex.pf 0 0 rfl rfl rfl rfl rfl rfl ?_
      dsimp only
      generalize hQ : (fun (v : Option Value) S => v = some (.int (b32 (if 0 ≤ nu1.toInt ∧ nu1.toInt < ts.length then (some nu1, p3) else (none, p)).1.isSome)) ∧ ∃ ch' nu', S = [sTr a tx d (if 0 ≤ nu1.toInt ∧ nu1.toInt < ts.length then (some nu1, p3) else (none, p)).2 f t ch' nu' px py, Cx, Cd] ∧ ∀ x, (if 0 ≤ nu1.toInt ∧ nu1.toInt < ts.length then (some nu1, p3) else (none, p)).1 = some x → ch' = x) = Q
      have fin : ∀ b : Bool, b = decide (0 ≤ nu1.toInt ∧ nu1.toInt < ts.length) → Ex l mTr_readChoiceLine D R A (xQ D A Q) R.cells R.slots 54 [(1, .int (nI p)), (0, .ref a)] [.int (b32 b), .ref a] [sTr a tx d p3 f t nu1 nu1 px py, Cx, Cd] 0 0 := by
        intro b hb
        refine Ex.p rfl ?_
        refine Ex.cv (Mc := mTr_can) (Rc := rm 0 0 0) (As := [.int (b32 b), .int (nI p)]) (rest := []) (Sr := [Cx, Cd]) (ic := 0) (jc := 0) (ci := 7) [0] [1, 2] (ct_Tr_can) rfl lk_7_86 lcTr_can rfl rfl rfl rfl rfl (by decide) rfl rfl rfl (by decide) ⟨by dsimp only [rm]; omega, by show 8 + (3 + 11) + 0 ≤ R.locals; omega⟩ (Nat.le_of_ble_eq_true rfl) (by dsimp only [rm]; omega) (by dsimp only [rm]; omega) ?_
        rintro w S1 ⟨rfl, rfl⟩
        refine Ex.sub (S' := [sTr a tx d (if b then p3 else p) f t nu1 nu1 px py, Cx, Cd]) [2, 0, 1] rfl rfl ?_
        refine Ex.zret rfl rfl (b32_01 b) (Nat.zero_le _) (Nat.zero_le _) rfl ?_
        subst hQ
        by_cases h9 : 0 ≤ nu1.toInt ∧ nu1.toInt < ts.length
        · rw [decide_eq_true h9] at hb
          subst hb
          rw [if_pos h9]
          exact ⟨rfl, _, _, rfl, fun x h => by cases h; rfl⟩
        · rw [decide_eq_false h9] at hb
          subst hb
          rw [if_neg h9]
          exact ⟨rfl, _, _, rfl, fun x h => by cases h⟩
      refine Ex.p rfl ?_
      refine Ex.p rfl ?_
      refine Ex.gf 0 0 rfl rfl rfl ?_
      refine Ex.p rfl ?_
      refine Ex.gf 0 0 rfl rfl rfl ?_
      refine Ex.cv (Mc := mDr_toolAt) (Rc := rm 0 0 0) (As := [.int nu1]) (rest := [.ref a]) (Sr := [sTr a tx d p3 f t nu1 nu1 px py, Cx]) (ic := 2) (jc := 0) (ci := 1) [2] [0, 1] (ct_Dr_toolAt hd) rfl lk_7_107 lcDr_toolAt rfl rfl rfl rfl rfl (by decide) rfl (by rw [eCd]; rfl) rfl (by decide) ⟨by dsimp only [rm]; omega, by show 8 + (2 + 11) + 0 ≤ R.locals; omega⟩ (Nat.le_of_ble_eq_true rfl) (by dsimp only [rm]; omega) (by dsimp only [rm]; omega) ?_
      rintro w S1 ⟨rfl, rfl⟩
      by_cases h9 : 0 ≤ nu1.toInt ∧ nu1.toInt < ts.length
      · have hlt : nu1.toInt.toNat < ts.length := by omega
        rw [ixo, if_pos h9.1, List.getElem?_eq_getElem hlt]
        refine Ex.nuR rfl ?_
        refine Ex.p rfl ?_
        refine Ex.p rfl ?_
        exact fin true (by rw [decide_eq_true h9])
      · rw [ixo_none (by omega)]
        refine Ex.nuN rfl rfl ?_
        refine Ex.p rfl ?_
        exact fin false (by rw [decide_eq_false h9])
end R3

/-! Drawing: addTool, addHit -/
theorem i_add1 (n : Nat) : nI n + Int32.ofInt 1 = nI (n + 1) := nI_1 n
theorem i_sub1 (n : Nat) : nI (n + 1) - Int32.ofInt 1 = nI n := nI_pred n
/-- a tool behind one more hit -/
def tadd (t : TV) (x : Int32) : TV := (t.1, t.2.1, t.2.2.1, t.2.2.2.1 ++ [x], t.2.2.2.2.1, t.2.2.2.2.2.1, false, rcap t.2.2.2.2.2.2.2.1 t.2.2.2.1.length, t.2.2.2.2.2.2.2.2)
section DR2
variable {l : Launch} {D : xD} {R : Room}
theorem ct_Dr_addTool {d : Nat} {ts : List TV} {hs : List (Nat × HV)} {Cd T Hs : va_W} {dm : Int32} {pl : Bool} (h : IsDr D d ts hs Cd T Hs) (hr : rmOk R 3 5 28) : Ct l mDr_addTool D R [.ref d, .int dm, .int (b32 pl)] [Cd, T] (fun v S => (10 ≤ ts.length ∧ v = some (.int (-1)) ∧ S = [Cd, T]) ∨ (ts.length < 10 ∧ v = some (.int (nI ts.length)) ∧ ∃ Cd' T' q, S = [Cd', T'] ∧ IsDr D d (ts ++ [(q, dm, pl, [], [], 0, false, 8, 8)]) hs Cd' T' Hs)) := by
  obtain ⟨ta, ha, ft, fh, rfl, hT, rfl, h1, h2, h3, h4⟩ := h
  obtain ⟨r1, r2, r3, r4⟩ := hr
  refine Ct.of rfl (by decide) tkDr_addTool (Nat.le_of_ble_eq_true rfl) (fun A => ?_)
  repeat (first | refine Ex.p rfl ?_ | refine Ex.ldc rfl ?_ | refine Ex.ldc2 rfl ?_ | refine Ex.gf 0 0 rfl rfl rfl ?_)
  refine Ex.br rfl (fun c1 => ?_) (fun c1 => ?_)
  · have c1 : nI ts.length < nI 10 := c1
    rw [nI_ltI (by omega) (by omega)] at c1
    repeat (first | refine Ex.p rfl ?_ | refine Ex.ldc rfl ?_ | refine Ex.ldc2 rfl ?_ | refine Ex.gf 0 0 rfl rfl rfl ?_)
    refine Ex.new (ci := 9) (N := 6) rfl rfl (by omega) (by omega) (fun q => ?_)
    refine Ex.p rfl ?_
    refine Ex.p rfl ?_
    refine Ex.p rfl ?_
    refine Ex.ci (Mc := mTo_init) (Rc := rm 2 4 22) (As := [.int dm, .int (b32 pl)]) (rest := [.ref q, .int (nI ts.length), .ref ta]) (Sr := [[(d, .inr (1, [.ref ta, .ref ha, .int (nI ts.length), .int (nI hs.length)])), (ta, .inl (D.2.2.1 3, 10, .inr (.inr (.inr (.inr ft))))), (ha, .inl (D.2.2.1 4, 60, .inr (.inr (.inr (.inr fh)))))], T]) [2] [0, 1] (ct_To_init (rm_ok _ _ _)) rfl lk_1_27 lcTo_init rfl rfl rfl rfl rfl (by decide) ⟨r1, by show 8 + (3 + 11) + 80 ≤ R.locals; omega⟩ (Nat.le_of_ble_eq_true rfl) (by dsimp only [rm]; omega) (by dsimp only [rm]; omega) ?_
    rintro v S1 ⟨rfl, C, rfl, hC⟩
    obtain ⟨rh, ro, Ch, Co, eC, -⟩ := id hC
    refine Ex.aas 0 1 ts.length 3 2 0 9 rfl rfl rfl rfl rfl (by rw [eC]; rfl) rfl (nI_toInt (by omega)) c1 ?_
    repeat (first | refine Ex.p rfl ?_ | refine Ex.ldc rfl ?_ | refine Ex.ldc2 rfl ?_ | refine Ex.gf 0 0 rfl rfl rfl ?_)
    rw [i_add1]
    refine Ex.pf 0 0 rfl rfl rfl rfl rfl rfl ?_
    repeat (first | refine Ex.p rfl ?_ | refine Ex.ldc rfl ?_ | refine Ex.ldc2 rfl ?_ | refine Ex.gf 0 0 rfl rfl rfl ?_)
    rw [i_sub1]
    refine Ex.iret (S' := [[(d, .inr (1, [.ref ta, .ref ha, .int (nI (ts.length + 1)), .int (nI hs.length)])), (ta, .inl (D.2.2.1 3, 10, .inr (.inr (.inr (.inr (va_up ft ts.length (some q))))))), (ha, .inl (D.2.2.1 4, 60, .inr (.inr (.inr (.inr fh)))))], T ++ C]) rfl rfl (by dsimp only [rm]; omega) (by dsimp only [rm]; omega) (by simp) (Or.inr ⟨c1, rfl, _, _, q, rfl, ta, ha, va_up ft ts.length (some q), fh, by simp, hT.push hC, rfl, ?_, h2, by simp; omega, h4⟩)
    intro i t hi
    rcases Nat.lt_or_ge i ts.length with g | g
    · rw [List.getElem?_append_left g] at hi
      rw [va_up_ne _ _ (by omega)]
      exact h1 i t hi
    · rw [List.getElem?_append_right g] at hi
      cases hk : i - ts.length with
      | zero =>
        rw [hk] at hi
        cases hi
        rw [show i = ts.length by omega, va_up_self]
      | succ k =>
        rw [hk] at hi
        cases hi
  · have c1 : ¬ nI ts.length < nI 10 := c1
    rw [nI_ltI (by omega) (by omega)] at c1
    repeat (first | refine Ex.p rfl ?_ | refine Ex.ldc rfl ?_ | refine Ex.ldc2 rfl ?_)
    exact Ex.iret rfl rfl (Nat.zero_le _) (Nat.zero_le _) rfl (Or.inl ⟨by omega, rfl, rfl⟩)
theorem ct_Dr_addHit {d a i : Nat} {ts : List TV} {hs : List (Nat × HV)} {Cd T Hs : va_W} {h9 : HV} {t : TV} (h : IsDr D d ts hs Cd T Hs) (hi : h9.1.toInt = i) (ht : ts[i]? = some t) (hlt : hs.length < 60 → t.2.2.2.1.length < 60) (hr : rmOk R 4 ((rcap t.2.2.2.2.2.2.2.1 t.2.2.2.1.length - t.2.2.2.2.2.2.2.1) / 8) (2 * (rcap t.2.2.2.2.2.2.2.1 t.2.2.2.1.length - t.2.2.2.2.2.2.2.1))) :
    Ct l mDr_addHit D R [.ref d, .ref a] [Cd, T, Hs, [cHit a h9]] (fun v S => (60 ≤ hs.length ∧ v = some (.int (-1)) ∧ S = [Cd, T, Hs, [cHit a h9]]) ∨ (hs.length < 60 ∧ v = some (.int (nI hs.length)) ∧ ∃ Cd' T', S = [Cd', T', sHs (hs ++ [(a, h9)])] ∧ IsDr D d (ts.set i (tadd t (nI hs.length))) (hs ++ [(a, h9)]) Cd' T' (sHs (hs ++ [(a, h9)])))) := by
  have hd9 := h
  obtain ⟨ta, ha, ft, fh, rfl, hT, rfl, h1, h2, h3, h4⟩ := h
  obtain ⟨r1, r2, r3, r4⟩ := hr
  have hix : ixo ts h9.1 = some t := by rw [ixo, if_pos (by omega), hi]; exact ht
  refine Ct.of rfl (by decide) tkDr_addHit (Nat.le_of_ble_eq_true rfl) (fun A => ?_)
  repeat (first | refine Ex.p rfl ?_ | refine Ex.ldc rfl ?_ | refine Ex.ldc2 rfl ?_ | refine Ex.gf 0 0 rfl rfl rfl ?_ | refine Ex.gf 3 0 rfl rfl rfl ?_)
  refine Ex.cv (Mc := mDr_toolAt) (Rc := rm 0 0 0) (As := [.int h9.1]) (rest := []) (Sr := [T, sHs hs, [cHit a h9]]) (ic := 0) (jc := 0) (ci := 1) [0] [1, 2, 3] (ct_Dr_toolAt hd9) rfl lk_1_33 lcDr_toolAt rfl rfl rfl rfl rfl (by decide) rfl rfl rfl (by decide) ⟨by dsimp only [rm]; omega, by show 8 + (2 + 11) + 0 ≤ R.locals; omega⟩ (Nat.zero_le _) (Nat.zero_le _) (Nat.zero_le _) ?_
  rintro v S1 ⟨rfl, rfl⟩
  rw [hix]
  refine Ex.p rfl ?_
  refine Ex.p rfl ?_
  refine Ex.nuR rfl ?_
  repeat (first | refine Ex.p rfl ?_ | refine Ex.ldc rfl ?_ | refine Ex.ldc2 rfl ?_ | refine Ex.gf 3 0 rfl rfl rfl ?_)
  refine Ex.br rfl (fun c1 => ?_) (fun c1 => ?_)
  · have c1 : nI hs.length < nI 60 := c1
    rw [nI_ltI (by omega) (by omega)] at c1
    repeat (first | refine Ex.p rfl ?_ | refine Ex.ldc rfl ?_ | refine Ex.ldc2 rfl ?_ | refine Ex.gf 3 0 rfl rfl rfl ?_)
    refine Ex.aas 3 2 hs.length 4 2 0 3 rfl rfl rfl rfl rfl rfl rfl (nI_toInt (by omega)) c1 ?_
    repeat (first | refine Ex.p rfl ?_ | refine Ex.ldc rfl ?_ | refine Ex.ldc2 rfl ?_ | refine Ex.gf 3 0 rfl rfl rfl ?_)
    obtain ⟨X, C, Y, rfl, hC, hback⟩ := hT.at ht
    refine Ex.seg (S' := [X, C, Y, sHs hs, [cHit a h9], [(d, .inr (1, [.ref ta, .ref ha, .int (nI ts.length), .int (nI hs.length)])), (ta, .inl (D.2.2.1 3, 10, .inr (.inr (.inr (.inr ft))))), (ha, .inl (D.2.2.1 4, 60, .inr (.inr (.inr (.inr (va_up fh hs.length (some a)))))))]]) (by simp) ?_
    obtain ⟨rh, ro, Ch, Co, eC, -⟩ := id hC
    refine Ex.cv (Mc := mTo_addHit) (Rc := rm 3 ((rcap t.2.2.2.2.2.2.2.1 t.2.2.2.1.length - t.2.2.2.2.2.2.2.1) / 8) (2 * (rcap t.2.2.2.2.2.2.2.1 t.2.2.2.1.length - t.2.2.2.2.2.2.2.1))) (As := [.int (nI hs.length)]) (rest := []) (Sr := [X, Y, sHs hs, [cHit a h9], [(d, .inr (1, [.ref ta, .ref ha, .int (nI ts.length), .int (nI hs.length)])), (ta, .inl (D.2.2.1 3, 10, .inr (.inr (.inr (.inr ft))))), (ha, .inl (D.2.2.1 4, 60, .inr (.inr (.inr (.inr (va_up fh hs.length (some a)))))))]]) (ic := 1) (jc := 0) (ci := 9) [1] [0, 2, 3, 4, 5] (ct_To_addHit hC (hlt c1) (rm_ok _ _ _)) rfl lk_1_40 lcTo_addHit rfl rfl rfl rfl rfl (by decide) rfl (by rw [eC]; rfl) rfl (by decide) ⟨r1, by show 8 + (2 + 11) + 120 ≤ R.locals; omega⟩ (Nat.zero_le _) (by dsimp only [rm]; omega) (by dsimp only [rm]; omega) ?_
    rintro v S1 ⟨rfl, C', rfl, hC'⟩
    repeat (first | refine Ex.p rfl ?_ | refine Ex.ldc rfl ?_ | refine Ex.ldc2 rfl ?_ | refine Ex.gf 4 0 rfl rfl rfl ?_)
    rw [i_add1]
    refine Ex.pf 4 0 rfl rfl rfl rfl rfl rfl ?_
    repeat (first | refine Ex.p rfl ?_ | refine Ex.ldc rfl ?_ | refine Ex.ldc2 rfl ?_ | refine Ex.gf 4 0 rfl rfl rfl ?_)
    rw [i_sub1]
    refine Ex.sub (S' := [[(d, .inr (1, [.ref ta, .ref ha, .int (nI ts.length), .int (nI (hs.length + 1))])), (ta, .inl (D.2.2.1 3, 10, .inr (.inr (.inr (.inr ft))))), (ha, .inl (D.2.2.1 4, 60, .inr (.inr (.inr (.inr (va_up fh hs.length (some a)))))))], X, C', Y, sHs hs, [cHit a h9]]) [4, 0, 5, 1, 2, 3] rfl rfl ?_
    refine Ex.iret (S' := [[(d, .inr (1, [.ref ta, .ref ha, .int (nI ts.length), .int (nI (hs.length + 1))])), (ta, .inl (D.2.2.1 3, 10, .inr (.inr (.inr (.inr ft))))), (ha, .inl (D.2.2.1 4, 60, .inr (.inr (.inr (.inr (va_up fh hs.length (some a)))))))], X ++ (C' ++ Y), sHs (hs ++ [(a, h9)])]) rfl rfl (by dsimp only [rm]; omega) (by dsimp only [rm]; omega) (by simp [sHs]) (Or.inr ⟨c1, rfl, _, _, rfl, ta, ha, ft, va_up fh hs.length (some a), by simp, hback _ _ hC', rfl, ?_, ?_, by simp; omega, by simp; omega⟩)
    · intro j u hj
      by_cases hij : i = j
      · subst hij
        rw [List.getElem?_set_self (List.getElem?_eq_some_iff.mp ht).1] at hj
        cases hj
        exact h1 i t ht
      · rw [List.getElem?_set_ne hij] at hj
        exact h1 j u hj
    · intro j u hj
      rcases Nat.lt_or_ge j hs.length with g | g
      · rw [List.getElem?_append_left g] at hj
        rw [va_up_ne _ _ (by omega)]
        exact h2 j u hj
      · rw [List.getElem?_append_right g] at hj
        cases hk : j - hs.length with
        | zero =>
          rw [hk] at hj
          cases hj
          rw [show j = hs.length by omega, va_up_self]
        | succ k =>
          rw [hk] at hj
          cases hj
  · have c1 : ¬ nI hs.length < nI 60 := c1
    rw [nI_ltI (by omega) (by omega)] at c1
    repeat (first | refine Ex.p rfl ?_ | refine Ex.ldc rfl ?_ | refine Ex.ldc2 rfl ?_)
    refine Ex.sub (S' := [[(d, .inr (1, [.ref ta, .ref ha, .int (nI ts.length), .int (nI hs.length)])), (ta, .inl (D.2.2.1 3, 10, .inr (.inr (.inr (.inr ft))))), (ha, .inl (D.2.2.1 4, 60, .inr (.inr (.inr (.inr fh)))))], T, sHs hs, [cHit a h9]]) [3, 0, 1, 2] rfl rfl ?_
    exact Ex.iret rfl rfl (Nat.zero_le _) (Nat.zero_le _) rfl (Or.inl ⟨by omega, rfl, rfl⟩)
end DR2

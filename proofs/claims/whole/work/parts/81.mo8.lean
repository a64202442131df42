/-! the reference: open_, ways -/
theorem tkArch_w {bs : List Nat} : tkArch bs = match wOf bs with
  | none => none
  | some y => if y.2 = bs.length then some y.1 else none := by
  unfold tkArch wOf
  split
  · rfl
  · rfl
theorem wOf_len {bs : List Nat} {y : List (Nat × List Nat) × Nat} (h : wOf bs = some y) : y.1.length = bs.getD 0 0 ∧ y.1.length ≤ 8 ∧ 0 < bs.length := by
  unfold wOf at h
  split at h
  · cases h
  · have := tkAll_len h
    exact ⟨this, by omega, by omega⟩
theorem tkAll_le {bs : List Nat} : ∀ {k : Nat} {rs : List Nat} {p : Nat} {y : List (Nat × List Nat) × Nat}, tkAll bs k rs p = some y → p ≤ bs.length → y.2 ≤ bs.length
  | 0, _, _, _, h, hp => by cases h; exact hp
  | k + 1, rs, p, y, h, hp => by
    unfold tkAll at h
    cases hx : tkF bs rs p with
    | none => rw [hx] at h; cases h
    | some x =>
      rw [hx] at h
      dsimp only at h
      cases hy : tkAll bs k (rs ++ [x.1]) x.2.2 with
      | none => rw [hy] at h; cases h
      | some w =>
        rw [hy] at h
        cases h
        show w.2 ≤ bs.length
        exact tkAll_le hy (tkF_le hx)
section MO8
variable {l : Launch} {D : xD} {R : Room}
theorem ct_Mo_open {m : Nat} {z : SD} {th : Int32} {S : List va_W} (h : IsMo D m z th S) (hr : rmOk R 1 0 0) : Ct l mMo_open D R [.ref m] S (QM D m (.int 0) (aOpn z)) := by
  obtain ⟨r1, r2, r3, r4⟩ := hr
  obtain ⟨B, mn, la, ap, bg, wr, wa, wn, fo, st, rf, rt, cu, me, hl, LT, LH, CT, CH, CX, CF, CE, gR, gQ, gL, gW, rfl, hT, hH, iT, iH, iX, iF, iE⟩ := h
  obtain ⟨gr, gs, gb, rfl, h8, hs⟩ := id iF
  obtain ⟨gd, eE, hl26, hgd⟩ := id iE
  generalize hP : aOpn z = P
  unfold aOpn at hP
  rw [tkArch_w] at hP
  have iE0 : IsME D B [] CE := ⟨gd, eE, by simp, fun j h => by simp at h⟩
  refine Ct.of rfl (by decide) tkMo_open (Nat.le_of_ble_eq_true rfl) (fun A => ?_)
  have bad : ((.inr (.int (-1)), z.1, z.2.1, z.2.2.1, [], z.2.2.2.2) : AR) = P → ∀ k n : Nat, k ≤ R.cells → n ≤ R.slots → Ex l mMo_open D R A (xQ D A (QM D m (.int 0) P)) R.cells R.slots 28 [(0, .ref m)] [] [sMo m B 0 mn la (nI z.2.2.1.length) ap bg wr me (nI z.2.2.2.2.length) (nI z.2.2.2.1.length) wa wn fo st hl rf rt cu, CT, CH, cMO D B gR gQ gL, cMW D B gW, CX, cMF D B gr gs gb, CE] k n := by
    intro e k n hk hn
    refine Ex.p rfl ?_
    refine Ex.p rfl ?_
    refine Ex.p rfl ?_
    refine Ex.br rfl (fun _ => ?_) (fun c => absurd rfl c)
    refine Ex.p rfl ?_
    refine Ex.p rfl ?_
    refine Ex.pf 0 0 rfl rfl rfl rfl rfl rfl ?_
    refine Ex.p rfl ?_
    refine Ex.br rfl (fun _ => ?_) (fun c => absurd rfl c)
    refine Ex.p rfl ?_
    refine Ex.iret rfl rfl hk hn rfl ?_
    exact QM.ret e.symm ⟨B, mn, la, ap, bg, wr, wa, wn, fo, st, rf, rt, cu, me, hl, LT, LH, CT, CH, CX, _, CE, gR, gQ, gL, gW, rfl, hT, hH, iT, iH, iX, iF, iE0⟩
  refine Ex.p rfl ?_
  refine Ex.p rfl ?_
  refine Ex.pf 0 0 rfl rfl rfl rfl rfl rfl ?_
  refine Ex.p rfl ?_
  refine Ex.gf 0 0 rfl rfl rfl ?_
  refine Ex.br rfl (fun c => ?_) (fun c => ?_)
  · have c : nI z.2.2.2.1.length ≤ nI 0 := c
    rw [nI_leI (by omega) (by omega)] at c
    have hw : wOf z.2.2.2.1 = none := by unfold wOf; rw [if_pos (Or.inl (by omega))]
    rw [hw] at hP
    exact bad hP _ _ (Nat.zero_le _) (Nat.zero_le _)
  · have c : ¬ nI z.2.2.2.1.length ≤ nI 0 := c
    rw [nI_leI (by omega) (by omega)] at c
    refine Ex.p rfl ?_
    refine Ex.p rfl ?_
    refine Ex.cv (Mc := mMo_walk) (Rc := rm 0 0 0) (As := [.int (b32 false)]) (rest := []) (Sr := [CT, CH, cMO D B gR gQ gL, cMW D B gW, CX]) (ic := 0) (jc := 0) (ci := 10) [0, 6, 7] [1, 2, 3, 4, 5] (ct_Mo_walk iE (fun e => by cases e)) rfl lk_10_274 lcMo_walk rfl rfl rfl rfl rfl (by decide) rfl rfl rfl (by decide) ⟨by dsimp only [rm]; omega, by show 8 + (9 + 11) + 0 ≤ R.locals; omega⟩ (Nat.le_of_ble_eq_true rfl) (by first | (dsimp only [rm]; omega) | omega) (by first | (dsimp only [rm]; omega) | omega) ?_
    rintro v S1 h9
    rcases h9 with ⟨rfl, hw, rfl⟩ | ⟨y, gr1, gs1, gb1, hw, rfl, rfl, hL⟩
    · rw [hw] at hP
      refine Ex.sub (S' := [sMo m B 0 mn la (nI z.2.2.1.length) ap bg wr me (nI z.2.2.2.2.length) (nI z.2.2.2.1.length) wa wn fo st hl rf rt cu, CT, CH, cMO D B gR gQ gL, cMW D B gW, CX, cMF D B gr gs gb, CE]) [5, 0, 1, 2, 3, 4, 6, 7] rfl rfl ?_
      refine Ex.p rfl ?_
      refine Ex.gf 0 0 rfl rfl rfl ?_
      refine Ex.br rfl (fun _ => ?_) (fun c9 => ?_)
      · exact bad hP _ _ (by first | (dsimp only [rm]; omega) | omega) (by first | (dsimp only [rm]; omega) | omega)
      · have c9 : ¬ ¬ (-1 : Int32) = nI z.2.2.2.1.length := c9
        have c9 := Decidable.not_not.mp c9
        have c9 := congrArg Int32.toInt c9
        rw [nI_toInt (by omega), show (-1 : Int32).toInt = -1 from rfl] at c9
        omega
    · obtain ⟨rfl, rfl, rfl⟩ : gr1 = gr ∧ gs1 = gs ∧ gb1 = gb := hL
      obtain ⟨y1, y2, y3⟩ := wOf_len hw
      rw [hw] at hP
      dsimp only at hP
      refine Ex.sub (S' := [sMo m B 0 mn la (nI z.2.2.1.length) ap bg wr me (nI z.2.2.2.2.length) (nI z.2.2.2.1.length) wa wn fo st hl rf rt cu, CT, CH, cMO D B gR gQ gL, cMW D B gW, CX, cMF D B gr1 gs1 gb1, CE]) [5, 0, 1, 2, 3, 4, 6, 7] rfl rfl ?_
      refine Ex.p rfl ?_
      refine Ex.gf 0 0 rfl rfl rfl ?_
      have hy31 : y.2 < 2 ^ 31 := by
        by_cases q : y.2 < 2 ^ 31
        · exact q
        · exfalso
          unfold wOf at hw
          split at hw
          · cases hw
          · have := tkAll_le hw (by omega)
            omega
      refine Ex.br rfl (fun c9 => ?_) (fun c9 => ?_)
      · have c9 : ¬ nI y.2 = nI z.2.2.2.1.length := c9
        rw [nI_eq (by omega) (by omega)] at c9
        rw [if_neg c9] at hP
        exact bad hP _ _ (by first | (dsimp only [rm]; omega) | omega) (by first | (dsimp only [rm]; omega) | omega)
      · have c9 : ¬ ¬ nI y.2 = nI z.2.2.2.1.length := c9
        have c9 := Decidable.not_not.mp c9
        rw [nI_eq (by omega) (by omega)] at c9
        rw [if_pos c9] at hP
        dsimp only at hP
        refine Ex.p rfl ?_
        refine Ex.p rfl ?_
        refine Ex.p rfl ?_
        refine Ex.p rfl ?_
        refine Ex.br rfl (fun c => absurd c (show (1 : Int32) ≠ 0 by decide)) (fun _ => ?_)
        refine Ex.p rfl ?_
        refine Ex.p rfl ?_
        refine Ex.gf 0 0 rfl rfl rfl ?_
        refine Ex.p rfl ?_
        refine Ex.ial 7 0 0 rfl (by rw [eE]; rfl) rfl rfl (by decide) ?_
        have e0 : gd 0 = nI y.1.length := by
          rw [(hgd 0 y3).1, y1, List.getD_eq_getElem?_getD, List.getElem?_eq_getElem y3]
          rfl
        rw [e0]
        refine Ex.pf 0 0 rfl rfl rfl rfl rfl rfl ?_
        refine Ex.p rfl ?_
        refine Ex.p rfl ?_
        refine Ex.cv (Mc := mMo_walk) (Rc := rm 0 0 0) (As := [.int (b32 true)]) (rest := []) (Sr := [CT, CH, cMO D B gR gQ gL, cMW D B gW, CX]) (ic := 0) (jc := 0) (ci := 10) [0, 6, 7] [1, 2, 3, 4, 5] (ct_Mo_walk iE (fun _ => by rw [hw]; exact fun q => by cases q)) rfl lk_10_274 lcMo_walk rfl rfl rfl rfl rfl (by decide) rfl rfl rfl (by decide) ⟨by dsimp only [rm]; omega, by show 8 + (9 + 11) + 0 ≤ R.locals; omega⟩ (Nat.le_of_ble_eq_true rfl) (by first | (dsimp only [rm]; omega) | omega) (by first | (dsimp only [rm]; omega) | omega) ?_
        rintro v S1 h9
        rcases h9 with ⟨-, hw2, -⟩ | ⟨y9, gr2, gs2, gb2, hw2, rfl, rfl, hL2⟩
        · rw [hw] at hw2
          cases hw2
        · rw [hw] at hw2
          cases hw2
          have hL2 : LayF y.1 gr2 gs2 gb2 := hL2
          refine Ex.sub (S' := [sMo m B 0 mn la (nI z.2.2.1.length) ap bg wr me (nI y.1.length) (nI z.2.2.2.1.length) wa wn fo st hl rf rt cu, CT, CH, cMO D B gR gQ gL, cMW D B gW, CX, cMF D B gr2 gs2 gb2, CE]) [5, 0, 1, 2, 3, 4, 6, 7] rfl rfl ?_
          refine Ex.p rfl ?_
          refine Ex.p rfl ?_
          refine Ex.p rfl ?_
          refine Ex.pf 0 0 rfl rfl rfl rfl rfl rfl ?_
          refine Ex.p rfl ?_
          refine Ex.br rfl (fun c => absurd c (show (1 : Int32) ≠ 0 by decide)) (fun _ => ?_)
          refine Ex.p rfl ?_
          refine Ex.gf 0 0 rfl rfl rfl ?_
          refine Ex.p rfl ?_
          refine Ex.iret rfl rfl (by first | (dsimp only [rm]; omega) | omega) (by first | (dsimp only [rm]; omega) | omega) rfl ?_
          exact QM.ret hP.symm ⟨B, mn, la, ap, bg, wr, wa, wn, fo, st, rf, rt, cu, me, hl, LT, LH, CT, CH, CX, _, CE, gR, gQ, gL, gW, rfl, hT, hH, iT, iH, iX, ⟨gr2, gs2, gb2, rfl, y2, hL2⟩, iE0⟩
def abs64 (x : Int64) : Int64 := if 0 ≤ x then x else 0 - x
theorem ct_Mo_size {x : Int64} : Ct l mMo_size D R [.long x] [] (fun v S => v = some (.long (abs64 x)) ∧ S = []) := by
  refine Ct.of rfl (by decide) tkMo_size (Nat.le_of_ble_eq_true rfl) (fun A => ?_)
  repeat (first | refine Ex.p rfl ?_ | refine Ex.ldc rfl ?_ | refine Ex.ldc2 rfl ?_)
  refine Ex.br rfl (fun c0 => ?_) (fun c0 => ?_)
  · rw [lg_cmp_ge] at c0
    have c0 : 0 ≤ x := c0
    refine Ex.p rfl ?_
    refine Ex.lret rfl rfl (Nat.zero_le _) (Nat.zero_le _) rfl ⟨?_, rfl⟩
    rw [abs64, if_pos c0]
  · rw [lg_cmp_ge] at c0
    have c0 : ¬ 0 ≤ x := c0
    repeat (first | refine Ex.p rfl ?_ | refine Ex.ldc rfl ?_ | refine Ex.ldc2 rfl ?_)
    refine Ex.lret rfl rfl (Nat.zero_le _) (Nat.zero_le _) rfl ⟨?_, rfl⟩
    rw [abs64, if_neg c0]
    rfl
def way64 (a b c d : Int64) : Int64 := if abs64 (a - c) ≤ abs64 (b - d) then abs64 (b - d) else abs64 (a - c)
theorem ct_Mo_wayOf {a b c d : Int64} (hr : rmOk R 1 0 0) : Ct l mMo_wayOf D R [.long a, .long b, .long c, .long d] [] (fun v S => v = some (.long (way64 a b c d)) ∧ S = []) := by
  obtain ⟨r1, r2, r3, r4⟩ := hr
  refine Ct.of rfl (by decide) tkMo_wayOf (Nat.le_of_ble_eq_true rfl) (fun A => ?_)
  refine Ex.p rfl ?_
  refine Ex.p rfl ?_
  refine Ex.p rfl ?_
  refine Ex.cs0 (Mc := mMo_size) (Rc := rm 0 0 0) (As := [.long (a - c)]) (rest := []) (ct_Mo_size) rfl lk_10_119 lcMo_size rfl ⟨by dsimp only [rm]; omega, by show 8 + (2 + 11) + 0 ≤ R.locals; omega⟩ (Nat.le_of_ble_eq_true rfl) (by first | (dsimp only [rm]; omega) | omega) (by first | (dsimp only [rm]; omega) | omega) ?_
  rintro v S1 ⟨rfl, rfl⟩
  refine Ex.p rfl ?_
  refine Ex.p rfl ?_
  refine Ex.p rfl ?_
  refine Ex.p rfl ?_
  refine Ex.cs0 (Mc := mMo_size) (Rc := rm 0 0 0) (As := [.long (b - d)]) (rest := []) (ct_Mo_size) rfl lk_10_119 lcMo_size rfl ⟨by dsimp only [rm]; omega, by show 8 + (2 + 11) + 0 ≤ R.locals; omega⟩ (Nat.le_of_ble_eq_true rfl) (by first | (dsimp only [rm]; omega) | omega) (by first | (dsimp only [rm]; omega) | omega) ?_
  rintro v S1 ⟨rfl, rfl⟩
  refine Ex.p rfl ?_
  refine Ex.p rfl ?_
  refine Ex.p rfl ?_
  refine Ex.p rfl ?_
  refine Ex.br rfl (fun c0 => ?_) (fun c0 => ?_)
  · rw [lg_cmp_le] at c0
    refine Ex.p rfl ?_
    refine Ex.lret rfl rfl (by first | (dsimp only [rm]; omega) | omega) (by first | (dsimp only [rm]; omega) | omega) rfl ⟨?_, rfl⟩
    rw [way64, if_pos c0]
  · rw [lg_cmp_le] at c0
    refine Ex.p rfl ?_
    refine Ex.p rfl ?_
    refine Ex.lret rfl rfl (by first | (dsimp only [rm]; omega) | omega) (by first | (dsimp only [rm]; omega) | omega) rfl ⟨?_, rfl⟩
    rw [way64, if_neg c0]
end MO8

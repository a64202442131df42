/-! the reference: hole, slot, at, its start -/
section MO3
variable {l : Launch} {D : xD} {R : Room}
theorem ct_Mo_hole {m : Nat} {z : SD} {i f9 t9 th : Int32} {x y : Int64} {S : List va_W} (h : IsMo D m z th S) (hr : rmOk R 1 0 0) : Ct l mMo_hole D R [.ref m, .int i, .long x, .long y, .int f9, .int t9] S (QM D m (.int 0) (aHole z i x y f9 t9)) := by
  obtain ⟨r1, r2, r3, r4⟩ := hr
  obtain ⟨B, mn, la, ap, bg, wr, wa, wn, fo, st, rf, rt, cu, me, hl, LT, LH, CT, CH, CX, CF, CE, gR, gQ, gL, gW, rfl, hT, hH, iT, iH, iX, iF, iE⟩ := h
  obtain ⟨gH, gO, gX, gY, gE, gG, gF, gU, gS, eH, hs⟩ := id iH
  obtain ⟨h1, h2, -⟩ := hs 0 (by omega)
  rw [hH] at h1 h2
  generalize hP : aHole z i x y f9 t9 = P
  unfold aHole at hP
  refine Ct.of rfl (by decide) tkMo_hole (Nat.le_of_ble_eq_true rfl) (fun A => ?_)
  have s52 : ∀ k9 : Nat, k9 ≠ 0 → k9 < 10 → P = (.inl k9, z) → Ex l mMo_hole D R A (xQ D A (QM D m (.int 0) P)) R.cells R.slots 52 (lv_args 0 [.ref m, .int i, .long x, .long y, .int f9, .int t9]) [.int (nI k9), .ref m] [sMo m B th mn la (nI z.2.2.1.length) ap bg wr me (nI z.2.2.2.2.length) (nI z.2.2.2.1.length) wa wn fo st hl rf rt cu, CT, CH, cMO D B gR gQ gL, cMW D B gW, CX, CF, CE] 0 0 := by
    intro k9 hk hk10 e
    refine Ex.pf 0 0 rfl rfl rfl rfl rfl rfl ?_
    refine Ex.p rfl ?_
    refine Ex.gf 0 0 rfl rfl rfl ?_
    refine Ex.br rfl (fun c => ?_) (fun _ => ?_)
    · have c : nI k9 = nI 0 := c
      rw [nI_eq (by omega) (by omega)] at c
      omega
    · refine Ex.p rfl ?_
      refine Ex.iret rfl rfl (by first | (dsimp only [rm]; omega) | omega) (by first | (dsimp only [rm]; omega) | omega) rfl ?_
      exact QM.thr e ⟨B, mn, la, ap, bg, wr, wa, wn, fo, st, rf, rt, cu, me, hl, LT, LH, CT, CH, CX, CF, CE, gR, gQ, gL, gW, rfl, hT, hH, iT, iH, iX, iF, iE⟩
  have s27 : ¬ (isTl z i ∧ (0 ≤ f9.toInt ∧ f9.toInt ≤ 7) ∧ (0 ≤ t9.toInt ∧ t9.toInt ≤ 7)) → ∀ k n : Nat, k ≤ 0 → n ≤ 0 → Ex l mMo_hole D R A (xQ D A (QM D m (.int 0) P)) R.cells R.slots 27 (lv_args 0 [.ref m, .int i, .long x, .long y, .int f9, .int t9]) [.ref m] [sMo m B th mn la (nI z.2.2.1.length) ap bg wr me (nI z.2.2.2.2.length) (nI z.2.2.2.1.length) wa wn fo st hl rf rt cu, CT, CH, cMO D B gR gQ gL, cMW D B gW, CX, CF, CE] k n := by
    intro g k n hk hn
    rw [if_neg g] at hP
    refine Ex.more (k' := 0) (n' := 0) hk hn ?_
    refine Ex.p rfl ?_
    refine Ex.p rfl ?_
    exact s52 1 (by omega) (by omega) hP.symm
  refine Ex.p rfl ?_
  refine Ex.p rfl ?_
  refine Ex.p rfl ?_
  refine Ex.cv (Mc := mMo_isTool) (Rc := rm 0 0 0) (As := [.int i]) (rest := [.ref m]) (Sr := [CH, cMO D B gR gQ gL, cMW D B gW, CX, CF, CE]) (ic := 0) (jc := 0) (ci := 10) [0, 1] [2, 3, 4, 5, 6, 7] (ct_Mo_isTool iT) rfl lk_10_104 lcMo_isTool rfl rfl rfl rfl rfl (by decide) rfl rfl rfl (by decide) ⟨by dsimp only [rm]; omega, by show 8 + (2 + 11) + 0 ≤ R.locals; omega⟩ (Nat.le_of_ble_eq_true rfl) (by first | (dsimp only [rm]; omega) | omega) (by first | (dsimp only [rm]; omega) | omega) ?_
  rintro v S1 ⟨rfl, rfl⟩
  rw [hT]
  refine Ex.sub (S' := [sMo m B th mn la (nI z.2.2.1.length) ap bg wr me (nI z.2.2.2.2.length) (nI z.2.2.2.1.length) wa wn fo st hl rf rt cu, CT, CH, cMO D B gR gQ gL, cMW D B gW, CX, CF, CE]) [6, 7, 0, 1, 2, 3, 4, 5] rfl rfl ?_
  by_cases g0 : 0 ≤ i.toInt ∧ i.toInt < z.1.length
  · rw [decide_eq_true g0]
    refine Ex.br rfl (fun c => absurd c (show (1 : Int32) ≠ 0 by decide)) (fun _ => ?_)
    refine Ex.p rfl ?_
    refine Ex.p rfl ?_
    refine Ex.cs0 (Mc := mMo_isLayer) (Rc := rm 0 0 0) (As := [.long f9.toInt64]) (rest := [.ref m]) (ct_Mo_isLayer) rfl lk_10_108 lcMo_isLayer rfl ⟨by dsimp only [rm]; omega, by show 8 + (2 + 11) + 0 ≤ R.locals; omega⟩ (Nat.le_of_ble_eq_true rfl) (by first | (dsimp only [rm]; omega) | omega) (by first | (dsimp only [rm]; omega) | omega) ?_
    rintro v S1 ⟨rfl, rfl⟩
    rw [Int32.toInt_toInt64]
    by_cases g1 : 0 ≤ f9.toInt ∧ f9.toInt ≤ 7
    · rw [decide_eq_true g1]
      refine Ex.br rfl (fun c => absurd c (show (1 : Int32) ≠ 0 by decide)) (fun _ => ?_)
      refine Ex.p rfl ?_
      refine Ex.p rfl ?_
      refine Ex.cs0 (Mc := mMo_isLayer) (Rc := rm 0 0 0) (As := [.long t9.toInt64]) (rest := [.ref m]) (ct_Mo_isLayer) rfl lk_10_108 lcMo_isLayer rfl ⟨by dsimp only [rm]; omega, by show 8 + (2 + 11) + 0 ≤ R.locals; omega⟩ (Nat.le_of_ble_eq_true rfl) (by first | (dsimp only [rm]; omega) | omega) (by first | (dsimp only [rm]; omega) | omega) ?_
      rintro v S1 ⟨rfl, rfl⟩
      rw [Int32.toInt_toInt64]
      by_cases g2 : 0 ≤ t9.toInt ∧ t9.toInt ≤ 7
      · rw [decide_eq_true g2]
        rw [if_pos ⟨g0, g1, g2⟩] at hP
        refine Ex.br rfl (fun _ => ?_) (fun c => absurd (show (1 : Int32) ≠ 0 by decide) c)
        refine Ex.p rfl ?_
        refine Ex.p rfl ?_
        refine Ex.cs0 (Mc := mMo_isPlace) (Rc := rm 0 0 0) (As := [.long x, .long y]) (rest := [.ref m]) (ct_Mo_isPlace) rfl lk_10_111 lcMo_isPlace rfl ⟨by dsimp only [rm]; omega, by show 8 + (4 + 11) + 0 ≤ R.locals; omega⟩ (Nat.le_of_ble_eq_true rfl) (by first | (dsimp only [rm]; omega) | omega) (by first | (dsimp only [rm]; omega) | omega) ?_
        rintro v S1 ⟨rfl, rfl⟩
        have s51 : ¬ (near64 x y ∧ f9 ≤ t9) → ∀ k n : Nat, k ≤ 0 → n ≤ 0 → Ex l mMo_hole D R A (xQ D A (QM D m (.int 0) P)) R.cells R.slots 51 (lv_args 0 [.ref m, .int i, .long x, .long y, .int f9, .int t9]) [.ref m] [sMo m B th mn la (nI z.2.2.1.length) ap bg wr me (nI z.2.2.2.2.length) (nI z.2.2.2.1.length) wa wn fo st hl rf rt cu, CT, CH, cMO D B gR gQ gL, cMW D B gW, CX, CF, CE] k n := by
          intro g k n hk hn
          rw [if_neg g] at hP
          refine Ex.more (k' := 0) (n' := 0) hk hn ?_
          refine Ex.p rfl ?_
          exact s52 2 (by omega) (by omega) hP.symm
        by_cases g3 : near64 x y
        · rw [decide_eq_true g3]
          refine Ex.br rfl (fun c => absurd c (show (1 : Int32) ≠ 0 by decide)) (fun _ => ?_)
          refine Ex.p rfl ?_
          refine Ex.p rfl ?_
          refine Ex.br rfl (fun c => ?_) (fun c => ?_)
          · have c : t9 < f9 := c
            exact s51 (fun q => absurd c (Int32.not_lt.mpr q.2)) _ _ (by first | (dsimp only [rm]; omega) | omega) (by first | (dsimp only [rm]; omega) | omega)
          · have c : ¬ t9 < f9 := c
            have c := Int32.not_lt.mp c
            rw [if_pos ⟨g3, c⟩] at hP
            unfold aHit at hP
            refine Ex.p rfl ?_
            refine Ex.p rfl ?_
            refine Ex.pf 0 0 rfl rfl rfl rfl rfl rfl ?_
            refine Ex.p rfl ?_
            refine Ex.gf 0 0 rfl rfl rfl ?_
            refine Ex.br rfl (fun _ => ?_) (fun c => absurd rfl c)
            refine Ex.p rfl ?_
            refine Ex.gf 0 0 rfl rfl rfl ?_
            refine Ex.p rfl ?_
            refine Ex.ial 2 0 0 rfl (by rw [eH]; rfl) rfl rfl (by decide) ?_
            rw [h1]
            refine Ex.p rfl ?_
            refine Ex.br rfl (fun c => ?_) (fun c => ?_)
            · have c : ¬ nI z.2.1.length = nI 60 := c
              rw [nI_eq (by omega) (by omega)] at c
              rw [if_pos (by omega)] at hP
              repeat (first | refine Ex.p rfl ?_ | refine Ex.ldc rfl ?_ | refine Ex.ldc2 rfl ?_)
              refine Ex.cv (Mc := mMo_addHit) (Rc := rm 0 0 0) (As := [.int (nI 0), .int i, .long x, .long y, .long x, .long y, .int f9, .int t9, .int (b32 false)]) (rest := []) (Sr := [CT, cMO D B gR gQ gL, cMW D B gW, CX, CF, CE]) (ic := 0) (jc := 0) (ci := 10) [0, 2] [1, 3, 4, 5, 6, 7] (ct_Mo_addHit (h9 := (i, x.toInt32, y.toInt32, x.toInt32, y.toInt32, f9, t9)) iH (by omega) (by rw [hH]; omega) (up64 (by omega)) (up64 (by omega)) (up64 (by omega)) (up64 (by omega)) (by simp [hslot])) rfl lk_10_115 lcMo_addHit rfl rfl rfl rfl rfl (by decide) rfl rfl rfl (by decide) ⟨by dsimp only [rm]; omega, by show 8 + (15 + 11) + 0 ≤ R.locals; omega⟩ (Nat.le_of_ble_eq_true rfl) (by first | (dsimp only [rm]; omega) | omega) (by first | (dsimp only [rm]; omega) | omega) ?_
              rintro v S1 ⟨rfl, CH', rfl, iH'⟩
              refine Ex.sub (S' := [sMo m B 0 mn la (nI z.2.2.1.length) ap bg wr me (nI z.2.2.2.2.length) (nI z.2.2.2.1.length) wa wn fo st hl rf rt cu, CT, CH', cMO D B gR gQ gL, cMW D B gW, CX, CF, CE]) [6, 0, 7, 1, 2, 3, 4, 5] rfl rfl ?_
              refine Ex.iret rfl rfl (by first | (dsimp only [rm]; omega) | omega) (by first | (dsimp only [rm]; omega) | omega) rfl ?_
              rw [hH]
              exact QM.ret hP.symm ⟨B, mn, la, ap, bg, wr, wa, wn, fo, st, rf, rt, cu, me, hl, LT, _, CT, CH', CX, CF, CE, gR, gQ, gL, gW, rfl, hT, (by rw [put2_s, hH]), iT, iH', iX, iF, iE⟩
            · have c : ¬ ¬ nI z.2.1.length = nI 60 := c
              have c := Decidable.not_not.mp c
              rw [nI_eq (by omega) (by omega)] at c
              rw [if_neg (by omega)] at hP
              refine Ex.p rfl ?_
              refine Ex.p rfl ?_
              refine Ex.iret rfl rfl (by first | (dsimp only [rm]; omega) | omega) (by first | (dsimp only [rm]; omega) | omega) rfl ?_
              exact QM.ret hP.symm ⟨B, mn, la, ap, bg, wr, wa, wn, fo, st, rf, rt, cu, me, hl, LT, LH, CT, CH, CX, CF, CE, gR, gQ, gL, gW, rfl, hT, hH, iT, iH, iX, iF, iE⟩
        · rw [decide_eq_false g3]
          exact Ex.br rfl (fun _ => s51 (fun q => g3 q.1) _ _ (by first | (dsimp only [rm]; omega) | omega) (by first | (dsimp only [rm]; omega) | omega)) (fun c => absurd rfl c)
      · rw [decide_eq_false g2]
        exact Ex.br rfl (fun c => absurd rfl c) (fun _ => s27 (fun q => g2 q.2.2) _ _ (by first | (dsimp only [rm]; omega) | omega) (by first | (dsimp only [rm]; omega) | omega))
    · rw [decide_eq_false g1]
      exact Ex.br rfl (fun _ => s27 (fun q => g1 q.2.1) _ _ (by first | (dsimp only [rm]; omega) | omega) (by first | (dsimp only [rm]; omega) | omega)) (fun c => absurd rfl c)
  · rw [decide_eq_false g0]
    exact Ex.br rfl (fun _ => s27 (fun q => g0 q.1) _ _ (by first | (dsimp only [rm]; omega) | omega) (by first | (dsimp only [rm]; omega) | omega)) (fun c => absurd rfl c)
theorem sl_ne {i f t : Int32} {x y x2 y2 : Int64} (h1 : near64 x y) (h2 : near64 x2 y2) (h3 : ¬ (x = x2 ∧ y = y2)) : hslot (i, x.toInt32, y.toInt32, x2.toInt32, y2.toInt32, f, t) = true := by
  have e1 : x.toInt32 = x2.toInt32 → x = x2 := fun e => by rw [← up64 (x := x) (by omega), ← up64 (x := x2) (by omega), e]
  have e2 : y.toInt32 = y2.toInt32 → y = y2 := fun e => by rw [← up64 (x := y) (by omega), ← up64 (x := y2) (by omega), e]
  have h4 : ¬ (x.toInt32 = x2.toInt32 ∧ y.toInt32 = y2.toInt32) := fun q => h3 ⟨e1 q.1, e2 q.2⟩
  unfold hslot
  by_cases q : x.toInt32 = x2.toInt32
  · have q2 : ¬ y.toInt32 = y2.toInt32 := fun q2 => h4 ⟨q, q2⟩
    simp [q2]
  · simp [q]
theorem ct_Mo_slot {m : Nat} {z : SD} {i th : Int32} {x y x2 y2 : Int64} {S : List va_W} (h : IsMo D m z th S) (hr : rmOk R 1 0 0) : Ct l mMo_slot D R [.ref m, .int i, .long x, .long y, .long x2, .long y2] S (QM D m (.int 0) (aSlot z i x y x2 y2)) := by
  obtain ⟨r1, r2, r3, r4⟩ := hr
  obtain ⟨B, mn, la, ap, bg, wr, wa, wn, fo, st, rf, rt, cu, me, hl, LT, LH, CT, CH, CX, CF, CE, gR, gQ, gL, gW, rfl, hT, hH, iT, iH, iX, iF, iE⟩ := h
  obtain ⟨gH, gO, gX, gY, gE, gG, gF, gU, gS, eH, hs⟩ := id iH
  obtain ⟨h1, h2, -⟩ := hs 0 (by omega)
  rw [hH] at h1 h2
  generalize hP : aSlot z i x y x2 y2 = P
  unfold aSlot at hP
  refine Ct.of rfl (by decide) tkMo_slot (Nat.le_of_ble_eq_true rfl) (fun A => ?_)
  have s64 : ∀ k9 : Nat, k9 ≠ 0 → k9 < 10 → P = (.inl k9, z) → ∀ (k n : Nat) (lv9 : List (Nat × Value)), k ≤ R.cells → n ≤ R.slots → (∀ q ∈ [(0, Value.ref m)], q ∈ lv9) → Ex l mMo_slot D R A (xQ D A (QM D m (.int 0) P)) R.cells R.slots 64 lv9 [.int (nI k9), .ref m] [sMo m B th mn la (nI z.2.2.1.length) ap bg wr me (nI z.2.2.2.2.length) (nI z.2.2.2.1.length) wa wn fo st hl rf rt cu, CT, CH, cMO D B gR gQ gL, cMW D B gW, CX, CF, CE] k n := by
    intro k9 hk hk10 e k n lv9 hk9 hn9 hlv
    refine Ex.lv hlv ?_
    refine Ex.pf 0 0 rfl rfl rfl rfl rfl rfl ?_
    refine Ex.p rfl ?_
    refine Ex.gf 0 0 rfl rfl rfl ?_
    refine Ex.br rfl (fun c => ?_) (fun _ => ?_)
    · have c : nI k9 = nI 0 := c
      rw [nI_eq (by omega) (by omega)] at c
      omega
    · refine Ex.p rfl ?_
      refine Ex.iret rfl rfl hk9 hn9 rfl ?_
      exact QM.thr e ⟨B, mn, la, ap, bg, wr, wa, wn, fo, st, rf, rt, cu, me, hl, LT, LH, CT, CH, CX, CF, CE, gR, gQ, gL, gW, rfl, hT, hH, iT, iH, iX, iF, iE⟩
  have s39 : ∀ gd : Bool, gd = decide (near64 x y ∧ near64 x2 y2 ∧ ¬ (x = x2 ∧ y = y2)) → Ex l mMo_slot D R A (xQ D A (QM D m (.int 0) P)) R.cells R.slots 39 (lv_args 0 [.ref m, .int i, .long x, .long y, .long x2, .long y2]) [.int (b32 gd)] [sMo m B th mn la (nI z.2.2.1.length) ap bg wr me (nI z.2.2.2.2.length) (nI z.2.2.2.1.length) wa wn fo st hl rf rt cu, CT, CH, cMO D B gR gQ gL, cMW D B gW, CX, CF, CE] 0 0 := by
    intro gd hgd
    refine Ex.p rfl ?_
    refine Ex.p rfl ?_
    refine Ex.p rfl ?_
    refine Ex.p rfl ?_
    refine Ex.cv (Mc := mMo_isTool) (Rc := rm 0 0 0) (As := [.int i]) (rest := [.ref m]) (Sr := [CH, cMO D B gR gQ gL, cMW D B gW, CX, CF, CE]) (ic := 0) (jc := 0) (ci := 10) [0, 1] [2, 3, 4, 5, 6, 7] (ct_Mo_isTool iT) rfl lk_10_104 lcMo_isTool rfl rfl rfl rfl rfl (by decide) rfl rfl rfl (by decide) ⟨by dsimp only [rm]; omega, by show 8 + (2 + 11) + 0 ≤ R.locals; omega⟩ (Nat.le_of_ble_eq_true rfl) (by first | (dsimp only [rm]; omega) | omega) (by first | (dsimp only [rm]; omega) | omega) ?_
    rintro v S1 ⟨rfl, rfl⟩
    rw [hT]
    refine Ex.sub (S' := [sMo m B th mn la (nI z.2.2.1.length) ap bg wr me (nI z.2.2.2.2.length) (nI z.2.2.2.1.length) wa wn fo st hl rf rt cu, CT, CH, cMO D B gR gQ gL, cMW D B gW, CX, CF, CE]) [6, 7, 0, 1, 2, 3, 4, 5] rfl rfl ?_
    by_cases g0 : 0 ≤ i.toInt ∧ i.toInt < z.1.length
    · rw [decide_eq_true g0]
      rw [if_pos g0] at hP
      refine Ex.br rfl (fun _ => ?_) (fun c => absurd (show (1 : Int32) ≠ 0 by decide) c)
      refine Ex.p rfl ?_
      cases gd with
      | false =>
        have g := of_decide_eq_false hgd.symm
        rw [if_neg g] at hP
        refine Ex.br rfl (fun _ => ?_) (fun c => absurd rfl c)
        refine Ex.p rfl ?_
        refine s64 2 (by omega) (by omega) hP.symm _ _ _ (by first | (dsimp only [rm]; omega) | omega) (by first | (dsimp only [rm]; omega) | omega) (fun q h => ?_)
        simp only [List.mem_cons, List.not_mem_nil, or_false] at h
        rcases h with rfl <;> first | (simp [xs1, lv_args, Value.category, b32, nI]; done) | (simp [xs1, lv_args, Value.category, b32, nI]; decide) | (simp [xs1, lv_args, Value.category, b32, nI]; exact Or.inr (by decide))
      | true =>
        have g := of_decide_eq_true hgd.symm
        rw [if_pos g] at hP
        unfold aHit at hP
        obtain ⟨g1, g2, g3⟩ := g
        refine Ex.br rfl (fun c => absurd c (show (1 : Int32) ≠ 0 by decide)) (fun _ => ?_)
        refine Ex.p rfl ?_
        refine Ex.p rfl ?_
        refine Ex.pf 0 0 rfl rfl rfl rfl rfl rfl ?_
        refine Ex.p rfl ?_
        refine Ex.gf 0 0 rfl rfl rfl ?_
        refine Ex.br rfl (fun _ => ?_) (fun c => absurd rfl c)
        refine Ex.p rfl ?_
        refine Ex.gf 0 0 rfl rfl rfl ?_
        refine Ex.p rfl ?_
        refine Ex.ial 2 0 0 rfl (by rw [eH]; rfl) rfl rfl (by decide) ?_
        rw [h1]
        refine Ex.p rfl ?_
        refine Ex.br rfl (fun c => ?_) (fun c => ?_)
        · have c : ¬ nI z.2.1.length = nI 60 := c
          rw [nI_eq (by omega) (by omega)] at c
          rw [if_pos (by omega)] at hP
          repeat (first | refine Ex.p rfl ?_ | refine Ex.ldc rfl ?_ | refine Ex.ldc2 rfl ?_)
          refine Ex.cv (Mc := mMo_addHit) (Rc := rm 0 0 0) (As := [.int (nI 0), .int i, .long x, .long y, .long x2, .long y2, .int 0, .int 7, .int (b32 true)]) (rest := []) (Sr := [CT, cMO D B gR gQ gL, cMW D B gW, CX, CF, CE]) (ic := 0) (jc := 0) (ci := 10) [0, 2] [1, 3, 4, 5, 6, 7] (ct_Mo_addHit (h9 := (i, x.toInt32, y.toInt32, x2.toInt32, y2.toInt32, 0, 7)) iH (by omega) (by rw [hH]; omega) (up64 (by omega)) (up64 (by omega)) (up64 (by omega)) (up64 (by omega)) (sl_ne g1 g2 g3)) rfl lk_10_115 lcMo_addHit rfl rfl rfl rfl rfl (by decide) rfl rfl rfl (by decide) ⟨by dsimp only [rm]; omega, by show 8 + (15 + 11) + 0 ≤ R.locals; omega⟩ (Nat.le_of_ble_eq_true rfl) (by first | (dsimp only [rm]; omega) | omega) (by first | (dsimp only [rm]; omega) | omega) ?_
          rintro v S1 ⟨rfl, CH', rfl, iH'⟩
          refine Ex.sub (S' := [sMo m B 0 mn la (nI z.2.2.1.length) ap bg wr me (nI z.2.2.2.2.length) (nI z.2.2.2.1.length) wa wn fo st hl rf rt cu, CT, CH', cMO D B gR gQ gL, cMW D B gW, CX, CF, CE]) [6, 0, 7, 1, 2, 3, 4, 5] rfl rfl ?_
          refine Ex.iret rfl rfl (by first | (dsimp only [rm]; omega) | omega) (by first | (dsimp only [rm]; omega) | omega) rfl ?_
          rw [hH]
          exact QM.ret hP.symm ⟨B, mn, la, ap, bg, wr, wa, wn, fo, st, rf, rt, cu, me, hl, LT, _, CT, CH', CX, CF, CE, gR, gQ, gL, gW, rfl, hT, (by rw [put2_s, hH]), iT, iH', iX, iF, iE⟩
        · have c : ¬ ¬ nI z.2.1.length = nI 60 := c
          have c := Decidable.not_not.mp c
          rw [nI_eq (by omega) (by omega)] at c
          rw [if_neg (by omega)] at hP
          refine Ex.p rfl ?_
          refine Ex.p rfl ?_
          refine Ex.iret rfl rfl (by first | (dsimp only [rm]; omega) | omega) (by first | (dsimp only [rm]; omega) | omega) rfl ?_
          exact QM.ret hP.symm ⟨B, mn, la, ap, bg, wr, wa, wn, fo, st, rf, rt, cu, me, hl, LT, LH, CT, CH, CX, CF, CE, gR, gQ, gL, gW, rfl, hT, hH, iT, iH, iX, iF, iE⟩
    · rw [decide_eq_false g0]
      rw [if_neg g0] at hP
      refine Ex.br rfl (fun c => absurd rfl c) (fun _ => ?_)
      refine Ex.p rfl ?_
      refine Ex.p rfl ?_
      refine s64 1 (by omega) (by omega) hP.symm _ _ _ (by first | (dsimp only [rm]; omega) | omega) (by first | (dsimp only [rm]; omega) | omega) (fun q h => ?_)
      simp only [List.mem_cons, List.not_mem_nil, or_false] at h
      rcases h with rfl <;> first | (simp [xs1, lv_args, Value.category, b32, nI]; done) | (simp [xs1, lv_args, Value.category, b32, nI]; decide) | (simp [xs1, lv_args, Value.category, b32, nI]; exact Or.inr (by decide))
  have s38 : ¬ (near64 x y ∧ near64 x2 y2 ∧ ¬ (x = x2 ∧ y = y2)) → ∀ k n : Nat, k ≤ 0 → n ≤ 0 → Ex l mMo_slot D R A (xQ D A (QM D m (.int 0) P)) R.cells R.slots 38 (lv_args 0 [.ref m, .int i, .long x, .long y, .long x2, .long y2]) [] [sMo m B th mn la (nI z.2.2.1.length) ap bg wr me (nI z.2.2.2.2.length) (nI z.2.2.2.1.length) wa wn fo st hl rf rt cu, CT, CH, cMO D B gR gQ gL, cMW D B gW, CX, CF, CE] k n := by
    intro g k n hk hn
    refine Ex.more (k' := 0) (n' := 0) hk hn ?_
    refine Ex.p rfl ?_
    exact s39 false (by rw [decide_eq_false g])
  have s34 : near64 x y → near64 x2 y2 → ¬ (x = x2 ∧ y = y2) → ∀ k n : Nat, k ≤ 0 → n ≤ 0 → Ex l mMo_slot D R A (xQ D A (QM D m (.int 0) P)) R.cells R.slots 34 (lv_args 0 [.ref m, .int i, .long x, .long y, .long x2, .long y2]) [] [sMo m B th mn la (nI z.2.2.1.length) ap bg wr me (nI z.2.2.2.2.length) (nI z.2.2.2.1.length) wa wn fo st hl rf rt cu, CT, CH, cMO D B gR gQ gL, cMW D B gW, CX, CF, CE] k n := by
    intro g1 g2 g3 k n hk hn
    refine Ex.more (k' := 0) (n' := 0) hk hn ?_
    refine Ex.p rfl ?_
    refine Ex.p rfl ?_
    exact s39 true (by rw [decide_eq_true ⟨g1, g2, g3⟩])
  refine Ex.p rfl ?_
  refine Ex.p rfl ?_
  refine Ex.cs0 (Mc := mMo_isPlace) (Rc := rm 0 0 0) (As := [.long x, .long y]) (rest := []) (ct_Mo_isPlace) rfl lk_10_111 lcMo_isPlace rfl ⟨by dsimp only [rm]; omega, by show 8 + (4 + 11) + 0 ≤ R.locals; omega⟩ (Nat.le_of_ble_eq_true rfl) (by first | (dsimp only [rm]; omega) | omega) (by first | (dsimp only [rm]; omega) | omega) ?_
  rintro v S1 ⟨rfl, rfl⟩
  by_cases g1 : near64 x y
  · rw [decide_eq_true g1]
    refine Ex.br rfl (fun c => absurd c (show (1 : Int32) ≠ 0 by decide)) (fun _ => ?_)
    refine Ex.p rfl ?_
    refine Ex.p rfl ?_
    refine Ex.cs0 (Mc := mMo_isPlace) (Rc := rm 0 0 0) (As := [.long x2, .long y2]) (rest := []) (ct_Mo_isPlace) rfl lk_10_111 lcMo_isPlace rfl ⟨by dsimp only [rm]; omega, by show 8 + (4 + 11) + 0 ≤ R.locals; omega⟩ (Nat.le_of_ble_eq_true rfl) (by first | (dsimp only [rm]; omega) | omega) (by first | (dsimp only [rm]; omega) | omega) ?_
    rintro v S1 ⟨rfl, rfl⟩
    by_cases g2 : near64 x2 y2
    · rw [decide_eq_true g2]
      refine Ex.br rfl (fun c => absurd c (show (1 : Int32) ≠ 0 by decide)) (fun _ => ?_)
      refine Ex.p rfl ?_
      refine Ex.p rfl ?_
      refine Ex.p rfl ?_
      refine Ex.br rfl (fun c => ?_) (fun c => ?_)
      · have c : ¬ lg_cmp x x2 = 0 := c
        rw [lg_cmp_eq] at c
        exact s34 g1 g2 (fun q => c q.1) _ _ (by first | (dsimp only [rm]; omega) | omega) (by first | (dsimp only [rm]; omega) | omega)
      · have c : ¬ ¬ lg_cmp x x2 = 0 := c
        rw [lg_cmp_eq] at c
        have c := Decidable.not_not.mp c
        refine Ex.p rfl ?_
        refine Ex.p rfl ?_
        refine Ex.p rfl ?_
        refine Ex.br rfl (fun c2 => ?_) (fun c2 => ?_)
        · have c2 : lg_cmp y y2 = 0 := c2
          rw [lg_cmp_eq] at c2
          exact s38 (fun q => q.2.2 ⟨c, c2⟩) _ _ (by first | (dsimp only [rm]; omega) | omega) (by first | (dsimp only [rm]; omega) | omega)
        · have c2 : ¬ lg_cmp y y2 = 0 := c2
          rw [lg_cmp_eq] at c2
          exact s34 g1 g2 (fun q => c2 q.2) _ _ (by first | (dsimp only [rm]; omega) | omega) (by first | (dsimp only [rm]; omega) | omega)
    · rw [decide_eq_false g2]
      exact Ex.br rfl (fun _ => s38 (fun q => g2 q.2.1) _ _ (by first | (dsimp only [rm]; omega) | omega) (by first | (dsimp only [rm]; omega) | omega)) (fun c => absurd rfl c)
  · rw [decide_eq_false g1]
    exact Ex.br rfl (fun _ => s38 (fun q => g1 q.1) _ _ (by first | (dsimp only [rm]; omega) | omega) (by first | (dsimp only [rm]; omega) | omega)) (fun c => absurd rfl c)
end MO3

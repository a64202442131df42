/-! the reference: tool, hole, slot, clear, unit, feed -/
def IsMo (D : xD) (m : Nat) (z : SD) (th : Int32) (S : List va_W) : Prop := ∃ (B : Nat → Nat) (mn la ap bg wr wa wn fo st rf rt cu : Int32) (me hl : Bool) (LT : Nat → List (Int32 × Bool)) (LH : Nat → List HV) (CT CH CX CF CE : va_W) (gR gQ : Nat → Int32) (gL : Nat → Int64) (gW : Nat → Int32),
  S = [sMo m B th mn la (nI z.2.2.1.length) ap bg wr me (nI z.2.2.2.2.length) (nI z.2.2.2.1.length) wa wn fo st hl rf rt cu, CT, CH, cMO D B gR gQ gL, cMW D B gW, CX, CF, CE] ∧ LT 0 = z.1 ∧ LH 0 = z.2.1 ∧ IsMT D B LT CT ∧ IsMH D B LH CH ∧ IsMX D B z.2.2.1 CX ∧ IsMF D B z.2.2.2.2 CF ∧ IsME D B z.2.2.2.1 CE
def QM (D : xD) (m : Nat) (y0 : Value) (r : AR) (v : Option Value) (S : List va_W) : Prop := match r.1 with
  | .inl k => v = some y0 ∧ IsMo D m r.2 (nI k) S
  | .inr y => v = some y ∧ IsMo D m r.2 0 S
theorem QM.thr {D : xD} {m k : Nat} {y0 : Value} {r : AR} {S : List va_W} {z : SD} (e : r = (.inl k, z)) (h : IsMo D m z (nI k) S) : QM D m y0 r (some y0) S := by
  subst e
  exact ⟨rfl, h⟩
theorem QM.ret {D : xD} {m : Nat} {y0 y : Value} {r : AR} {S : List va_W} {z : SD} (e : r = (.inr y, z)) (h : IsMo D m z 0 S) : QM D m y0 r (some y) S := by
  subst e
  exact ⟨rfl, h⟩
theorem up64 {x : Int64} (h : -2000000000 ≤ x.toInt ∧ x.toInt ≤ 2000000000) : x.toInt32.toInt64 = x := by
  apply Int64.toInt_inj.mp
  rw [Int32.toInt_toInt64, Int64.toInt_toInt32]
  exact Int.bmod_eq_of_le (by omega) (by omega)
section MO2
variable {l : Launch} {D : xD} {R : Room}
theorem ct_Mo_tool {m : Nat} {z : SD} {d : Int64} {p : Bool} {th : Int32} {S : List va_W} (h : IsMo D m z th S) (hr : rmOk R 1 0 0) : Ct l mMo_tool D R [.ref m, .long d, .int (b32 p)] S (QM D m (.int 0) (aTool z d p)) := by
  obtain ⟨r1, r2, r3, r4⟩ := hr
  obtain ⟨B, mn, la, ap, bg, wr, wa, wn, fo, st, rf, rt, cu, me, hl, LT, LH, CT, CH, CX, CF, CE, gR, gQ, gL, gW, rfl, hT, hH, iT, iH, iX, iF, iE⟩ := h
  obtain ⟨gT, gD, gP, eT, hs⟩ := id iT
  obtain ⟨h1, h2, -⟩ := hs 0 (by omega)
  rw [hT] at h1 h2
  generalize hP : aTool z d p = P
  unfold aTool at hP
  refine Ct.of rfl (by decide) tkMo_tool (Nat.le_of_ble_eq_true rfl) (fun A => ?_)
  refine Ex.p rfl ?_
  refine Ex.p rfl ?_
  refine Ex.cs0 (Mc := mMo_isDiameter) (Rc := rm 0 0 0) (As := [.long d]) (rest := [.ref m]) (ct_Mo_isDiameter) rfl lk_10_96 lcMo_isDiameter rfl ⟨by dsimp only [rm]; omega, by show 8 + (2 + 11) + 0 ≤ R.locals; omega⟩ (Nat.le_of_ble_eq_true rfl) (by dsimp only [rm]; omega) (by dsimp only [rm]; omega) ?_
  rintro v S1 ⟨rfl, rfl⟩
  by_cases g1 : 1 ≤ d.toInt ∧ d.toInt ≤ 10000
  · rw [decide_eq_true g1]
    rw [if_pos g1] at hP
    refine Ex.br rfl (fun c => absurd c (show (1 : Int32) ≠ 0 by decide)) (fun _ => ?_)
    refine Ex.p rfl ?_
    refine Ex.p rfl ?_
    refine Ex.pf 0 0 rfl rfl rfl rfl rfl rfl ?_
    refine Ex.p rfl ?_
    refine Ex.gf 0 0 rfl rfl rfl ?_
    refine Ex.br rfl (fun _ => ?_) (fun c => absurd rfl c)
    refine Ex.p rfl ?_
    refine Ex.gf 0 0 rfl rfl rfl ?_
    refine Ex.p rfl ?_
    refine Ex.ial 1 0 0 rfl (by rw [eT]; rfl) rfl rfl (by decide) ?_
    rw [h1]
    refine Ex.p rfl ?_
    refine Ex.br rfl (fun c => ?_) (fun c => ?_)
    · have c : ¬ nI z.1.length = nI 10 := c
      rw [nI_eq (by omega) (by omega)] at c
      rw [if_pos (by omega)] at hP
      refine Ex.p rfl ?_
      refine Ex.p rfl ?_
      refine Ex.p rfl ?_
      refine Ex.p rfl ?_
      refine Ex.cv (Mc := mMo_addTool) (Rc := rm 0 0 0) (As := [.int (nI 0), .long d, .int (b32 p)]) (rest := []) (Sr := [CH, cMO D B gR gQ gL, cMW D B gW, CX, CF, CE]) (ic := 0) (jc := 0) (ci := 10) [0, 1] [2, 3, 4, 5, 6, 7] (ct_Mo_addTool (x := d.toInt32) iT (by omega) (by rw [hT]; omega) (up64 (by omega))) rfl lk_10_100 lcMo_addTool rfl rfl rfl rfl rfl (by decide) rfl rfl rfl (by decide) ⟨by dsimp only [rm]; omega, by show 8 + (5 + 11) + 0 ≤ R.locals; omega⟩ (Nat.le_of_ble_eq_true rfl) (by dsimp only [rm]; omega) (by dsimp only [rm]; omega) ?_
      rintro v S1 ⟨rfl, CT', rfl, iT'⟩
      refine Ex.sub (S' := [sMo m B 0 mn la (nI z.2.2.1.length) ap bg wr me (nI z.2.2.2.2.length) (nI z.2.2.2.1.length) wa wn fo st hl rf rt cu, CT', CH, cMO D B gR gQ gL, cMW D B gW, CX, CF, CE]) [6, 7, 0, 1, 2, 3, 4, 5] rfl rfl ?_
      refine Ex.iret rfl rfl (by dsimp only [rm]; omega) (by dsimp only [rm]; omega) rfl ?_
      rw [hT]
      exact QM.ret hP.symm ⟨B, mn, la, ap, bg, wr, wa, wn, fo, st, rf, rt, cu, me, hl, _, LH, CT', CH, CX, CF, CE, gR, gQ, gL, gW, rfl, (by rw [put2_s, hT]), hH, iT', iH, iX, iF, iE⟩
    · have c : ¬ ¬ nI z.1.length = nI 10 := c
      have c := Decidable.not_not.mp c
      rw [nI_eq (by omega) (by omega)] at c
      rw [if_neg (by omega)] at hP
      refine Ex.p rfl ?_
      refine Ex.p rfl ?_
      refine Ex.iret rfl rfl (by dsimp only [rm]; omega) (by dsimp only [rm]; omega) rfl ?_
      exact QM.ret hP.symm ⟨B, mn, la, ap, bg, wr, wa, wn, fo, st, rf, rt, cu, me, hl, LT, LH, CT, CH, CX, CF, CE, gR, gQ, gL, gW, rfl, hT, hH, iT, iH, iX, iF, iE⟩
  · rw [decide_eq_false g1]
    rw [if_neg g1] at hP
    refine Ex.br rfl (fun _ => ?_) (fun c => absurd rfl c)
    refine Ex.p rfl ?_
    refine Ex.pf 0 0 rfl rfl rfl rfl rfl rfl ?_
    refine Ex.p rfl ?_
    refine Ex.gf 0 0 rfl rfl rfl ?_
    refine Ex.br rfl (fun c => absurd c (show (1 : Int32) ≠ 0 by decide)) (fun _ => ?_)
    refine Ex.p rfl ?_
    refine Ex.iret rfl rfl (by dsimp only [rm]; omega) (by dsimp only [rm]; omega) rfl ?_
    exact QM.thr hP.symm ⟨B, mn, la, ap, bg, wr, wa, wn, fo, st, rf, rt, cu, me, hl, LT, LH, CT, CH, CX, CF, CE, gR, gQ, gL, gW, rfl, hT, hH, iT, iH, iX, iF, iE⟩
theorem ct_Mo_clear {m : Nat} {z : SD} {th : Int32} {S : List va_W} (h : IsMo D m z th S) : Ct l mMo_clear D R [.ref m] S (fun v S => v = none ∧ IsMo D m ([], [], [], [], []) 0 S) := by
  obtain ⟨B, mn, la, ap, bg, wr, wa, wn, fo, st, rf, rt, cu, me, hl, LT, LH, CT, CH, CX, CF, CE, gR, gQ, gL, gW, rfl, hT, hH, iT, iH, iX, iF, iE⟩ := h
  obtain ⟨gT, gD, gP, rfl, hs⟩ := iT
  obtain ⟨gH, gO, gX, gY, gE, gG, gF, gU, gS, rfl, hsH⟩ := iH
  obtain ⟨gC, rfl, -⟩ := iX
  obtain ⟨gr, gs, gb, rfl, -⟩ := iF
  obtain ⟨gd, rfl, -⟩ := iE
  refine Ct.of rfl (by decide) tkMo_clear (Nat.le_of_ble_eq_true rfl) (fun A => ?_)
  refine Ex.p rfl ?_
  refine Ex.p rfl ?_
  refine Ex.pf 0 0 rfl rfl rfl rfl rfl rfl ?_
  refine Ex.p rfl ?_
  refine Ex.gf 0 0 rfl rfl rfl ?_
  refine Ex.p rfl ?_
  refine Ex.p rfl ?_
  refine Ex.ias 1 0 0 rfl rfl rfl rfl (by decide) ?_
  refine Ex.p rfl ?_
  refine Ex.gf 0 0 rfl rfl rfl ?_
  refine Ex.p rfl ?_
  refine Ex.p rfl ?_
  refine Ex.ias 2 0 0 rfl rfl rfl rfl (by decide) ?_
  refine Ex.p rfl ?_
  refine Ex.p rfl ?_
  refine Ex.pf 0 0 rfl rfl rfl rfl rfl rfl ?_
  refine Ex.p rfl ?_
  refine Ex.p rfl ?_
  refine Ex.pf 0 0 rfl rfl rfl rfl rfl rfl ?_
  refine Ex.p rfl ?_
  refine Ex.p rfl ?_
  refine Ex.pf 0 0 rfl rfl rfl rfl rfl rfl ?_
  refine Ex.vret rfl rfl (Nat.zero_le _) (Nat.zero_le _) rfl ⟨rfl, B, mn, la, ap, bg, wr, wa, wn, fo, st, rf, rt, cu, me, hl, (fun s => if s = 0 then [] else LT s), (fun s => if s = 0 then [] else LH s), _, _, _, _, _, gR, gQ, gL, gW, rfl, rfl, rfl, ⟨_, _, _, rfl, fun s hs2 => ?_⟩, ⟨_, _, _, _, _, _, _, _, _, rfl, fun s hs2 => ?_⟩, ⟨_, rfl, (by simp), (fun j h => by simp at h)⟩, ⟨_, _, _, rfl, (by simp), (fun i x h => by simp at h)⟩, ⟨_, rfl, (by simp), (fun j h => by simp at h)⟩⟩
  · by_cases h0 : s = 0
    · subst h0
      exact ⟨rfl, by simp, fun i t h => by simp at h⟩
    · dsimp only
      rw [if_neg h0, upd_n _ _ h0]
      exact hs s hs2
  · by_cases h0 : s = 0
    · subst h0
      exact ⟨rfl, by simp, fun i t h => by simp at h⟩
    · dsimp only
      rw [if_neg h0, upd_n _ _ h0]
      exact hsH s hs2
theorem ct_Mo_unit {m : Nat} {z : SD} {u th : Int32} {S : List va_W} (h : IsMo D m z th S) : Ct l mMo_unit D R [.ref m, .int u] S (QM D m (.int 0) (aUnit z u)) := by
  obtain ⟨B, mn, la, ap, bg, wr, wa, wn, fo, st, rf, rt, cu, me, hl, LT, LH, CT, CH, CX, CF, CE, gR, gQ, gL, gW, rfl, hT, hH, iT, iH, iX, iF, iE⟩ := h
  obtain ⟨gC, eX, x1, x2⟩ := id iX
  generalize hP : aUnit z u = P
  unfold aUnit at hP
  refine Ct.of rfl (by decide) tkMo_unit (Nat.le_of_ble_eq_true rfl) (fun A => ?_)
  have bad : ¬ ((u.toInt = 10 ∨ (32 ≤ u.toInt ∧ u.toInt ≤ 126)) ∧ z.2.2.1.length < 2000) → Ex l mMo_unit D R A (xQ D A (QM D m (.int 0) P)) R.cells R.slots 33 (lv_args 0 [.ref m, .int u]) [] [sMo m B 0 mn la (nI z.2.2.1.length) ap bg wr me (nI z.2.2.2.2.length) (nI z.2.2.2.1.length) wa wn fo st hl rf rt cu, CT, CH, cMO D B gR gQ gL, cMW D B gW, CX, CF, CE] 0 0 := by
    intro g
    rw [if_neg g] at hP
    refine Ex.p rfl ?_
    refine Ex.zret rfl rfl (Or.inl rfl) (Nat.zero_le _) (Nat.zero_le _) rfl ?_
    exact QM.ret hP.symm ⟨B, mn, la, ap, bg, wr, wa, wn, fo, st, rf, rt, cu, me, hl, LT, LH, CT, CH, CX, CF, CE, gR, gQ, gL, gW, rfl, hT, hH, iT, iH, iX, iF, iE⟩
  have good : (u.toInt = 10 ∨ (32 ≤ u.toInt ∧ u.toInt ≤ 126)) → Ex l mMo_unit D R A (xQ D A (QM D m (.int 0) P)) R.cells R.slots 23 (lv_args 0 [.ref m, .int u]) [] [sMo m B 0 mn la (nI z.2.2.1.length) ap bg wr me (nI z.2.2.2.2.length) (nI z.2.2.2.1.length) wa wn fo st hl rf rt cu, CT, CH, cMO D B gR gQ gL, cMW D B gW, CX, CF, CE] 0 0 := by
    intro g
    refine Ex.p rfl ?_
    refine Ex.gf 0 0 rfl rfl rfl ?_
    refine Ex.p rfl ?_
    refine Ex.br rfl (fun c => ?_) (fun c => ?_)
    · have c : ¬ nI z.2.2.1.length = nI 2000 := c
      rw [nI_eq (by omega) (by omega)] at c
      rw [if_pos ⟨g, by omega⟩] at hP
      subst eX
      refine Ex.p rfl ?_
      refine Ex.gf 0 0 rfl rfl rfl ?_
      refine Ex.p rfl ?_
      refine Ex.gf 0 0 rfl rfl rfl ?_
      refine Ex.p rfl ?_
      refine Ex.ias 5 0 z.2.2.1.length rfl rfl rfl (nI_toInt (by omega)) (by omega) ?_
      refine Ex.p rfl ?_
      refine Ex.p rfl ?_
      refine Ex.gf 0 0 rfl rfl rfl ?_
      refine Ex.p rfl ?_
      refine Ex.p rfl ?_
      rw [i_add1]
      refine Ex.pf 0 0 rfl rfl rfl rfl rfl rfl ?_
      refine Ex.p rfl ?_
      refine Ex.zret rfl rfl (Or.inr rfl) (Nat.zero_le _) (Nat.zero_le _) rfl ?_
      refine QM.ret hP.symm ⟨B, mn, la, ap, bg, wr, wa, wn, fo, st, rf, rt, cu, me, hl, LT, LH, CT, CH, cMX D B (upd gC z.2.2.1.length u), CF, CE, gR, gQ, gL, gW, (by rw [List.length_append]; rfl), hT, hH, iT, iH, ⟨_, rfl, (by simp; omega), fun j hj => ?_⟩, iF, iE⟩
      rcases Nat.lt_or_ge j z.2.2.1.length with q | q
      · rw [upd_n _ _ (by omega), List.getElem_append_left q]
        exact x2 j q
      · have ej : j = z.2.2.1.length := by simp at hj; omega
        subst ej
        rw [upd_s]
        simp
    · have c : ¬ ¬ nI z.2.2.1.length = nI 2000 := c
      have c := Decidable.not_not.mp c
      rw [nI_eq (by omega) (by omega)] at c
      exact bad (by omega)
  refine Ex.p rfl ?_
  refine Ex.p rfl ?_
  refine Ex.pf 0 0 rfl rfl rfl rfl rfl rfl ?_
  refine Ex.p rfl ?_
  refine Ex.p rfl ?_
  refine Ex.br rfl (fun c => ?_) (fun c => ?_)
  · have c : u = 10 := c
    exact good (Or.inl (by rw [c]; rfl))
  · have c : ¬ u = 10 := c
    have c0 : ¬ u.toInt = 10 := fun q => c (Int32.toInt_inj.mp q)
    refine Ex.p rfl ?_
    refine Ex.p rfl ?_
    refine Ex.br rfl (fun c1 => ?_) (fun c1 => ?_)
    · have c1 : u < 32 := c1
      rw [Int32.lt_iff_toInt_lt] at c1
      have c1 : u.toInt < 32 := c1
      exact bad (by omega)
    · have c1 : ¬ u < 32 := c1
      rw [Int32.lt_iff_toInt_lt] at c1
      have c1 : ¬ u.toInt < 32 := c1
      refine Ex.p rfl ?_
      refine Ex.p rfl ?_
      refine Ex.br rfl (fun c2 => ?_) (fun c2 => ?_)
      · have c2 : 126 < u := c2
        rw [Int32.lt_iff_toInt_lt] at c2
        have c2 : 126 < u.toInt := c2
        exact bad (by omega)
      · have c2 : ¬ 126 < u := c2
        rw [Int32.lt_iff_toInt_lt] at c2
        have c2 : ¬ 126 < u.toInt := c2
        exact good (Or.inr ⟨by omega, by omega⟩)
theorem ct_Mo_feed {m : Nat} {z : SD} {b th : Int32} {S : List va_W} (h : IsMo D m z th S) (hr : rmOk R 1 0 0) : Ct l mMo_feed D R [.ref m, .int b] S (QM D m (.int 0) (aFeed z b)) := by
  obtain ⟨r1, r2, r3, r4⟩ := hr
  obtain ⟨B, mn, la, ap, bg, wr, wa, wn, fo, st, rf, rt, cu, me, hl, LT, LH, CT, CH, CX, CF, CE, gR, gQ, gL, gW, rfl, hT, hH, iT, iH, iX, iF, iE⟩ := h
  obtain ⟨gd, eE, x1, x2⟩ := id iE
  generalize hP : aFeed z b = P
  unfold aFeed at hP
  refine Ct.of rfl (by decide) tkMo_feed (Nat.le_of_ble_eq_true rfl) (fun A => ?_)
  have bad : ¬ ((0 ≤ b.toInt ∧ b.toInt < 256) ∧ z.2.2.2.1.length < 2600) → Ex l mMo_feed D R A (xQ D A (QM D m (.int 0) P)) R.cells R.slots 22 (lv_args 0 [.ref m, .int b]) [] [sMo m B 0 mn la (nI z.2.2.1.length) ap bg wr me (nI z.2.2.2.2.length) (nI z.2.2.2.1.length) wa wn fo st hl rf rt cu, CT, CH, cMO D B gR gQ gL, cMW D B gW, CX, CF, CE] 0 0 := by
    intro g
    rw [if_neg g] at hP
    refine Ex.p rfl ?_
    refine Ex.zret rfl rfl (Or.inl rfl) (Nat.zero_le _) (Nat.zero_le _) rfl ?_
    exact QM.ret hP.symm ⟨B, mn, la, ap, bg, wr, wa, wn, fo, st, rf, rt, cu, me, hl, LT, LH, CT, CH, CX, CF, CE, gR, gQ, gL, gW, rfl, hT, hH, iT, iH, iX, iF, iE⟩
  refine Ex.p rfl ?_
  refine Ex.p rfl ?_
  refine Ex.pf 0 0 rfl rfl rfl rfl rfl rfl ?_
  refine Ex.p rfl ?_
  refine Ex.cs0 (Mc := mMo_isByte) (Rc := rm 0 0 0) (As := [.int b]) (rest := []) (ct_Mo_isByte) rfl lk_10_255 lcMo_isByte rfl ⟨by dsimp only [rm]; omega, by show 8 + (1 + 11) + 0 ≤ R.locals; omega⟩ (Nat.le_of_ble_eq_true rfl) (by dsimp only [rm]; omega) (by dsimp only [rm]; omega) ?_
  rintro v S1 ⟨rfl, rfl⟩
  by_cases g1 : 0 ≤ b.toInt ∧ b.toInt < 256
  · rw [decide_eq_true g1]
    refine Ex.br rfl (fun c => absurd c (show (1 : Int32) ≠ 0 by decide)) (fun _ => ?_)
    refine Ex.p rfl ?_
    refine Ex.gf 0 0 rfl rfl rfl ?_
    refine Ex.p rfl ?_
    refine Ex.br rfl (fun c => ?_) (fun c => ?_)
    · have c : ¬ nI z.2.2.2.1.length = nI 2600 := c
      rw [nI_eq (by omega) (by omega)] at c
      rw [if_pos ⟨g1, by omega⟩] at hP
      subst eE
      refine Ex.p rfl ?_
      refine Ex.gf 0 0 rfl rfl rfl ?_
      refine Ex.p rfl ?_
      refine Ex.gf 0 0 rfl rfl rfl ?_
      refine Ex.p rfl ?_
      refine Ex.ias 7 0 z.2.2.2.1.length rfl rfl rfl (nI_toInt (by omega)) (by omega) ?_
      refine Ex.p rfl ?_
      refine Ex.p rfl ?_
      refine Ex.gf 0 0 rfl rfl rfl ?_
      refine Ex.p rfl ?_
      refine Ex.p rfl ?_
      rw [i_add1]
      refine Ex.pf 0 0 rfl rfl rfl rfl rfl rfl ?_
      refine Ex.p rfl ?_
      refine Ex.zret rfl rfl (Or.inr rfl) (by dsimp only [rm]; omega) (by dsimp only [rm]; omega) rfl ?_
      refine QM.ret hP.symm ⟨B, mn, la, ap, bg, wr, wa, wn, fo, st, rf, rt, cu, me, hl, LT, LH, CT, CH, CX, CF, cME D B (upd gd z.2.2.2.1.length b), gR, gQ, gL, gW, (by rw [List.length_append]; rfl), hT, hH, iT, iH, iX, iF, ⟨_, rfl, (by simp; omega), fun j hj => ?_⟩⟩
      rcases Nat.lt_or_ge j z.2.2.2.1.length with q | q
      · rw [upd_n _ _ (by omega)]
        have := x2 j q
        simp only [List.getElem_append_left q]
        exact this
      · have ej : j = z.2.2.2.1.length := by simp at hj; omega
        subst ej
        rw [upd_s]
        simp only [List.getElem_concat_length]
        exact ⟨(nI_nat g1.1).symm, by omega⟩
    · have c : ¬ ¬ nI z.2.2.2.1.length = nI 2600 := c
      have c := Decidable.not_not.mp c
      rw [nI_eq (by omega) (by omega)] at c
      exact bad (by omega)
  · rw [decide_eq_false g1]
    exact Ex.br rfl (fun _ => bad (fun q => g1 q.1)) (fun c => absurd rfl c)
end MO2

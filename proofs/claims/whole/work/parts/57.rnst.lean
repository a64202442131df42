/-! lines as steps of reading -/
theorem pLayerLine_ok {xs : List Int32} {p q : Nat} {x : Int32 × Int32} (h : pLayerLine xs p = (some x, q)) : gt xs p = 76 ∧ layOK x.1 ∧ layOK x.2 := by
  have hg : gt xs p = 76 := Decidable.byContradiction (fun c => by rw [pLayerLine_no c] at h; cases h)
  refine ⟨hg, ?_⟩
  unfold pLayerLine at h
  generalize pPart xs 76 false p = P1 at h
  obtain ⟨o1, p1⟩ := P1
  cases o1 with
  | none => cases h
  | some a =>
    dsimp only at h
    generalize pPart xs 44 false p1 = P2 at h
    obtain ⟨o2, p2⟩ := P2
    cases o2 with
    | none => cases h
    | some b =>
      dsimp only at h
      generalize pLit xs [10] p2 = P3 at h
      obtain ⟨o3, p3⟩ := P3
      cases o3 with
      | false => cases h
      | true =>
        dsimp only at h
        split at h
        · rename_i g
          cases h
          exact ⟨g.1, g.2.1⟩
        · cases h
theorem pToolLine_ok {xs : List Int32} {n p q : Nat} {x : Int32 × Bool} (h : pToolLine xs n p = (some x, q)) : n < 10 ∧ tvOK x := by
  unfold pToolLine at h
  generalize pPart xs 84 false p = P1 at h
  obtain ⟨o1, p1⟩ := P1
  cases o1 with
  | none => cases h
  | some a =>
    dsimp only at h
    generalize pPart xs 67 false p1 = P2 at h
    obtain ⟨o2, p2⟩ := P2
    cases o2 with
    | none => cases h
    | some b =>
      dsimp only at h
      generalize pLit xs (if gt xs p2 = 80 then [80, 10] else [78, 10]) p2 = P3 at h
      obtain ⟨o3, p3⟩ := P3
      cases o3 with
      | false => cases h
      | true =>
        dsimp only at h
        split at h
        · rename_i g
          cases h
          exact ⟨g.2.2, g.2.1⟩
        · cases h
theorem pChoice_ok {xs : List Int32} {n p q : Nat} {x : Int32} (h : pChoice xs n p = (some x, q)) : gt xs p = 84 ∧ 0 ≤ x.toInt ∧ x.toInt < n := by
  have hg : gt xs p = 84 := Decidable.byContradiction (fun c => by rw [pChoice_no c] at h; cases h)
  refine ⟨hg, ?_⟩
  unfold pChoice at h
  generalize pPart xs 84 false p = P1 at h
  obtain ⟨o1, p1⟩ := P1
  cases o1 with
  | none => cases h
  | some a =>
    dsimp only at h
    generalize pLit xs [10] p1 = P3 at h
    obtain ⟨o3, p3⟩ := P3
    cases o3 with
    | false => cases h
    | true =>
      dsimp only at h
      split at h
      · rename_i g
        cases h
        exact g
      · cases h
theorem pHitLine_ok {xs : List Int32} {nh p q : Nat} {ch f t : Int32} {x : HV} (hf : layOK f) (ht : layOK t) (h : pHitLine xs nh ch f t p = (some x, q)) : nh < 60 ∧ x.1 = ch ∧ hOK x := by
  unfold pHitLine at h
  generalize pPlace xs p = P1 at h
  obtain ⟨o1, p1⟩ := P1
  cases o1 with
  | none => cases h
  | some a =>
    dsimp only at h
    by_cases hg : gt xs p1 = 71
    · rw [if_pos hg] at h
      generalize pLit xs [71, 56, 53] p1 = P2 at h
      obtain ⟨o2, p2⟩ := P2
      cases o2 with
      | false => cases h
      | true =>
        dsimp only at h
        generalize pPlace xs p2 = P3 at h
        obtain ⟨o3, p3⟩ := P3
        cases o3 with
        | none => cases h
        | some b =>
          dsimp only at h
          generalize pLit xs [10] p3 = P4 at h
          obtain ⟨o4, p4⟩ := P4
          cases o4 with
          | false => cases h
          | true =>
            dsimp only at h
            split at h
            · rename_i g
              cases h
              obtain ⟨⟨⟨a1, a2, a3, a4⟩, b1, b2, b3, b4⟩, -, g3⟩ := g
              exact ⟨g3, rfl, ⟨(by show a.1.toInt.natAbs ≤ 1000000; omega), (by show a.2.toInt.natAbs ≤ 1000000; omega), (by show b.1.toInt.natAbs ≤ 1000000; omega), (by show b.2.toInt.natAbs ≤ 1000000; omega)⟩, (show layOK 0 from ⟨by decide, by decide⟩), (show layOK 7 from ⟨by decide, by decide⟩)⟩
            · cases h
    · rw [if_neg hg] at h
      generalize pLit xs [10] p1 = P4 at h
      obtain ⟨o4, p4⟩ := P4
      cases o4 with
      | false => cases h
      | true =>
        dsimp only at h
        split at h
        · rename_i g
          cases h
          obtain ⟨⟨a1, a2, a3, a4⟩, g3⟩ := g
          exact ⟨g3, rfl, ⟨(by show a.1.toInt.natAbs ≤ 1000000; omega), (by show a.2.toInt.natAbs ≤ 1000000; omega), (by show a.1.toInt.natAbs ≤ 1000000; omega), (by show a.2.toInt.natAbs ≤ 1000000; omega)⟩, hf, ht⟩
        · cases h
section RNS
variable {xs : List Int32} {f t ch : Int32} {tv : List (Int32 × Bool)} {hv : List HV} {p q : Nat} {r : Nat ⊕ (List (Int32 × Bool) × List HV)} {hl : Bool}
theorem Rn.m48_ok {s : Bool × Int32 × Int32 × List (Int32 × Bool) × List HV × Int32} (h : pLit xs [77, 52, 56, 10] p = (true, q)) (hr : Rn xs (1, s) q r) : Rn xs (0, s) p r := by
  refine Rn.step (by show 0 < 3; omega) ?_ hr
  unfold pStep
  dsimp only
  rw [if_pos rfl, h]
theorem Rn.m48_bad {s : Bool × Int32 × Int32 × List (Int32 × Bool) × List HV × Int32} (h : pLit xs [77, 52, 56, 10] p = (false, q)) : Rn xs (0, s) p (.inl q) := by
  refine Rn.bad (by show 0 < 3; omega) ?_
  unfold pStep
  dsimp only
  rw [if_pos rfl, h]
theorem Rn.lay_ok {x : Int32 × Int32} (h : pLayerLine xs p = (some x, q)) (hr : Rn xs (1, true, x.1, x.2, [], hv, ch) q r) : Rn xs (1, hl, f, t, [], hv, ch) p r := by
  refine Rn.step (by show 1 < 3; omega) ?_ hr
  unfold pStep
  dsimp only
  rw [if_neg (by decide), if_pos rfl, if_pos ⟨(pLayerLine_ok h).1, rfl⟩, h]
theorem Rn.lay_bad (h : pLayerLine xs p = (none, q)) (hg : hl = false ∨ gt xs p = 76) : Rn xs (1, hl, f, t, [], hv, ch) p (.inl q) := by
  refine Rn.bad (by show 1 < 3; omega) ?_
  unfold pStep
  dsimp only
  rw [if_neg (by decide), if_pos rfl]
  by_cases c : gt xs p = 76
  · rw [if_pos ⟨c, rfl⟩, h]
  · rw [pLayerLine_no c] at h
    cases h
    have hg : hl = false := hg.resolve_right c
    subst hg
    rw [if_neg (fun q => c q.1), if_neg (fun q => by cases q.2), if_neg (fun q => by cases q.2)]
theorem Rn.tool_ok {x : Int32 × Bool} (h : pToolLine xs tv.length p = (some x, q)) (hg : gt xs p = 84) (hr : Rn xs (1, true, f, t, tv ++ [x], hv, ch) q r) : Rn xs (1, true, f, t, tv, hv, ch) p r := by
  refine Rn.step (by show 1 < 3; omega) ?_ hr
  unfold pStep
  dsimp only
  rw [if_neg (by decide), if_pos rfl, if_neg (fun q => by rw [hg] at q; exact absurd q.1 (by decide)), if_pos ⟨hg, rfl⟩, h]
theorem Rn.tool_bad (h : pToolLine xs tv.length p = (none, q)) (hg : gt xs p = 84) : Rn xs (1, true, f, t, tv, hv, ch) p (.inl q) := by
  refine Rn.bad (by show 1 < 3; omega) ?_
  unfold pStep
  dsimp only
  rw [if_neg (by decide), if_pos rfl, if_neg (fun q => by rw [hg] at q; exact absurd q.1 (by decide)), if_pos ⟨hg, rfl⟩, h]
theorem Rn.pct_ok (h : pLit xs [37, 10] p = (true, q)) (hr : Rn xs (2, true, f, t, tv, hv, ch) q r) : Rn xs (1, true, f, t, tv, hv, ch) p r := by
  have hg : gt xs p = 37 := Decidable.byContradiction (fun c => by rw [pLit_no c] at h; cases h)
  refine Rn.step (by show 1 < 3; omega) ?_ hr
  unfold pStep
  dsimp only
  rw [if_neg (by decide), if_pos rfl, if_neg (fun q => by rw [hg] at q; exact absurd q.1 (by decide)), if_neg (fun q => by rw [hg] at q; exact absurd q.1 (by decide)), if_pos ⟨hg, rfl⟩, h]
theorem Rn.pct_bad (h : pLit xs [37, 10] p = (false, q)) (h1 : tv = [] → gt xs p ≠ 76) (h2 : gt xs p ≠ 84) : Rn xs (1, true, f, t, tv, hv, ch) p (.inl q) := by
  refine Rn.bad (by show 1 < 3; omega) ?_
  unfold pStep
  dsimp only
  rw [if_neg (by decide), if_pos rfl, if_neg (fun q => h1 q.2 q.1), if_neg (fun q => h2 q.1)]
  by_cases hg : gt xs p = 37
  · rw [if_pos ⟨hg, rfl⟩, h]
  · rw [pLit_no hg] at h
    cases h
    rw [if_neg (fun q => hg q.1)]
theorem Rn.cho_ok {x : Int32} (h : pChoice xs tv.length p = (some x, q)) (hr : Rn xs (2, hl, f, t, tv, hv, x) q r) : Rn xs (2, hl, f, t, tv, hv, ch) p r := by
  refine Rn.step (by show 2 < 3; omega) ?_ hr
  unfold pStep
  dsimp only
  rw [if_neg (by decide), if_neg (by decide), if_pos (pChoice_ok h).1, h]
theorem Rn.cho_bad (h : pChoice xs tv.length p = (none, q)) (h1 : gt xs p ≠ 77) (h2 : ¬ (gt xs p = 88 ∧ ch ≠ -1)) : Rn xs (2, hl, f, t, tv, hv, ch) p (.inl q) := by
  refine Rn.bad (by show 2 < 3; omega) ?_
  unfold pStep
  dsimp only
  rw [if_neg (by decide), if_neg (by decide)]
  by_cases c : gt xs p = 84
  · rw [if_pos c, h]
  · rw [pChoice_no c] at h
    cases h
    rw [if_neg c, if_neg h2, pLit_no h1]
theorem Rn.hit_ok {x : HV} (h : pHitLine xs hv.length ch f t p = (some x, q)) (hg : gt xs p = 88) (hc : ch ≠ -1) (hr : Rn xs (2, hl, f, t, tv, hv ++ [x], ch) q r) : Rn xs (2, hl, f, t, tv, hv, ch) p r := by
  refine Rn.step (by show 2 < 3; omega) ?_ hr
  unfold pStep
  dsimp only
  rw [if_neg (by decide), if_neg (by decide), if_neg (by rw [hg]; decide), if_pos ⟨hg, hc⟩, h]
theorem Rn.hit_bad (h : pHitLine xs hv.length ch f t p = (none, q)) (hg : gt xs p = 88) (hc : ch ≠ -1) : Rn xs (2, hl, f, t, tv, hv, ch) p (.inl q) := by
  refine Rn.bad (by show 2 < 3; omega) ?_
  unfold pStep
  dsimp only
  rw [if_neg (by decide), if_neg (by decide), if_neg (by rw [hg]; decide), if_pos ⟨hg, hc⟩, h]
theorem Rn.m30_ok (h : pLit xs [77, 51, 48, 10] p = (true, q)) (hr : Rn xs (3, hl, f, t, tv, hv, ch) q r) : Rn xs (2, hl, f, t, tv, hv, ch) p r := by
  have hg : gt xs p = 77 := Decidable.byContradiction (fun c => by rw [pLit_no c] at h; cases h)
  refine Rn.step (by show 2 < 3; omega) ?_ hr
  unfold pStep
  dsimp only
  rw [if_neg (by decide), if_neg (by decide), if_neg (by rw [hg]; decide), if_neg (by rw [hg]; exact fun q => absurd q.1 (by decide)), h]
theorem Rn.m30_bad (h : pLit xs [77, 51, 48, 10] p = (false, q)) (hg : gt xs p = 77 ∨ gt xs p = -1) : Rn xs (2, hl, f, t, tv, hv, ch) p (.inl q) := by
  refine Rn.bad (by show 2 < 3; omega) ?_
  unfold pStep
  dsimp only
  rw [if_neg (by decide), if_neg (by decide), if_neg (by rcases hg with hg | hg <;> rw [hg] <;> decide), if_neg (by rcases hg with hg | hg <;> rw [hg] <;> exact fun q => absurd q.1 (by decide)), h]
end RNS

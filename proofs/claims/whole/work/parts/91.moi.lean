/-! the reference reads: layers, a tool -/
theorem eX_bad {xs : List Int32} {c : Int32} {e : Nat} : eX xs c (false, e) = (false, e) := rfl
theorem wS_bad {xs : List Int32} {e : Nat} : wS xs (false, e) = (false, e) := rfl
theorem nS_bad {xs : List Int32} {e : Nat} : nS xs (false, e) = (false, e) := by
  unfold nS mS
  rw [if_neg (fun q => by cases q.1)]
  rfl
theorem eX_yes {xs : List Int32} {c : Int32} {p : Nat} (h : gt xs p = c) : eX xs c (true, p) = (true, p + 1) := by
  unfold eX
  rw [if_pos rfl, if_pos h]
theorem eX_no {xs : List Int32} {c : Int32} {p : Nat} (h : ¬ gt xs p = c) : eX xs c (true, p) = (false, p) := by
  unfold eX
  rw [if_pos rfl, if_neg h]
theorem pLit_bad {xs : List Int32} {e : Nat} : ∀ cs : List Int32, cs.foldl (fun s c => eX xs c s) (false, e) = (false, e)
  | [] => rfl
  | c :: cs => by
    rw [List.foldl_cons, eX_bad]
    exact pLit_bad cs
theorem pLit_fold {xs : List Int32} : ∀ (cs : List Int32) (p : Nat), pLit xs cs p = cs.foldl (fun s c => eX xs c s) (true, p)
  | [], _ => rfl
  | c :: cs, p => by
    unfold pLit
    rw [List.foldl_cons]
    by_cases h : gt xs p = c
    · rw [if_pos h, eX_yes h]
      exact pLit_fold cs (p + 1)
    · rw [if_neg h, eX_no h, pLit_bad]
theorem pLit1 {xs : List Int32} {c : Int32} {p : Nat} : pLit xs [c] p = eX xs c (true, p) := pLit_fold _ _
theorem pLit2 {xs : List Int32} {a c : Int32} {p : Nat} : pLit xs [a, c] p = eX xs c (eX xs a (true, p)) := pLit_fold _ _
theorem pLit3 {xs : List Int32} {a b c : Int32} {p : Nat} : pLit xs [a, b, c] p = eX xs c (eX xs b (eX xs a (true, p))) := pLit_fold _ _
theorem pLit4 {xs : List Int32} {a b c d : Int32} {p : Nat} : pLit xs [a, b, c, d] p = eX xs d (eX xs c (eX xs b (eX xs a (true, p)))) := pLit_fold _ _
theorem wS_none {xs : List Int32} {b : Bool} {q e : Nat} {c : Int32} (h : pNumAt xs b q = (none, e)) : wS xs (true, q) = (false, e) := by
  unfold pNumAt at h
  unfold wS
  split at h
  · cases h
  · rename_i g
    cases h
    rw [if_pos rfl, decide_eq_false g]
    rfl
theorem wS_some {xs : List Int32} {b : Bool} {q e : Nat} {v : Int32} (h : pNumAt xs b q = (some v, e)) : (wS xs (true, q)).2 = e ∧ (∀ c, isDg c = false → eX xs c (wS xs (true, q)) = eX xs c (true, e)) ∧ v = (if b then - nI (wV xs (true, q)) else nI (wV xs (true, q))) := by
  unfold pNumAt at h
  have eS : wS xs (true, q) = (decide (q < (pDig xs 7 q 0).2) && !isDg (gt xs (pDig xs 7 q 0).2), (pDig xs 7 q 0).2) := rfl
  have eV : wV xs (true, q) = (pDig xs 7 q 0).1 := rfl
  rw [eS, eV]
  generalize pDig xs 7 q 0 = d at h
  split at h
  · rename_i g
    cases h
    rw [decide_eq_true g]
    refine ⟨rfl, fun c hc => ?_, rfl⟩
    cases hd : isDg (gt xs d.2) with
    | false => rfl
    | true =>
      rw [eX_no (fun e => by rw [e] at hd; rw [hd] at hc; cases hc)]
      rfl
  · cases h
theorem pN_0 {xs : List Int32} {q : Nat} : pNum xs false q = pNumAt xs false q := rfl
theorem nS_mS {xs : List Int32} {q : Nat} : mS xs (true, q) = (true, if pNeg xs true q then q + 1 else q) := by
  unfold mS pNeg
  by_cases h : gt xs q = 45
  · rw [if_pos ⟨rfl, h⟩, decide_eq_true h]
    rfl
  · rw [if_neg (fun q => h q.2), decide_eq_false h]
    rfl
theorem nS_none {xs : List Int32} {q e : Nat} (h : pNum xs true q = (none, e)) : nS xs (true, q) = (false, e) := by
  unfold pNum at h
  unfold nS
  rw [nS_mS]
  exact wS_none (c := 0) h
theorem nS_some {xs : List Int32} {q e : Nat} {v : Int32} (h : pNum xs true q = (some v, e)) : (nS xs (true, q)).2 = e ∧ (∀ c, isDg c = false → eX xs c (nS xs (true, q)) = eX xs c (true, e)) ∧ v = nV xs (true, q) := by
  unfold pNum at h
  unfold nS nV
  rw [nS_mS]
  obtain ⟨h1, h2, h3⟩ := wS_some h
  refine ⟨h1, h2, ?_⟩
  rw [h3]
  unfold pNeg
  by_cases g : gt xs q = 45
  · rw [decide_eq_true g, if_pos g]
    rfl
  · rw [decide_eq_false g, if_neg g]
    rfl
abbrev layC (a b : Int32) : Prop := (0 ≤ a.toInt ∧ a.toInt ≤ 7) ∧ (0 ≤ b.toInt ∧ b.toInt ≤ 7) ∧ a ≤ b
theorem lay_pure {xs : List Int32} {p : Nat} (h : gt xs p = 76) : ((eX xs 10 (wS xs (eX xs 44 (wS xs (true, p + 1))))).1 = false → pLayerLine xs p = (none, (eX xs 10 (wS xs (eX xs 44 (wS xs (true, p + 1))))).2)) ∧ ((eX xs 10 (wS xs (eX xs 44 (wS xs (true, p + 1))))).1 = true → pLayerLine xs p = if layC (nI (wV xs (true, p + 1))) (nI (wV xs (eX xs 44 (wS xs (true, p + 1))))) then (some (nI (wV xs (true, p + 1)), nI (wV xs (eX xs 44 (wS xs (true, p + 1))))), (eX xs 10 (wS xs (eX xs 44 (wS xs (true, p + 1))))).2) else (none, p)) := by
  unfold pLayerLine
  rw [show pPart xs 76 false p = pNum xs false (p + 1) from if_pos h]
  rcases h1 : pNum xs false (p + 1) with ⟨_ | a, p1⟩
  · rw [pN_0] at h1
    rw [wS_none (c := 0) h1]
    exact ⟨fun _ => rfl, fun q => by cases q⟩
  · rw [pN_0] at h1
    obtain ⟨-, a2, a3⟩ := wS_some h1
    rw [a2 44 (by decide)]
    have a3 : a = nI (wV xs (true, p + 1)) := a3
    dsimp only
    by_cases g : gt xs p1 = 44
    · rw [show pPart xs 44 false p1 = pNum xs false (p1 + 1) from if_pos g, eX_yes g]
      rcases h2 : pNum xs false (p1 + 1) with ⟨_ | b, p2⟩
      · rw [pN_0] at h2
        rw [wS_none (c := 0) h2]
        exact ⟨fun _ => rfl, fun q => by cases q⟩
      · rw [pN_0] at h2
        obtain ⟨-, b2, b3⟩ := wS_some h2
        have b3 : b = nI (wV xs (true, p1 + 1)) := b3
        rw [b2 10 (by decide)]
        dsimp only
        rw [pLit1]
        rcases h3 : eX xs 10 (true, p2) with ⟨_ | _, p3⟩
        · exact ⟨fun _ => rfl, fun q => by cases q⟩
        · refine ⟨fun q => (by cases q), fun _ => ?_⟩
          rw [← a3, ← b3]
    · rw [show pPart xs 44 false p1 = (none, p1) from if_neg g, eX_no g]
      exact ⟨fun _ => rfl, fun q => by cases q⟩
theorem tool_pure {xs : List Int32} {n p : Nat} {s2 s3 s5 : Bool × Nat} {pb : Bool} (h : gt xs p = 84) (e2 : s2 = eX xs 67 (wS xs (true, p + 1))) (e3 : s3 = wS xs s2) (eb : pb = decide (gt xs s3.2 = 80)) (e5 : s5 = eX xs 10 (if pb then eX xs 80 s3 else eX xs 78 s3)) : (s5.1 = false → pToolLine xs n p = (none, s5.2)) ∧ (s5.1 = true → pToolLine xs n p = if nI (wV xs (true, p + 1)) = nI n ∧ (1 ≤ (nI (wV xs s2)).toInt ∧ (nI (wV xs s2)).toInt ≤ 10000) ∧ n < 10 then (some (nI (wV xs s2), pb), s5.2) else (none, p)) := by
  have ebad : ∀ e, s3 = (false, e) → s5 = (false, e) := by
    intro e q
    rw [e5, q]
    cases pb <;> rfl
  unfold pToolLine
  rw [show pPart xs 84 false p = pNum xs false (p + 1) from if_pos h]
  rcases h1 : pNum xs false (p + 1) with ⟨_ | a, p1⟩
  · rw [pN_0] at h1
    rw [wS_none (c := 0) h1] at e2
    have := ebad p1 (by rw [e3, e2]; rfl)
    rw [this]
    exact ⟨fun _ => rfl, fun q => by cases q⟩
  · rw [pN_0] at h1
    obtain ⟨-, a2, a3⟩ := wS_some h1
    rw [a2 67 (by decide)] at e2
    have a3 : a = nI (wV xs (true, p + 1)) := a3
    dsimp only
    by_cases g : gt xs p1 = 67
    · rw [show pPart xs 67 false p1 = pNum xs false (p1 + 1) from if_pos g]
      rw [eX_yes g] at e2
      rcases h2 : pNum xs false (p1 + 1) with ⟨_ | b, p2⟩
      · rw [pN_0] at h2
        have := ebad p2 (by rw [e3, e2, wS_none (c := 0) h2])
        rw [this]
        exact ⟨fun _ => rfl, fun q => by cases q⟩
      · rw [pN_0] at h2
        obtain ⟨b1, b2, b3⟩ := wS_some h2
        have b3 : b = nI (wV xs (true, p1 + 1)) := b3
        rw [← e2] at b1 b2 b3
        rw [← e3] at b1 b2
        rw [b1] at eb
        rw [b2 80 (by decide), b2 78 (by decide)] at e5
        dsimp only
        have e6 : pLit xs (if gt xs p2 = 80 then [80, 10] else [78, 10]) p2 = s5 := by
          rw [e5, eb]
          by_cases g2 : gt xs p2 = 80
          · rw [if_pos g2, decide_eq_true g2, pLit2]
            rfl
          · rw [if_neg g2, decide_eq_false g2, pLit2]
            rfl
        rw [e6, ← eb]
        obtain ⟨b9, p3⟩ := s5
        cases b9 with
        | false => exact ⟨fun _ => rfl, fun q => by cases q⟩
        | true =>
          refine ⟨fun q => (by cases q), fun _ => ?_⟩
          rw [← a3, ← b3]
    · rw [show pPart xs 67 false p1 = (none, p1) from if_neg g]
      rw [eX_no g] at e2
      have := ebad p1 (by rw [e3, e2]; rfl)
      rw [this]
      exact ⟨fun _ => rfl, fun q => by cases q⟩
theorem choice_pure {xs : List Int32} {n p : Nat} (h : gt xs p = 84) : ((eX xs 10 (wS xs (true, p + 1))).1 = false → pChoice xs n p = (none, (eX xs 10 (wS xs (true, p + 1))).2)) ∧ ((eX xs 10 (wS xs (true, p + 1))).1 = true → pChoice xs n p = if 0 ≤ (nI (wV xs (true, p + 1))).toInt ∧ (nI (wV xs (true, p + 1))).toInt < n then (some (nI (wV xs (true, p + 1))), (eX xs 10 (wS xs (true, p + 1))).2) else (none, p)) := by
  unfold pChoice
  rw [show pPart xs 84 false p = pNum xs false (p + 1) from if_pos h]
  rcases h1 : pNum xs false (p + 1) with ⟨_ | a, p1⟩
  · rw [pN_0] at h1
    rw [wS_none (c := 0) h1]
    exact ⟨fun _ => rfl, fun q => by cases q⟩
  · rw [pN_0] at h1
    obtain ⟨-, a2, a3⟩ := wS_some h1
    have a3 : a = nI (wV xs (true, p + 1)) := a3
    rw [a2 10 (by decide)]
    dsimp only
    rw [pLit1]
    rcases h3 : eX xs 10 (true, p1) with ⟨_ | _, p3⟩
    · exact ⟨fun _ => rfl, fun q => by cases q⟩
    · refine ⟨fun q => (by cases q), fun _ => ?_⟩
      rw [← a3]
/-- a place read, from a state before its first letter -/
def plS (xs : List Int32) (s : Bool × Nat) : Bool × Nat := nS xs (eX xs 89 (nS xs (eX xs 88 s)))
theorem plS_none {xs : List Int32} {q e : Nat} (h : pPlace xs q = (none, e)) : plS xs (true, q) = (false, e) := by
  unfold pPlace at h
  unfold plS
  by_cases g : gt xs q = 88
  · rw [show pPart xs 88 true q = pNum xs true (q + 1) from if_pos g] at h
    rw [eX_yes g]
    rcases h1 : pNum xs true (q + 1) with ⟨_ | a, p1⟩
    · rw [h1] at h
      cases h
      rw [nS_none h1, eX_bad, nS_bad]
    · rw [h1] at h
      obtain ⟨-, a2, -⟩ := nS_some h1
      rw [a2 89 (by decide)]
      dsimp only at h
      by_cases g2 : gt xs p1 = 89
      · rw [show pPart xs 89 true p1 = pNum xs true (p1 + 1) from if_pos g2] at h
        rw [eX_yes g2]
        rcases h2 : pNum xs true (p1 + 1) with ⟨_ | b, p2⟩
        · rw [h2] at h
          cases h
          exact nS_none h2
        · rw [h2] at h
          cases h
      · rw [show pPart xs 89 true p1 = (none, p1) from if_neg g2] at h
        cases h
        rw [eX_no g2, nS_bad]
  · rw [show pPart xs 88 true q = (none, q) from if_neg g] at h
    cases h
    rw [eX_no g, nS_bad, eX_bad, nS_bad]
theorem plS_some {xs : List Int32} {q e : Nat} {v : Int32 × Int32} (h : pPlace xs q = (some v, e)) : (plS xs (true, q)).2 = e ∧ (∀ c, isDg c = false → eX xs c (plS xs (true, q)) = eX xs c (true, e)) ∧ v.1 = nV xs (eX xs 88 (true, q)) ∧ v.2 = nV xs (eX xs 89 (nS xs (eX xs 88 (true, q)))) := by
  unfold pPlace at h
  unfold plS
  by_cases g : gt xs q = 88
  · rw [show pPart xs 88 true q = pNum xs true (q + 1) from if_pos g] at h
    rw [eX_yes g]
    rcases h1 : pNum xs true (q + 1) with ⟨_ | a, p1⟩
    · rw [h1] at h
      cases h
    · rw [h1] at h
      obtain ⟨-, a2, a3⟩ := nS_some h1
      rw [a2 89 (by decide)]
      dsimp only at h
      by_cases g2 : gt xs p1 = 89
      · rw [show pPart xs 89 true p1 = pNum xs true (p1 + 1) from if_pos g2] at h
        rw [eX_yes g2]
        rcases h2 : pNum xs true (p1 + 1) with ⟨_ | b, p2⟩
        · rw [h2] at h
          cases h
        · rw [h2] at h
          cases h
          obtain ⟨b1, b2, b3⟩ := nS_some h2
          exact ⟨b1, b2, a3, b3⟩
      · rw [show pPart xs 89 true p1 = (none, p1) from if_neg g2] at h
        cases h
  · rw [show pPart xs 88 true q = (none, q) from if_neg g] at h
    cases h
theorem plS_bad {xs : List Int32} {e : Nat} : plS xs (false, e) = (false, e) := by
  unfold plS
  rw [eX_bad, nS_bad, eX_bad, nS_bad]
theorem hole_pure {xs : List Int32} {nh p : Nat} {ch f t : Int32} {s3 s4 : Bool × Nat} {x y : Int32} (e3 : s3 = plS xs (true, p)) (hx : x = nV xs (eX xs 88 (true, p))) (hy : y = nV xs (eX xs 89 (nS xs (eX xs 88 (true, p))))) (hs : (eX xs 71 s3).1 = false) (e4 : s4 = eX xs 10 s3) : (s4.1 = false → pHitLine xs nh ch f t p = (none, s4.2)) ∧ (s4.1 = true → pHitLine xs nh ch f t p = if near2 x y ∧ nh < 60 then (some (ch, x, y, x, y, f, t), s4.2) else (none, p)) := by
  unfold pHitLine
  rcases h1 : pPlace xs p with ⟨_ | a, p1⟩
  · rw [plS_none h1] at e3
    rw [e4, e3]
    exact ⟨fun _ => rfl, fun q => by cases q⟩
  · obtain ⟨a1, a2, a3, a4⟩ := plS_some h1
    rw [e3, a2 71 (by decide)] at hs
    have g : ¬ gt xs p1 = 71 := fun g => by
      rw [eX_yes g] at hs
      cases hs
    rw [e3, a2 10 (by decide)] at e4
    dsimp only
    rw [if_neg g, pLit1, ← e4]
    obtain ⟨b9, p3⟩ := s4
    cases b9 with
    | false => exact ⟨fun _ => rfl, fun q => by cases q⟩
    | true =>
      refine ⟨fun q => (by cases q), fun _ => ?_⟩
      rw [hx, hy, ← a3, ← a4]
theorem slot_pure {xs : List Int32} {nh p : Nat} {ch f t : Int32} {s3 s6 s10 s11 : Bool × Nat} {x y x2 y2 : Int32} (e3 : s3 = plS xs (true, p)) (hx : x = nV xs (eX xs 88 (true, p))) (hy : y = nV xs (eX xs 89 (nS xs (eX xs 88 (true, p))))) (hs : (eX xs 71 s3).1 = true) (e6 : s6 = eX xs 53 (eX xs 56 (eX xs 71 s3))) (e10 : s10 = plS xs s6) (hx2 : x2 = nV xs (eX xs 88 s6)) (hy2 : y2 = nV xs (eX xs 89 (nS xs (eX xs 88 s6)))) (e11 : s11 = eX xs 10 s10) : (s11.1 = false → pHitLine xs nh ch f t p = (none, s11.2)) ∧ (s11.1 = true → pHitLine xs nh ch f t p = if (near2 x y ∧ near2 x2 y2) ∧ ¬ (x = x2 ∧ y = y2) ∧ nh < 60 then (some (ch, x, y, x2, y2, 0, 7), s11.2) else (none, p)) := by
  unfold pHitLine
  rcases h1 : pPlace xs p with ⟨_ | a, p1⟩
  · rw [e3, plS_none h1] at hs
    cases hs
  · obtain ⟨a1, a2, a3, a4⟩ := plS_some h1
    rw [e3, a2 71 (by decide)] at hs e6
    have g : gt xs p1 = 71 := by
      rcases Decidable.em (gt xs p1 = 71) with g | g
      · exact g
      · rw [eX_no g] at hs
        cases hs
    rw [← pLit3] at e6
    dsimp only
    rw [if_pos g, ← e6]
    obtain ⟨b6, p2⟩ := s6
    cases b6 with
    | false =>
      rw [plS_bad] at e10
      rw [e11, e10]
      exact ⟨fun _ => rfl, fun q => by cases q⟩
    | true =>
      dsimp only
      rcases h2 : pPlace xs p2 with ⟨_ | b, p3⟩
      · rw [plS_none h2] at e10
        rw [e11, e10]
        exact ⟨fun _ => rfl, fun q => by cases q⟩
      · obtain ⟨b1, b2, b3, b4⟩ := plS_some h2
        rw [e10, b2 10 (by decide)] at e11
        dsimp only
        rw [pLit1, ← e11]
        obtain ⟨b9, p4⟩ := s11
        cases b9 with
        | false => exact ⟨fun _ => rfl, fun q => by cases q⟩
        | true =>
          refine ⟨fun q => (by cases q), fun _ => ?_⟩
          rw [hx, hy, hx2, hy2, ← a3, ← a4, ← b3, ← b4]

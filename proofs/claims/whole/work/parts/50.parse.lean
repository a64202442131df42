/-! a text read: plain values -/
def gt (xs : List Int32) (p : Nat) : Int32 := xs.getD p (-1)
theorem rget_gt {xs : List Int32} {p : Nat} (h : p < 2 ^ 31) : rget xs (nI p) = gt xs p := by
  unfold rget gt
  rw [nI_toInt h]
  by_cases q : p < xs.length
  · rw [if_pos ⟨by omega, by omega⟩, Int.toNat_natCast, List.getD_eq_getElem?_getD, List.getD_eq_getElem?_getD, List.getElem?_eq_getElem q]
    rfl
  · rw [if_neg (by omega), List.getD_eq_getElem?_getD, List.getElem?_eq_none (by omega)]
    rfl
theorem gt_end {xs : List Int32} {p : Nat} (h : xs.length ≤ p) : gt xs p = -1 := by
  unfold gt
  rw [List.getD_eq_getElem?_getD, List.getElem?_eq_none h]
  rfl
theorem gt_lt {xs : List Int32} {p : Nat} (h : gt xs p ≠ -1) : p < xs.length := by
  rcases Nat.lt_or_ge p xs.length with q | q
  · exact q
  · exact absurd (gt_end q) h
def isDg (c : Int32) : Bool := decide (48 ≤ c.toInt ∧ c.toInt ≤ 57)
theorem isDg_m1 : isDg (-1) = false := by decide
/-- the characters that must stand here -/
def pLit (xs : List Int32) : List Int32 → Nat → Bool × Nat
  | [], p => (true, p)
  | c :: r, p => if gt xs p = c then pLit xs r (p + 1) else (false, p)
/-- at most k digits -/
def pDig (xs : List Int32) : Nat → Nat → Nat → Nat × Nat
  | 0, p, v => (v, p)
  | k + 1, p, v => if isDg (gt xs p) then pDig xs k (p + 1) (v * 10 + ((gt xs p).toInt - 48).toNat) else (v, p)
def pNeg (xs : List Int32) (sg : Bool) (p : Nat) : Bool := sg && decide (gt xs p = 45)
def pNumAt (xs : List Int32) (b : Bool) (q : Nat) : Option Int32 × Nat := if q < (pDig xs 7 q 0).2 then (some (if b then - nI (pDig xs 7 q 0).1 else nI (pDig xs 7 q 0).1), (pDig xs 7 q 0).2) else (none, (pDig xs 7 q 0).2)
def pNum (xs : List Int32) (sg : Bool) (p : Nat) : Option Int32 × Nat := pNumAt xs (pNeg xs sg p) (if pNeg xs sg p then p + 1 else p)
def pPart (xs : List Int32) (c : Int32) (sg : Bool) (p : Nat) : Option Int32 × Nat := if gt xs p = c then pNum xs sg (p + 1) else (none, p)
def pLayerLine (xs : List Int32) (p : Nat) : Option (Int32 × Int32) × Nat := match pPart xs 76 false p with
  | (none, p1) => (none, p1)
  | (some a, p1) => match pPart xs 44 false p1 with
    | (none, p2) => (none, p2)
    | (some b, p2) => match pLit xs [10] p2 with
      | (false, p3) => (none, p3)
      | (true, p3) => if (0 ≤ a.toInt ∧ a.toInt ≤ 7) ∧ (0 ≤ b.toInt ∧ b.toInt ≤ 7) ∧ a ≤ b then (some (a, b), p3) else (none, p)
def pToolLine (xs : List Int32) (n p : Nat) : Option (Int32 × Bool) × Nat := match pPart xs 84 false p with
  | (none, p1) => (none, p1)
  | (some t, p1) => match pPart xs 67 false p1 with
    | (none, p2) => (none, p2)
    | (some d, p2) => match pLit xs (if gt xs p2 = 80 then [80, 10] else [78, 10]) p2 with
      | (false, p3) => (none, p3)
      | (true, p3) => if t = nI n ∧ (1 ≤ d.toInt ∧ d.toInt ≤ 10000) ∧ n < 10 then (some (d, decide (gt xs p2 = 80)), p3) else (none, p)
def pChoice (xs : List Int32) (n p : Nat) : Option Int32 × Nat := match pPart xs 84 false p with
  | (none, p1) => (none, p1)
  | (some t, p1) => match pLit xs [10] p1 with
    | (false, p2) => (none, p2)
    | (true, p2) => if 0 ≤ t.toInt ∧ t.toInt < n then (some t, p2) else (none, p)
def pPlace (xs : List Int32) (p : Nat) : Option (Int32 × Int32) × Nat := match pPart xs 88 true p with
  | (none, p1) => (none, p1)
  | (some x, p1) => match pPart xs 89 true p1 with
    | (none, p2) => (none, p2)
    | (some y, p2) => (some (x, y), p2)
abbrev near2 (x y : Int32) : Prop := -1000000 ≤ x.toInt ∧ x.toInt ≤ 1000000 ∧ -1000000 ≤ y.toInt ∧ y.toInt ≤ 1000000
def pHitLine (xs : List Int32) (nh : Nat) (ch f t : Int32) (p : Nat) : Option HV × Nat := match pPlace xs p with
  | (none, p1) => (none, p1)
  | (some a, p1) =>
    if gt xs p1 = 71 then match pLit xs [71, 56, 53] p1 with
      | (false, p2) => (none, p2)
      | (true, p2) => match pPlace xs p2 with
        | (none, p3) => (none, p3)
        | (some b, p3) => match pLit xs [10] p3 with
          | (false, p4) => (none, p4)
          | (true, p4) => if (near2 a.1 a.2 ∧ near2 b.1 b.2) ∧ ¬ (a.1 = b.1 ∧ a.2 = b.2) ∧ nh < 60 then (some (ch, a.1, a.2, b.1, b.2, 0, 7), p4) else (none, p)
    else match pLit xs [10] p1 with
      | (false, p2) => (none, p2)
      | (true, p2) => if near2 a.1 a.2 ∧ nh < 60 then (some (ch, a.1, a.2, a.1, a.2, f, t), p2) else (none, p)
/-- where reading stands: stage, layers told, from, to, tools, hits, the tool chosen -/
abbrev RS : Type := Nat × Bool × Int32 × Int32 × List (Int32 × Bool) × List HV × Int32
abbrev rs0 : RS := (0, false, 0, 0, [], [], -1)
/-- one line -/
def pStep (xs : List Int32) (s : RS) (p : Nat) : Option RS × Nat := match s with
  | (st, hl, f, t, tv, hv, ch) =>
    if st = 0 then match pLit xs [77, 52, 56, 10] p with
      | (false, q) => (none, q)
      | (true, q) => (some (1, hl, f, t, tv, hv, ch), q)
    else if st = 1 then
      if gt xs p = 76 ∧ tv = [] then match pLayerLine xs p with
        | (none, q) => (none, q)
        | (some a, q) => (some (1, true, a.1, a.2, tv, hv, ch), q)
      else if gt xs p = 84 ∧ hl = true then match pToolLine xs tv.length p with
        | (none, q) => (none, q)
        | (some a, q) => (some (1, hl, f, t, tv ++ [a], hv, ch), q)
      else if gt xs p = 37 ∧ hl = true then match pLit xs [37, 10] p with
        | (false, q) => (none, q)
        | (true, q) => (some (2, hl, f, t, tv, hv, ch), q)
      else (none, p)
    else
      if gt xs p = 84 then match pChoice xs tv.length p with
        | (none, q) => (none, q)
        | (some c, q) => (some (2, hl, f, t, tv, hv, c), q)
      else if gt xs p = 88 ∧ ch ≠ -1 then match pHitLine xs hv.length ch f t p with
        | (none, q) => (none, q)
        | (some h, q) => (some (2, hl, f, t, tv, hv ++ [h], ch), q)
      else match pLit xs [77, 51, 48, 10] p with
        | (false, q) => (none, q)
        | (true, q) => (some (3, hl, f, t, tv, hv, ch), q)
/-- what reading comes to: the first wrong place, or tools and hits -/
def RnK (xs : List Int32) : Nat → RS → Nat → Nat ⊕ (List (Int32 × Bool) × List HV) → Prop
  | 0, s, p, r => (s.1 = 3 ∧ p = xs.length ∧ r = .inr (s.2.2.2.2.1, s.2.2.2.2.2.1)) ∨ (s.1 = 3 ∧ p ≠ xs.length ∧ r = .inl p) ∨ (s.1 < 3 ∧ ∃ q, pStep xs s p = (none, q) ∧ r = .inl q)
  | k + 1, s, p, r => s.1 < 3 ∧ ∃ s' q, pStep xs s p = (some s', q) ∧ RnK xs k s' q r
def Rn (xs : List Int32) (s : RS) (p : Nat) (r : Nat ⊕ (List (Int32 × Bool) × List HV)) : Prop := ∃ k, RnK xs k s p r
theorem Rn.fin {xs : List Int32} {s : RS} (h : s.1 = 3) : Rn xs s xs.length (.inr (s.2.2.2.2.1, s.2.2.2.2.2.1)) := ⟨0, Or.inl ⟨h, rfl, rfl⟩⟩
theorem Rn.trail {xs : List Int32} {s : RS} {p : Nat} (h : s.1 = 3) (hp : p ≠ xs.length) : Rn xs s p (.inl p) := ⟨0, Or.inr (Or.inl ⟨h, hp, rfl⟩)⟩
theorem Rn.bad {xs : List Int32} {s : RS} {p q : Nat} (h : s.1 < 3) (hq : pStep xs s p = (none, q)) : Rn xs s p (.inl q) := ⟨0, Or.inr (Or.inr ⟨h, q, hq, rfl⟩)⟩
theorem Rn.step {xs : List Int32} {s s' : RS} {p q : Nat} {r : Nat ⊕ (List (Int32 × Bool) × List HV)} (h : s.1 < 3) (hq : pStep xs s p = (some s', q)) (hr : Rn xs s' q r) : Rn xs s p r := by
  obtain ⟨k, hk⟩ := hr
  exact ⟨k + 1, h, s', q, hq, hk⟩
theorem RnK.uniq {xs : List Int32} {r r' : Nat ⊕ (List (Int32 × Bool) × List HV)} : ∀ {k k' : Nat} {s : RS} {p : Nat}, RnK xs k s p r → RnK xs k' s p r' → r = r'
  | 0, 0, s, p, h, h' => by
    rcases h with ⟨a, b, rfl⟩ | ⟨a, b, rfl⟩ | ⟨a, q, b, rfl⟩ <;> rcases h' with ⟨a', b', rfl⟩ | ⟨a', b', rfl⟩ | ⟨a', q', b', rfl⟩ <;> first | rfl | omega | exact absurd b b' | exact absurd b' b | (rw [b] at b'; cases b'; rfl)
  | 0, k' + 1, s, p, h, h' => by
    obtain ⟨a', s', q', b', -⟩ := h'
    rcases h with ⟨a, b, rfl⟩ | ⟨a, b, rfl⟩ | ⟨a, q, b, rfl⟩
    · omega
    · omega
    · rw [b] at b'; cases b'
  | k + 1, 0, s, p, h, h' => by
    obtain ⟨a', s', q', b', -⟩ := h
    rcases h' with ⟨a, b, rfl⟩ | ⟨a, b, rfl⟩ | ⟨a, q, b, rfl⟩
    · omega
    · omega
    · rw [b] at b'; cases b'
  | k + 1, k' + 1, s, p, h, h' => by
    obtain ⟨a, s1, q1, b, c⟩ := h
    obtain ⟨a', s2, q2, b', c'⟩ := h'
    rw [b] at b'
    cases b'
    exact RnK.uniq c c'
theorem Rn.uniq {xs : List Int32} {s : RS} {p : Nat} {r r' : Nat ⊕ (List (Int32 × Bool) × List HV)} (h : Rn xs s p r) (h' : Rn xs s p r') : r = r' := by
  obtain ⟨k, h⟩ := h
  obtain ⟨k', h'⟩ := h'
  exact RnK.uniq h h'
/-- places stay inside the text, and go on -/
theorem pLit_le {xs : List Int32} : ∀ {cs : List Int32} {p : Nat}, (∀ c ∈ cs, c ≠ -1) → p ≤ xs.length → p ≤ (pLit xs cs p).2 ∧ (pLit xs cs p).2 ≤ xs.length
  | [], p, _, hp => ⟨Nat.le_refl _, hp⟩
  | c :: r, p, hc, hp => by
    unfold pLit
    split
    · rename_i e
      have hlt : p < xs.length := gt_lt (by rw [e]; exact hc c (by simp))
      have := pLit_le (cs := r) (p := p + 1) (fun c h => hc c (by simp [h])) hlt
      exact ⟨by omega, this.2⟩
    · exact ⟨Nat.le_refl _, hp⟩
theorem pDig_le {xs : List Int32} : ∀ {k p v : Nat}, p ≤ xs.length → p ≤ (pDig xs k p v).2 ∧ (pDig xs k p v).2 ≤ xs.length ∧ (pDig xs k p v).2 ≤ p + k
  | 0, p, v, hp => ⟨Nat.le_refl _, hp, Nat.le_refl _⟩
  | k + 1, p, v, hp => by
    unfold pDig
    split
    · rename_i e
      have hlt : p < xs.length := gt_lt (fun q => by rw [q] at e; exact absurd e (by decide))
      have := pDig_le (xs := xs) (k := k) (p := p + 1) (v := v * 10 + ((gt xs p).toInt - 48).toNat) hlt
      exact ⟨by omega, this.2.1, by omega⟩
    · exact ⟨Nat.le_refl _, hp, by omega⟩
theorem pDig_val {xs : List Int32} : ∀ {k p v : Nat}, (pDig xs k p v).1 < (v + 1) * 10 ^ k
  | 0, p, v => by show v < (v + 1) * 1; omega
  | k + 1, p, v => by
    unfold pDig
    have h1 : 0 < 10 ^ k := Nat.pow_pos (by omega)
    split
    · rename_i e
      have e : 48 ≤ (gt xs p).toInt ∧ (gt xs p).toInt ≤ 57 := of_decide_eq_true e
      have := pDig_val (xs := xs) (k := k) (p := p + 1) (v := v * 10 + ((gt xs p).toInt - 48).toNat)
      refine Nat.lt_of_lt_of_le this ?_
      rw [Nat.pow_succ, Nat.mul_comm (10 ^ k) 10, ← Nat.mul_assoc]
      exact Nat.mul_le_mul_right _ (by omega)
    · show v < (v + 1) * 10 ^ (k + 1)
      calc v < (v + 1) * 1 := by omega
        _ ≤ (v + 1) * 10 ^ (k + 1) := Nat.mul_le_mul_left _ (Nat.pow_pos (by omega))
theorem pNum_le {xs : List Int32} {sg : Bool} {p : Nat} (hp : p ≤ xs.length) : p ≤ (pNum xs sg p).2 ∧ (pNum xs sg p).2 ≤ xs.length := by
  have hq : p ≤ (if pNeg xs sg p then p + 1 else p) ∧ (if pNeg xs sg p then p + 1 else p) ≤ xs.length := by
    split
    · rename_i e
      unfold pNeg at e
      simp at e
      have : p < xs.length := gt_lt (fun q => by rw [q] at e; exact absurd e.2 (by decide))
      omega
    · omega
  have := pDig_le (xs := xs) (k := 7) (v := 0) hq.2
  have e : ∀ b q, (pNumAt xs b q).2 = (pDig xs 7 q 0).2 := by
    intro b q
    unfold pNumAt
    split <;> rfl
  unfold pNum
  rw [e]
  exact ⟨Nat.le_trans hq.1 this.1, this.2.1⟩
theorem pPart_le {xs : List Int32} {c : Int32} {sg : Bool} {p : Nat} (hc : c ≠ -1) (hp : p ≤ xs.length) : p ≤ (pPart xs c sg p).2 ∧ (pPart xs c sg p).2 ≤ xs.length ∧ ((pPart xs c sg p).1 ≠ none → p < (pPart xs c sg p).2) := by
  unfold pPart
  split
  · rename_i e
    have hlt : p < xs.length := gt_lt (by rw [e]; exact hc)
    have := pNum_le (sg := sg) (show p + 1 ≤ xs.length from hlt)
    exact ⟨by omega, this.2, fun _ => by omega⟩
  · exact ⟨Nat.le_refl _, hp, fun h => absurd rfl h⟩

/-! Row.pushPart -/
/-- the digits of s from the place j on -/
def ds (s : Nat) : Nat → List Int32
  | 0 => []
  | j + 1 => (if 10 ^ j ≤ s ∨ j = 0 then [nI (48 + s / 10 ^ j % 10)] else []) ++ ds s j
theorem ds_len (s : Nat) : ∀ j, (ds s j).length ≤ j
  | 0 => Nat.le_refl _
  | j + 1 => by
    have := ds_len s j
    unfold ds
    split <;> simp <;> omega
/-- a letter and a number -/
def part (c v : Int32) : List Int32 := c :: ((if v.toInt < 0 then [45] else []) ++ ds v.toInt.natAbs 7)
theorem part_len (c v : Int32) : (part c v).length ≤ 9 := by
  have := ds_len v.toInt.natAbs 7
  unfold part
  split <;> simp <;> omega
def uv (j : Nat) : Nat := if j = 0 then 0 else 10 ^ (j - 1)
theorem uv_div : ∀ j, j < 8 → 0 < j → uv j / 10 = uv (j - 1) := by decide
theorem uv_pos : ∀ j, j < 8 → 0 < j → 0 < uv j ∧ uv j ≤ 1000000 := by decide
theorem abs_nat {v : Int32} (h : v.toInt.natAbs ≤ 10000000) : (if 0 ≤ v then v else 0 - v) = nI v.toInt.natAbs := by
  refine Int32.toInt_inj.mp ?_
  rw [nI_toInt (by omega)]
  split
  · rename_i h1
    rw [Int32.le_iff_toInt_le, i0_toInt] at h1
    omega
  · rename_i h1
    rw [Int32.le_iff_toInt_le, i0_toInt] at h1
    rw [Int32.toInt_sub, i0_toInt, Int.bmod_eq_of_le (by omega) (by omega)]
    omega
section RP
variable {l : Launch} {D : xD} {R : Room}
theorem ct_Ro_pushPart {r L cap : Nat} {xs : List Int32} {C : va_W} {c v : Int32} (h : IsRow D r L cap xs C) (hL : xs.length + 9 ≤ L) (hv : v.toInt.natAbs ≤ 1000000) (hr : rmOk R 3 ((capN cap xs.length (part c v).length - cap) / 8) (2 * (capN cap xs.length (part c v).length - cap))) :
    Ct l mRo_pushPart D R [.ref r, .int c, .int v] [C] (fun w S => w = none ∧ ∃ C', S = [C'] ∧ IsRow D r L (capN cap xs.length (part c v).length) (xs ++ part c v) C') := by
  obtain ⟨r1, r2, r3, r4⟩ := hr
  generalize hB : capN cap xs.length (part c v).length = B at r3 r4 ⊢
  refine Ct.of rfl (by decide) tkRo_pushPart (Nat.le_of_ble_eq_true rfl) (fun A => ?_)
  have loop : ∀ (j : Nat), j < 8 → ∀ (cp : Nat) (ys : List Int32) (C' : va_W), IsRow D r L cp ys C' → cap ≤ cp → ys.length + j ≤ L → ys ++ ds v.toInt.natAbs j = xs ++ part c v → capN cp ys.length (ds v.toInt.natAbs j).length = B →
      Ex l mRo_pushPart D R A (xQ D A (fun w S => w = none ∧ ∃ C', S = [C'] ∧ IsRow D r L B (xs ++ part c v) C')) R.cells R.slots 26 [(4, .int (nI (uv j))), (3, .int (nI v.toInt.natAbs)), (0, .ref r), (1, .int c), (2, .int v)] [] [C'] (0 + (cp - cap) / 8) (0 + 2 * (cp - cap)) := by
    intro j
    induction j with
    | zero =>
      intro _ cp ys C' hC' hcp _ e1 e2
      refine Ex.p rfl ?_
      refine Ex.br rfl (fun c1 => ?_) (fun c1 => absurd (by decide) c1)
      have e2 : cp = B := e2
      subst e2
      rw [show ds v.toInt.natAbs 0 = [] from rfl, List.append_nil] at e1
      subst e1
      exact Ex.vret rfl rfl (by omega) (by omega) rfl ⟨rfl, C', rfl, hC'⟩
    | succ j ih =>
      intro hj cp ys C' hC' hcp hys e1 e2
      obtain ⟨u1, u2⟩ := uv_pos (j + 1) hj (by omega)
      have hu : uv (j + 1) = 10 ^ j := rfl
      refine Ex.p rfl ?_
      refine Ex.br rfl (fun c1 => absurd c1 (nI_nle u1 (by omega))) (fun c1 => ?_)
      refine Ex.p rfl ?_
      refine Ex.p rfl ?_
      have hdiv : nI (uv (j + 1)) / (Int8.ofInt 10).toInt32 = nI (uv j) := by
        rw [show (Int8.ofInt 10).toInt32 = nI 10 from rfl, pk_div (by omega) (by omega) (by omega), uv_div (j + 1) hj (by omega)]; rfl
      have big : (10 ^ j ≤ v.toInt.natAbs ∨ j = 0) → Ex l mRo_pushPart D R A (xQ D A (fun w S => w = none ∧ ∃ C', S = [C'] ∧ IsRow D r L B (xs ++ part c v) C')) R.cells R.slots 43 [(4, .int (nI (uv (j + 1)))), (3, .int (nI v.toInt.natAbs)), (0, .ref r), (1, .int c), (2, .int v)] [] [C'] (0 + (cp - cap) / 8) (0 + 2 * (cp - cap)) := by
        intro hbig
        have e3 : ds v.toInt.natAbs (j + 1) = nI (48 + v.toInt.natAbs / uv (j + 1) % 10) :: ds v.toInt.natAbs j := by
          show (if 10 ^ j ≤ v.toInt.natAbs ∨ j = 0 then [nI (48 + v.toInt.natAbs / 10 ^ j % 10)] else []) ++ ds v.toInt.natAbs j = _
          rw [if_pos hbig]; rfl
        rw [e3] at e1 e2
        have e2 : capN (rcap cp ys.length) (ys.length + 1) (ds v.toInt.natAbs j).length = B := e2
        have hge := capN_ge (ds v.toInt.natAbs j).length (rcap cp ys.length) (ys.length + 1)
        have hge2 := rcap_ge cp ys.length
        refine Ex.p rfl ?_
        refine Ex.p rfl ?_
        refine Ex.p rfl ?_
        refine Ex.p rfl ?_
        refine Ex.idiv rfl (nI_ne0 u1 (by omega)) ?_
        rw [pk_div (by omega) u1 (by omega)]
        refine Ex.p rfl ?_
        refine Ex.irem rfl (by decide) ?_
        rw [show (Int8.ofInt 10).toInt32 = nI 10 from rfl, pk_rem (Nat.lt_of_le_of_lt (Nat.div_le_self _ _) (by omega)) (by omega) (by omega)]
        refine Ex.p rfl ?_
        rw [show (Int8.ofInt 48).toInt32 = nI 48 from rfl, nI_add]
        refine Ex.push (c0 := cap) (Sr := []) 0 [] hC' (by omega) rfl rfl lk_5_38 rfl rfl rfl (by decide) (Nat.zero_le _) hcp r1 r2 (by omega) (by omega) (fun C2 hC2 => ?_)
        refine Ex.p rfl ?_
        refine Ex.p rfl ?_
        refine Ex.p rfl ?_
        refine Ex.idiv rfl (by decide) ?_
        rw [hdiv]
        refine Ex.p rfl ?_
        refine Ex.p rfl ?_
        refine ih (by omega) _ _ C2 hC2 (by omega) (by simp; omega) ?_ ?_
        · rw [List.append_assoc]; exact e1
        · rw [List.length_append]; exact e2
      refine Ex.br rfl (fun c2 => ?_) (fun c2 => ?_)
      · rw [nI_leI (by omega) (by omega)] at c2
        exact big (Or.inl c2)
      · rw [nI_leI (by omega) (by omega)] at c2
        refine Ex.p rfl ?_
        refine Ex.p rfl ?_
        refine Ex.br rfl (fun c3 => ?_) (fun c3 => ?_)
        · have c3 : ¬ nI (uv (j + 1)) = nI 1 := c3
          rw [nI_eq (by omega) (by omega)] at c3
          have e3 : ds v.toInt.natAbs (j + 1) = ds v.toInt.natAbs j := by
            show (if 10 ^ j ≤ v.toInt.natAbs ∨ j = 0 then [nI (48 + v.toInt.natAbs / 10 ^ j % 10)] else []) ++ ds v.toInt.natAbs j = _
            rw [if_neg (by
              rintro (q | q)
              · exact c2 q
              · subst q; exact c3 rfl)]
            rfl
          rw [e3] at e1 e2
          refine Ex.p rfl ?_
          refine Ex.p rfl ?_
          refine Ex.idiv rfl (by decide) ?_
          rw [hdiv]
          refine Ex.p rfl ?_
          refine Ex.p rfl ?_
          exact ih (by omega) _ _ C' hC' hcp (by omega) e1 e2
        · have c3 : ¬ ¬ nI (uv (j + 1)) = nI 1 := c3
          rw [nI_eq (by omega) (by omega)] at c3
          refine big (Or.inr ?_)
          cases j with
          | zero => rfl
          | succ j =>
            exfalso
            apply c3
            intro q
            rw [hu] at q
            have : ∀ j, j < 7 → 10 ≤ 10 ^ (j + 1) := by decide
            have := this j (by omega)
            omega
  have fin : ∀ (cp : Nat) (ys : List Int32) (C' : va_W), IsRow D r L cp ys C' → cap ≤ cp → ys.length + 7 ≤ L → ys ++ ds v.toInt.natAbs 7 = xs ++ part c v → capN cp ys.length (ds v.toInt.natAbs 7).length = B →
      Ex l mRo_pushPart D R A (xQ D A (fun w S => w = none ∧ ∃ C', S = [C'] ∧ IsRow D r L B (xs ++ part c v) C')) R.cells R.slots 17 [(0, .ref r), (1, .int c), (2, .int v)] [] [C'] (0 + (cp - cap) / 8) (0 + 2 * (cp - cap)) := by
    intro cp ys C' hC' hcp hys e1 e2
    have hge := capN_ge (ds v.toInt.natAbs 7).length cp ys.length
    refine Ex.p rfl ?_
    refine Ex.mabs rfl lk_5_42 (by omega) (by simp; omega) (by omega) (by omega) ?_
    rw [abs_nat (by omega)]
    refine Ex.p rfl ?_
    refine Ex.ldc rfl ?_
    refine Ex.p rfl ?_
    exact loop 7 (by decide) cp ys C' hC' hcp hys e1 e2
  have hx := id h
  obtain ⟨arr, f, rfl, x1, x2, x3, x4, x5, x6⟩ := hx
  refine Ex.more (k' := 0 + (cap - cap) / 8) (n' := 0 + 2 * (cap - cap)) (Nat.zero_le _) (Nat.zero_le _) ?_
  have hBd : capN (rcap cap xs.length) (xs.length + 1) ((if v.toInt < 0 then [45] else []) ++ ds v.toInt.natAbs 7).length = B := hB
  have hge := capN_ge ((if v.toInt < 0 then [45] else []) ++ ds v.toInt.natAbs 7).length (rcap cap xs.length) (xs.length + 1)
  have hge2 := rcap_ge cap xs.length
  refine Ex.p rfl ?_
  refine Ex.p rfl ?_
  refine Ex.push (c0 := cap) (Sr := []) 0 [] h (by omega) rfl rfl lk_5_38 rfl rfl rfl (by decide) (Nat.zero_le _) (Nat.le_refl _) r1 r2 (by omega) (by omega) (fun C2 hC2 => ?_)
  refine Ex.p rfl ?_
  refine Ex.p rfl ?_
  refine Ex.br rfl (fun c1 => ?_) (fun c1 => ?_)
  · rw [Int32.le_iff_toInt_le, i0_toInt] at c1
    have ep : part c v = c :: ds v.toInt.natAbs 7 := by rw [part, if_neg (by omega)]; rfl
    rw [if_neg (by omega)] at hBd
    refine fin _ _ C2 hC2 hge2 (by simp; omega) ?_ ?_
    · rw [ep, List.append_assoc]; rfl
    · rw [List.length_append]; exact hBd
  · rw [Int32.le_iff_toInt_le, i0_toInt] at c1
    have ep : part c v = c :: 45 :: ds v.toInt.natAbs 7 := by rw [part, if_pos (by omega)]; rfl
    rw [if_pos (by omega)] at hBd hge
    have hBd : capN (rcap (rcap cap xs.length) (xs.length + 1)) (xs.length + 1 + 1) (ds v.toInt.natAbs 7).length = B := hBd
    have hge3 := capN_ge (ds v.toInt.natAbs 7).length (rcap (rcap cap xs.length) (xs.length + 1)) (xs.length + 1 + 1)
    have hge4 := rcap_ge (rcap cap xs.length) (xs.length + 1)
    have hlen : (xs ++ [c]).length = xs.length + 1 := by simp
    refine Ex.p rfl ?_
    refine Ex.p rfl ?_
    refine Ex.push (c0 := cap) (Sr := []) 0 [] hC2 (by rw [hlen]; omega) rfl rfl lk_5_38 rfl rfl rfl (by decide) (Nat.zero_le _) hge2 r1 r2 (by rw [hlen]; omega) (by rw [hlen]; omega) (fun C3 hC3 => ?_)
    rw [hlen] at hC3 ⊢
    refine Ex.p rfl ?_
    refine fin _ _ C3 hC3 (by omega) (by simp; omega) ?_ ?_
    · rw [ep, List.append_assoc, List.append_assoc]; rfl
    · rw [List.length_append, hlen]; exact hBd
end RP

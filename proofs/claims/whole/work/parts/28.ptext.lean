/-! Row.pushText -/
section PT
variable {l : Launch} {D : xD} {R : Room}
theorem ct_Ro_pushText {r L cap t : Nat} {xs : List Int32} {C : va_W} (h : IsRow D r L cap xs C) (ht : t < gSN) (hL : xs.length + (txt t).length ≤ L) (hr : rmOk R 4 ((capN cap xs.length (txt t).length - cap) / 8) (2 * (capN cap xs.length (txt t).length - cap))) :
    Ct l mRo_pushText D R [.ref r, .ref (D.2.2.2.1 t)] [C] (fun w S => w = none ∧ ∃ C', S = [C'] ∧ IsRow D r L (capN cap xs.length (txt t).length) (xs ++ txt t) C') := by
  obtain ⟨r1, r2, r3, r4⟩ := hr
  have hb : ∀ t, t < gSN → (txt t).length < 100 := by decide
  have hb := hb t ht
  generalize hB : capN cap xs.length (txt t).length = B at r3 r4 ⊢
  refine Ct.of rfl (by decide) tkRo_pushText (Nat.le_of_ble_eq_true rfl) (fun A => ?_)
  have loop : ∀ (m i : Nat), (txt t).length - i < m → i ≤ (txt t).length → ∀ (cp : Nat) (C' : va_W), IsRow D r L cp (xs ++ (txt t).take i) C' → cap ≤ cp → capN cp (xs.length + i) ((txt t).length - i) = B →
      Ex l mRo_pushText D R A (xQ D A (fun w S => w = none ∧ ∃ C', S = [C'] ∧ IsRow D r L B (xs ++ txt t) C')) R.cells R.slots 2 [(2, .int (nI i)), (0, .ref r), (1, .ref (D.2.2.2.1 t))] [] [C'] (0 + (cp - cap) / 8) (0 + 2 * (cp - cap)) := by
    intro m
    induction m with
    | zero => intro i h; omega
    | succ m ih =>
      intro i hm hi cp C' hC' hcp e2
      have hge := capN_ge ((txt t).length - i) cp (xs.length + i)
      refine Ex.p rfl ?_
      refine Ex.p rfl ?_
      refine Ex.cvS (Mc := mJSt_length) (Rc := rm 1 0 0) (t := t) (As := []) (rest := [.int (nI i)]) (ct_length ht (rm_ok _ _ _)) ht rfl rfl lk_5_28 lcJSt_length rfl ⟨by dsimp only [rm]; omega, by show 8 + (1 + 11) + 40 ≤ R.locals; omega⟩ (Nat.le_of_ble_eq_true rfl) (by dsimp only [rm]; omega) (by dsimp only [rm]; omega) ?_
      rintro v S1 ⟨rfl, rfl⟩
      refine Ex.br rfl (fun c1 => ?_) (fun c1 => ?_)
      · rw [nI_leI (by omega) (by omega)] at c1
        have hi9 : i = (txt t).length := by omega
        subst hi9
        rw [Nat.sub_self] at e2
        have e2 : cp = B := e2
        subst e2
        rw [List.take_length] at hC'
        exact Ex.vret rfl rfl (by dsimp only [rm]; omega) (by dsimp only [rm]; omega) rfl ⟨rfl, C', rfl, hC'⟩
      · rw [nI_leI (by omega) (by omega)] at c1
        have hi9 : i < (txt t).length := by omega
        rw [show (txt t).length - i = ((txt t).length - (i + 1)) + 1 by omega] at e2
        have e2 : capN (rcap cp (xs.length + i)) (xs.length + i + 1) ((txt t).length - (i + 1)) = B := e2
        have hge2 := capN_ge ((txt t).length - (i + 1)) (rcap cp (xs.length + i)) (xs.length + i + 1)
        have hge3 := rcap_ge cp (xs.length + i)
        have hlen : (xs ++ (txt t).take i).length = xs.length + i := by simp; omega
        refine Ex.p rfl ?_
        refine Ex.p rfl ?_
        refine Ex.p rfl ?_
        refine Ex.cvS (Mc := mJSt_charAt) (Rc := rm 3 0 0) (t := t) (As := [.int (nI i)]) (rest := [.ref r]) (ct_charAt ht hi9 (rm_ok _ _ _)) ht rfl rfl lk_5_34 lcJSt_charAt rfl ⟨by dsimp only [rm]; omega, by show 8 + (2 + 11) + 120 ≤ R.locals; omega⟩ (Nat.le_of_ble_eq_true rfl) (by dsimp only [rm]; omega) (by dsimp only [rm]; omega) ?_
        rintro v S1 ⟨rfl, rfl⟩
        refine Ex.more (k' := 0 + (cp - cap) / 8) (n' := 0 + 2 * (cp - cap)) (by dsimp only [rm]; omega) (by dsimp only [rm]; omega) ?_
        refine Ex.push (c0 := cap) (Sr := []) 0 [] hC' (by rw [hlen]; omega) rfl rfl lk_5_38 rfl rfl rfl (by decide) (Nat.zero_le _) hcp (by omega) (by omega) (by rw [hlen]; omega) (by rw [hlen]; omega) (fun C2 hC2 => ?_)
        rw [hlen] at hC2 ⊢
        refine Ex.p rfl ?_
        refine Ex.p rfl ?_
        refine Ex.p rfl ?_
        rw [i_add1]
        refine ih (i + 1) (by omega) (by omega) _ C2 ?_ (by omega) ?_
        · rw [List.append_assoc] at hC2
          rw [List.take_succ, List.getElem?_eq_getElem hi9]
          rw [List.getD_eq_getElem?_getD, List.getElem?_eq_getElem hi9] at hC2
          exact hC2
        · rw [← Nat.add_assoc]; exact e2
  have hx := id h
  obtain ⟨arr, f, rfl, x1, x2, x3, x4, x5, x6⟩ := hx
  refine Ex.more (k' := 0 + (cap - cap) / 8) (n' := 0 + 2 * (cap - cap)) (Nat.zero_le _) (Nat.zero_le _) ?_
  refine Ex.p rfl ?_
  refine Ex.p rfl ?_
  exact loop ((txt t).length + 1) 0 (by omega) (by omega) cap _ (by simpa using h) (Nat.le_refl _) hB
end PT

/-! StoredFile: joinedSize, joined -/
theorem rget_nI {bs : List Nat} {j : Nat} (hj : j < bs.length) (hb : bs.length < 2 ^ 31) : rget (bs.map nI) (nI j) = nI (bs.getD j 0) := by
  rw [rget, nI_toInt (by omega), if_pos (by simp; omega)]
  simp [List.getD_eq_getElem?_getD, hj]
section SF2
variable {l : Launch} {D : xD} {R : Room}
theorem ct_Sf_joinedSize {a role cap : Nat} {bs : List Nat} {C : va_W} (h : IsFile D a role bs cap C) : Ct l mSf_joinedSize D R [.ref a] [C] (fun v S => v = some (.int (nI (bs.length + 5))) ∧ S = [C]) := by
  obtain ⟨rb, Cb, rfl, hrow, hro, hbs⟩ := h
  obtain ⟨arr, f, rfl, w1, w2, w3, w4, w5, w6⟩ := id hrow
  refine Ct.of rfl (by decide) tkSf_joinedSize (Nat.le_of_ble_eq_true rfl) (fun A => ?_)
  repeat (first | refine Ex.p rfl ?_ | refine Ex.ldc rfl ?_ | refine Ex.ldc2 rfl ?_ | refine Ex.gf 0 0 rfl rfl rfl ?_ | refine Ex.gf 0 1 rfl rfl rfl ?_)
  rw [show (Int32.ofInt 3) = nI 3 from rfl, show (Int32.ofInt 2) = nI 2 from rfl, nI_add, nI_add, show 3 + (bs.map nI).length + 2 = bs.length + 5 by simp; omega]
  exact Ex.iret rfl rfl (Nat.zero_le _) (Nat.zero_le _) rfl ⟨rfl, rfl⟩
theorem ct_Sf_joined {a role cap j : Nat} {bs : List Nat} {C : va_W} (h : IsFile D a role bs cap C) (hj : j < bs.length + 5) (hr : rmOk R 1 0 0) : Ct l mSf_joined D R [.ref a, .int (nI j)] [C] (fun v S => v = some (.int (nI ((fbytes role bs).getD j 0))) ∧ S = [C]) := by
  obtain ⟨rb, Cb, rfl, hrow, hro, hbs⟩ := h
  obtain ⟨r1, r2, r3, r4⟩ := hr
  obtain ⟨arr, f, rfl, w1, w2, w3, w4, w5, w6⟩ := id hrow
  have hlen : (bs.map nI).length = bs.length := by simp
  rw [hlen] at w1 w2
  have hfs := fsum_lt bs
  have hti : (nI j).toInt = j := nI_toInt (by omega)
  refine Ct.of rfl (by decide) tkSf_joined (Nat.le_of_ble_eq_true rfl) (fun A => ?_)
  repeat (first | refine Ex.p rfl ?_ | refine Ex.ldc rfl ?_ | refine Ex.ldc2 rfl ?_ | refine Ex.gf 0 0 rfl rfl rfl ?_ | refine Ex.gf 0 1 rfl rfl rfl ?_)
  rw [hlen]
  by_cases h0 : j = 0
  · subst h0
    refine Ex.swI (t := 36) tsSf_joined_9 (by decide) (by decide) rfl rfl ?_
    repeat (first | refine Ex.p rfl ?_ | refine Ex.ldc rfl ?_ | refine Ex.ldc2 rfl ?_ | refine Ex.gf 0 0 rfl rfl rfl ?_)
    exact Ex.iret rfl rfl (Nat.zero_le _) (Nat.zero_le _) rfl ⟨rfl, rfl⟩
  by_cases h1 : j = 1
  · subst h1
    refine Ex.swI (t := 41) tsSf_joined_9 (by decide) (by decide) rfl rfl ?_
    repeat (first | refine Ex.p rfl ?_ | refine Ex.ldc rfl ?_ | refine Ex.ldc2 rfl ?_ | refine Ex.gf 0 0 rfl rfl rfl ?_)
    refine Ex.irem rfl (by decide) ?_
    rw [show (Int16.ofInt 256).toInt32 = nI 256 from rfl, pk_rem (by omega) (by omega) (by omega)]
    exact Ex.iret rfl rfl (Nat.zero_le _) (Nat.zero_le _) rfl ⟨rfl, rfl⟩
  by_cases h2 : j = 2
  · subst h2
    refine Ex.swI (t := 47) tsSf_joined_9 (by decide) (by decide) rfl rfl ?_
    repeat (first | refine Ex.p rfl ?_ | refine Ex.ldc rfl ?_ | refine Ex.ldc2 rfl ?_ | refine Ex.gf 0 0 rfl rfl rfl ?_)
    refine Ex.idiv rfl (by decide) ?_
    rw [show (Int16.ofInt 256).toInt32 = nI 256 from rfl, pk_div (by omega) (by omega) (by omega)]
    exact Ex.iret rfl rfl (Nat.zero_le _) (Nat.zero_le _) rfl ⟨rfl, rfl⟩
  refine Ex.swO (t := 53) tsSf_joined_9 (Or.inr (by rw [hti]; omega)) rfl ?_
  obtain ⟨i, rfl⟩ : ∃ i, j = i + 3 := ⟨j - 3, by omega⟩
  have hget : (fbytes role bs).getD (i + 3) 0 = (bs ++ [fsum bs % 256, fsum bs / 256]).getD i 0 := rfl
  refine Ex.p rfl ?_
  refine Ex.p rfl ?_
  refine Ex.p rfl ?_
  rw [show nI (i + 3) - Int32.ofInt 3 = nI i from by rw [show Int32.ofInt 3 = nI 3 from rfl, pk_sub (by omega)]; rfl]
  refine Ex.p rfl ?_
  refine Ex.p rfl ?_
  refine Ex.p rfl ?_
  refine Ex.br rfl (fun c1 => ?_) (fun c1 => ?_)
  · rw [nI_leI (by omega) (by omega)] at c1
    refine Ex.p rfl ?_
    refine Ex.p rfl ?_
    refine Ex.br rfl (fun c2 => ?_) (fun c2 => ?_)
    · have c2 : ¬ nI i = nI bs.length := c2
      rw [nI_eq (by omega) (by omega)] at c2
      repeat (first | refine Ex.p rfl ?_ | refine Ex.ldc rfl ?_ | refine Ex.ldc2 rfl ?_ | refine Ex.gf 0 0 rfl rfl rfl ?_)
      refine Ex.idiv rfl (by decide) ?_
      rw [show (Int16.ofInt 256).toInt32 = nI 256 from rfl, pk_div (by omega) (by omega) (by omega)]
      refine Ex.iret rfl rfl (Nat.zero_le _) (Nat.zero_le _) rfl ⟨?_, rfl⟩
      rw [hget, show i = bs.length + 1 by omega]
      simp [List.getD_eq_getElem?_getD]
    · have c2 : ¬ ¬ nI i = nI bs.length := c2
      rw [nI_eq (by omega) (by omega)] at c2
      repeat (first | refine Ex.p rfl ?_ | refine Ex.ldc rfl ?_ | refine Ex.ldc2 rfl ?_ | refine Ex.gf 0 0 rfl rfl rfl ?_)
      refine Ex.irem rfl (by decide) ?_
      rw [show (Int16.ofInt 256).toInt32 = nI 256 from rfl, pk_rem (by omega) (by omega) (by omega)]
      refine Ex.p rfl ?_
      refine Ex.iret rfl rfl (Nat.zero_le _) (Nat.zero_le _) rfl ⟨?_, rfl⟩
      rw [hget, show i = bs.length by omega]
      simp [List.getD_eq_getElem?_getD]
  · rw [nI_leI (by omega) (by omega)] at c1
    repeat (first | refine Ex.p rfl ?_ | refine Ex.ldc rfl ?_ | refine Ex.ldc2 rfl ?_ | refine Ex.gf 0 0 rfl rfl rfl ?_)
    refine Ex.seg (S' := [[(a, .inr (6, [.int (nI role), .ref rb, .int (nI (fsum bs))]))], sRow D rb arr cap f 300 (bs.map nI).length]) (by simp) ?_
    refine Ex.cv (Mc := mRo_get) (Rc := rm 0 0 0) (As := [.int (nI i)]) (rest := []) (Sr := [[(a, .inr (6, [.int (nI role), .ref rb, .int (nI (fsum bs))]))]]) (ic := 1) (jc := 0) (ci := 5) [1] [0] (ct_Ro_get hrow) rfl lk_6_35 lcRo_get rfl rfl rfl rfl rfl (by decide) rfl rfl rfl (by decide) ⟨r1, by show 8 + (2 + 11) + 0 ≤ R.locals; omega⟩ (Nat.zero_le _) (Nat.zero_le _) (Nat.zero_le _) ?_
    rintro v S1 ⟨rfl, rfl⟩
    refine Ex.iret (S' := [(a, .inr (6, [.int (nI role), .ref rb, .int (nI (fsum bs))])) :: sRow D rb arr cap f 300 bs.length]) rfl rfl (Nat.zero_le _) (Nat.zero_le _) (by simp) ⟨?_, rfl⟩
    rw [rget_nI (by omega) (by omega), hget, List.getD_eq_getElem?_getD, List.getD_eq_getElem?_getD, List.getElem?_append_left (by omega)]
end SF2
/-! lists of things, one behind another -/
def IsL {α : Type} (P : α → va_W → Prop) (xs : List α) (T : va_W) : Prop := ∃ Cs : List va_W, T = Cs.flatten ∧ Cs.length = xs.length ∧ ∀ (i : Nat) (t : α), xs[i]? = some t → ∃ C, Cs[i]? = some C ∧ P t C
theorem IsL.nil {α : Type} {P : α → va_W → Prop} : IsL P [] [] := ⟨[], rfl, rfl, fun i t h => by simp at h⟩
theorem IsL.at {α : Type} {P : α → va_W → Prop} {ts : List α} {T : va_W} (h : IsL P ts T) {i : Nat} {t : α} (hi : ts[i]? = some t) : ∃ X C Y, T = X ++ (C ++ Y) ∧ P t C ∧ ∀ t' C', P t' C' → IsL P (ts.set i t') (X ++ (C' ++ Y)) := by
  obtain ⟨Cs, rfl, hl, h⟩ := h
  obtain ⟨C, hC, ht⟩ := h i t hi
  obtain ⟨hi1, hi2⟩ := List.getElem?_eq_some_iff.mp hi
  obtain ⟨hc1, hc2⟩ := List.getElem?_eq_some_iff.mp hC
  refine ⟨(Cs.take i).flatten, C, (Cs.drop (i + 1)).flatten, ?_, ht, fun t' C' ht' => ⟨Cs.set i C', ?_, by simp [hl], fun j u hj => ?_⟩⟩
  · rw [← hc2, ← List.flatten_cons, ← List.flatten_append, ← List.drop_eq_getElem_cons hc1, List.take_append_drop]
  · rw [List.set_eq_take_append_cons_drop, if_pos hc1, List.flatten_append, List.flatten_cons]
  · by_cases hij : i = j
    · subst hij
      rw [List.getElem?_set_self hi1] at hj
      cases hj
      exact ⟨C', by rw [List.getElem?_set_self hc1], ht'⟩
    · rw [List.getElem?_set_ne hij] at hj
      rw [List.getElem?_set_ne hij]
      exact h j u hj
theorem IsL.push {α : Type} {P : α → va_W → Prop} {ts : List α} {T C : va_W} {t : α} (h : IsL P ts T) (hC : P t C) : IsL P (ts ++ [t]) (T ++ C) := by
  obtain ⟨Cs, rfl, hl, h⟩ := h
  refine ⟨Cs ++ [C], by simp, by simp [hl], fun i u hi => ?_⟩
  rcases Nat.lt_or_ge i ts.length with q | q
  · rw [List.getElem?_append_left q] at hi
    rw [List.getElem?_append_left (by omega)]
    exact h i u hi
  · rw [List.getElem?_append_right q] at hi
    rw [List.getElem?_append_right (by omega), hl]
    cases hk : i - ts.length with
    | zero =>
      rw [hk] at hi
      cases hi
      exact ⟨C, rfl, hC⟩
    | succ k =>
      rw [hk] at hi
      cases hi
/-- the first cell of the one at i -/
theorem mid_at {X C Y : va_W} {x : Nat × va_E} {Z : va_W} (h : C = x :: Z) : (X ++ (C ++ Y))[X.length]? = some x := by
  subst h
  rw [List.getElem?_append_right (Nat.le_refl _)]
  simp

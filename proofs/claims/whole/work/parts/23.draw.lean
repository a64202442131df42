/-! Drawing: tools, hits -/
abbrev TV : Type := Nat × Int32 × Bool × List Int32 × List Int32 × Int64 × Bool × Nat × Nat
def IsT (D : xD) (t : TV) (C : va_W) : Prop := IsTool D t.1 t.2.1 t.2.2.1 t.2.2.2.1 t.2.2.2.2.1 t.2.2.2.2.2.1 t.2.2.2.2.2.2.1 t.2.2.2.2.2.2.2.1 t.2.2.2.2.2.2.2.2 C
def IsTs (D : xD) (ts : List TV) (T : va_W) : Prop := ∃ Cs : List va_W, T = Cs.flatten ∧ Cs.length = ts.length ∧ ∀ (i : Nat) (t : TV), ts[i]? = some t → ∃ C, Cs[i]? = some C ∧ IsT D t C
theorem IsTs.at {D : xD} {ts : List TV} {T : va_W} (h : IsTs D ts T) {i : Nat} {t : TV} (hi : ts[i]? = some t) : ∃ X C Y, T = X ++ (C ++ Y) ∧ IsT D t C ∧ ∀ t' C', IsT D t' C' → IsTs D (ts.set i t') (X ++ (C' ++ Y)) := by
  obtain ⟨Cs, rfl, hl, h⟩ := h
  obtain ⟨C, hC, ht⟩ := h i t hi
  obtain ⟨hi1, hi2⟩ := List.getElem?_eq_some_iff.mp hi
  obtain ⟨hc1, hc2⟩ := List.getElem?_eq_some_iff.mp hC
  refine ⟨(Cs.take i).flatten, C, (Cs.drop (i + 1)).flatten, ?_, ht, fun t' C' ht' => ⟨Cs.set i C', ?_, by simp [hl], fun j u hj => ?_⟩⟩
  · rw [← hc2, ← List.flatten_cons, ← List.flatten_append, ← List.drop_eq_getElem_cons hc1, List.take_append_drop]
  · rw [List.set_eq_take_append_cons_drop, if_pos hc1, List.flatten_append, List.flatten_cons]
  · by_cases hij : i = j
    · subst hij
      rw [List.getElem?_set_self hi1] at hj
      cases hj
      exact ⟨C', by rw [List.getElem?_set_self hc1], ht'⟩
    · rw [List.getElem?_set_ne hij] at hj
      rw [List.getElem?_set_ne hij]
      exact h j u hj
theorem IsTs.push {D : xD} {ts : List TV} {T C : va_W} {t : TV} (h : IsTs D ts T) (hC : IsT D t C) : IsTs D (ts ++ [t]) (T ++ C) := by
  obtain ⟨Cs, rfl, hl, h⟩ := h
  refine ⟨Cs ++ [C], by simp, by simp [hl], fun i u hi => ?_⟩
  rcases Nat.lt_or_ge i ts.length with q | q
  · rw [List.getElem?_append_left q] at hi
    rw [List.getElem?_append_left (by omega)]
    exact h i u hi
  · rw [List.getElem?_append_right q] at hi
    rw [List.getElem?_append_right (by omega), hl]
    cases hk : i - ts.length with
    | zero =>
      rw [hk] at hi
      cases hi
      exact ⟨C, rfl, hC⟩
    | succ k =>
      rw [hk] at hi
      cases hi
def sHs (hs : List (Nat × HV)) : va_W := hs.map (fun h => cHit h.1 h.2)
def rfs (f : Nat → Option Nat) : (Nat → Int32) ⊕ (Nat → Int64) ⊕ (Nat → UInt32) ⊕ (Nat → UInt64) ⊕ (Nat → Option Nat) := .inr (.inr (.inr (.inr f)))
def IsDr (D : xD) (d : Nat) (ts : List TV) (hs : List (Nat × HV)) (Cd T Hs : va_W) : Prop :=
  ∃ (ta ha : Nat) (ft fh : Nat → Option Nat), Cd = [(d, .inr (1, [.ref ta, .ref ha, .int (nI ts.length), .int (nI hs.length)])), (ta, .inl (D.2.2.1 3, 10, .inr (.inr (.inr (.inr ft))))), (ha, .inl (D.2.2.1 4, 60, .inr (.inr (.inr (.inr fh)))))] ∧ IsTs D ts T ∧ Hs = sHs hs ∧
    (∀ (i : Nat) (t : TV), ts[i]? = some t → ft i = some t.1) ∧ (∀ (i : Nat) (h : Nat × HV), hs[i]? = some h → fh i = some h.1) ∧ ts.length ≤ 10 ∧ hs.length ≤ 60
/-- the one at a number, if there is one -/
def ixo {α : Type} (xs : List α) (i : Int32) : Option α := if 0 ≤ i.toInt then xs[i.toInt.toNat]? else none
theorem ixo_none {α : Type} {xs : List α} {i : Int32} (h : i.toInt < 0 ∨ (xs.length : Int) ≤ i.toInt) : ixo xs i = none := by
  unfold ixo
  split
  · exact List.getElem?_eq_none (by omega)
  · rfl
section DR
variable {l : Launch} {D : xD} {R : Room}
theorem ct_Dr_init {d : Nat} (hr : rmOk R 1 2 70) : Ct l mDr_init D R [.ref d] [[(d, .inr (1, gdf 1))]] (fun v S => v = none ∧ ∃ Cd, S = [Cd] ∧ IsDr D d [] [] Cd [] []) := by
  obtain ⟨r1, r2, r3, r4⟩ := hr
  refine Ct.of rfl (by decide) tkDr_init (Nat.le_of_ble_eq_true rfl) (fun A => ?_)
  refine Ex.p rfl ?_
  refine Ex.oi rfl lk_1_3 (by omega) (by simp; omega) ?_
  refine Ex.p rfl ?_
  refine Ex.p rfl ?_
  refine Ex.newa (N := 10) (ci := 9) (t0 := 3) (cn := "DrillArchive$Tool") rfl rfl (by decide) (by decide) rfl rfl (by decide) (by omega) (by omega) (fun q => ?_)
  refine Ex.pfF 0 0 rfl rfl rfl rfl rfl rfl rfl rfl ?_
  refine Ex.p rfl ?_
  refine Ex.p rfl ?_
  refine Ex.newa (N := 60) (ci := 3) (t0 := 4) (cn := "DrillArchive$Hit") rfl rfl (by decide) (by decide) rfl rfl (by decide) (by omega) (by omega) (fun q2 => ?_)
  refine Ex.pfF 0 0 rfl rfl rfl rfl rfl rfl rfl rfl ?_
  refine Ex.vret (S' := [[(d, .inr (1, [.ref q, .ref q2, .int (nI 0), .int (nI 0)])), (q, .inl (D.2.2.1 3, 10, .inr (.inr (.inr (.inr (fun _ => none)))))), (q2, .inl (D.2.2.1 4, 60, .inr (.inr (.inr (.inr (fun _ => none))))))]]) rfl rfl (by omega) (by omega) rfl ⟨rfl, _, rfl, q, q2, _, _, rfl, ⟨[], rfl, rfl, fun i t h => by simp at h⟩, rfl, fun i t h => by simp at h, fun i t h => by simp at h, by decide, by decide⟩
theorem ct_Dr_toolAt {d : Nat} {ts : List TV} {hs : List (Nat × HV)} {Cd T Hs : va_W} {i : Int32} (h : IsDr D d ts hs Cd T Hs) : Ct l mDr_toolAt D R [.ref d, .int i] [Cd] (fun v S => v = some (va_rf ((ixo ts i).map (fun t => t.1))) ∧ S = [Cd]) := by
  obtain ⟨ta, ha, ft, fh, rfl, hT, rfl, h1, h2, h3, h4⟩ := h
  refine Ct.of rfl (by decide) tkDr_toolAt (Nat.le_of_ble_eq_true rfl) (fun A => ?_)
  refine Ex.p rfl ?_
  refine Ex.br rfl (fun c1 => ?_) (fun c1 => ?_)
  · rw [Int32.lt_iff_toInt_lt, i0_toInt] at c1
    repeat (first | refine Ex.p rfl ?_ | refine Ex.ldc rfl ?_ | refine Ex.ldc2 rfl ?_)
    refine Ex.aret rfl rfl (Or.inl rfl) (Nat.zero_le _) (Nat.zero_le _) rfl ⟨?_, rfl⟩
    rw [ixo_none (Or.inl c1)]; rfl
  · rw [Int32.lt_iff_toInt_lt, i0_toInt] at c1
    repeat (first | refine Ex.p rfl ?_ | refine Ex.ldc rfl ?_ | refine Ex.ldc2 rfl ?_ | refine Ex.gf 0 0 rfl rfl rfl ?_)
    refine Ex.br rfl (fun c2 => ?_) (fun c2 => ?_)
    · rw [Int32.le_iff_toInt_le, nI_toInt (by omega)] at c2
      repeat (first | refine Ex.p rfl ?_ | refine Ex.ldc rfl ?_ | refine Ex.ldc2 rfl ?_)
      refine Ex.aret rfl rfl (Or.inl rfl) (Nat.zero_le _) (Nat.zero_le _) rfl ⟨?_, rfl⟩
      rw [ixo_none (Or.inr c2)]; rfl
    · rw [Int32.le_iff_toInt_le, nI_toInt (by omega)] at c2
      repeat (first | refine Ex.p rfl ?_ | refine Ex.ldc rfl ?_ | refine Ex.ldc2 rfl ?_ | refine Ex.gf 0 0 rfl rfl rfl ?_)
      refine Ex.aal 0 1 i.toInt.toNat 3 rfl rfl rfl rfl (by omega) (by omega) ?_
      repeat (first | refine Ex.p rfl ?_ | refine Ex.ldc rfl ?_ | refine Ex.ldc2 rfl ?_)
      refine Ex.aret rfl rfl (va_rf_or _) (Nat.zero_le _) (Nat.zero_le _) rfl ⟨?_, rfl⟩
      have hlt : i.toInt.toNat < ts.length := by omega
      rw [h1 _ _ (List.getElem?_eq_getElem hlt), ixo, if_pos (by omega), List.getElem?_eq_getElem hlt]
      rfl
theorem ct_Dr_hitAt {d : Nat} {ts : List TV} {hs : List (Nat × HV)} {Cd T Hs : va_W} {i : Int32} (h : IsDr D d ts hs Cd T Hs) : Ct l mDr_hitAt D R [.ref d, .int i] [Cd] (fun v S => v = some (va_rf ((ixo hs i).map (fun t => t.1))) ∧ S = [Cd]) := by
  obtain ⟨ta, ha, ft, fh, rfl, hT, rfl, h1, h2, h3, h4⟩ := h
  refine Ct.of rfl (by decide) tkDr_hitAt (Nat.le_of_ble_eq_true rfl) (fun A => ?_)
  refine Ex.p rfl ?_
  refine Ex.br rfl (fun c1 => ?_) (fun c1 => ?_)
  · rw [Int32.lt_iff_toInt_lt, i0_toInt] at c1
    repeat (first | refine Ex.p rfl ?_ | refine Ex.ldc rfl ?_ | refine Ex.ldc2 rfl ?_)
    refine Ex.aret rfl rfl (Or.inl rfl) (Nat.zero_le _) (Nat.zero_le _) rfl ⟨?_, rfl⟩
    rw [ixo_none (Or.inl c1)]; rfl
  · rw [Int32.lt_iff_toInt_lt, i0_toInt] at c1
    repeat (first | refine Ex.p rfl ?_ | refine Ex.ldc rfl ?_ | refine Ex.ldc2 rfl ?_ | refine Ex.gf 0 0 rfl rfl rfl ?_)
    refine Ex.br rfl (fun c2 => ?_) (fun c2 => ?_)
    · rw [Int32.le_iff_toInt_le, nI_toInt (by omega)] at c2
      repeat (first | refine Ex.p rfl ?_ | refine Ex.ldc rfl ?_ | refine Ex.ldc2 rfl ?_)
      refine Ex.aret rfl rfl (Or.inl rfl) (Nat.zero_le _) (Nat.zero_le _) rfl ⟨?_, rfl⟩
      rw [ixo_none (Or.inr c2)]; rfl
    · rw [Int32.le_iff_toInt_le, nI_toInt (by omega)] at c2
      repeat (first | refine Ex.p rfl ?_ | refine Ex.ldc rfl ?_ | refine Ex.ldc2 rfl ?_ | refine Ex.gf 0 0 rfl rfl rfl ?_)
      refine Ex.aal 0 2 i.toInt.toNat 4 rfl rfl rfl rfl (by omega) (by omega) ?_
      repeat (first | refine Ex.p rfl ?_ | refine Ex.ldc rfl ?_ | refine Ex.ldc2 rfl ?_)
      refine Ex.aret rfl rfl (va_rf_or _) (Nat.zero_le _) (Nat.zero_le _) rfl ⟨?_, rfl⟩
      have hlt : i.toInt.toNat < hs.length := by omega
      rw [h2 _ _ (List.getElem?_eq_getElem hlt), ixo, if_pos (by omega), List.getElem?_eq_getElem hlt]
      rfl
end DR

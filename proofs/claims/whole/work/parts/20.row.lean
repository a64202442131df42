/-! THE CLASS Row: a limit L, numbers xs in the first places of an array of cap places -/
abbrev sRow (D : xD) (r arr cap : Nat) (f : Nat → Int32) (L n : Nat) : va_W := [(r, .inr (5, [.int (nI L), .ref arr, .int (nI n)])), (arr, .inl (D.2.2.1 0, cap, .inl f))]
def IsRow (D : xD) (r L cap : Nat) (xs : List Int32) (C : va_W) : Prop := ∃ (arr : Nat) (f : Nat → Int32), C = sRow D r arr cap f L xs.length ∧ xs.length ≤ cap ∧ xs.length ≤ L ∧ 8 ≤ cap ∧ cap < 2 ^ 20 ∧ L < 2 ^ 20 ∧ ∀ (j : Nat) (h : j < xs.length), f j = xs[j]
def rget (xs : List Int32) (i : Int32) : Int32 := if 0 ≤ i.toInt ∧ i.toInt < xs.length then xs.getD i.toInt.toNat 0 else -1
theorem i0_toInt : (0 : Int32).toInt = 0 := by decide
section RO
variable {l : Launch} {D : xD} {R : Room}
/-- Row(limit) -/
theorem ct_Ro_init {r L : Nat} (hL : L < 2 ^ 20) (hf : 1 ≤ R.frames) (hl : 13 ≤ R.locals) (hc : 1 ≤ R.cells) (hs : 8 ≤ R.slots) : Ct l mRo_init D R [.ref r, .int (nI L)] [[(r, .inr (5, gdf 5))]] (fun v S => v = none ∧ ∃ C, S = [C] ∧ IsRow D r L 8 [] C) := by
  refine Ct.of rfl (by decide) tkRo_init (Nat.le_of_ble_eq_true rfl) (fun A => ?_)
  refine Ex.p rfl ?_
  refine Ex.oi rfl lk_5_3 hf (by simp; omega) ?_
  refine Ex.p rfl ?_
  refine Ex.p rfl ?_
  refine Ex.pfF 0 0 rfl rfl rfl rfl rfl rfl rfl rfl ?_
  refine Ex.p rfl ?_
  refine Ex.p rfl ?_
  refine Ex.newi (N := 8) rfl rfl (by decide) (by omega) (by omega) (fun q => ?_)
  refine Ex.pf 0 0 rfl rfl rfl rfl rfl rfl ?_
  refine Ex.vret (S' := [sRow D r q 8 (fun _ => 0) L 0]) rfl rfl (by omega) (by omega) rfl ⟨rfl, _, rfl, q, _, rfl, ?_⟩
  simp
  exact hL
/-- Row.empty -/
theorem ct_Ro_empty {r L cap : Nat} {xs : List Int32} {C : va_W} (h : IsRow D r L cap xs C) : Ct l mRo_empty D R [.ref r] [C] (fun v S => v = none ∧ ∃ C', S = [C'] ∧ IsRow D r L cap [] C') := by
  obtain ⟨arr, f, rfl, h1, h2, h3, h4, h5, h6⟩ := h
  refine Ct.of rfl (by decide) tkRo_empty (Nat.le_of_ble_eq_true rfl) (fun A => ?_)
  refine Ex.p rfl ?_
  refine Ex.p rfl ?_
  refine Ex.pf 0 0 rfl rfl rfl rfl rfl rfl ?_
  refine Ex.vret (S' := [sRow D r arr cap f L 0]) rfl rfl (Nat.zero_le _) (Nat.zero_le _) rfl ⟨rfl, _, rfl, arr, f, rfl, ?_⟩
  simp
  exact ⟨h3, h4, h5⟩
/-- Row.get -/
theorem ct_Ro_get {r L cap : Nat} {xs : List Int32} {C : va_W} {i : Int32} (h : IsRow D r L cap xs C) : Ct l mRo_get D R [.ref r, .int i] [C] (fun v S => v = some (.int (rget xs i)) ∧ S = [C]) := by
  obtain ⟨arr, f, rfl, h1, h2, h3, h4, h5, h6⟩ := h
  refine Ct.of rfl (by decide) tkRo_get (Nat.le_of_ble_eq_true rfl) (fun A => ?_)
  refine Ex.p rfl ?_
  refine Ex.br rfl (fun c1 => ?_) (fun c1 => ?_)
  · refine Ex.p rfl ?_
    refine Ex.iret rfl rfl (Nat.zero_le _) (Nat.zero_le _) rfl ⟨?_, rfl⟩
    rw [Int32.lt_iff_toInt_lt, i0_toInt] at c1
    rw [rget, if_neg (by omega)]
    rfl
  · rw [Int32.lt_iff_toInt_lt, i0_toInt] at c1
    refine Ex.p rfl ?_
    refine Ex.p rfl ?_
    refine Ex.gf 0 0 rfl rfl rfl ?_
    refine Ex.br rfl (fun c2 => ?_) (fun c2 => ?_)
    · rw [Int32.le_iff_toInt_le, nI_toInt (by omega)] at c2
      refine Ex.p rfl ?_
      refine Ex.iret rfl rfl (Nat.zero_le _) (Nat.zero_le _) rfl ⟨?_, rfl⟩
      rw [rget, if_neg (by omega)]
      rfl
    · rw [Int32.le_iff_toInt_le, nI_toInt (by omega)] at c2
      refine Ex.p rfl ?_
      refine Ex.gf 0 0 rfl rfl rfl ?_
      refine Ex.p rfl ?_
      refine Ex.ial 0 1 i.toInt.toNat rfl rfl rfl (by omega) (by omega) ?_
      refine Ex.p rfl ?_
      refine Ex.iret rfl rfl (Nat.zero_le _) (Nat.zero_le _) rfl ⟨?_, rfl⟩
      rw [rget, if_pos (by omega), h6 _ (by omega)]
      rw [List.getD_eq_getElem?_getD, List.getElem?_eq_getElem (show i.toInt.toNat < xs.length by omega)]
      rfl
end RO

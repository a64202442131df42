/-! THE CLASS Row: a limit L, numbers xs in the first places of an array of cap places -/
abbrev sRow (D : xD) (r arr cap : Nat) (f : Nat → Int32) (L n : Nat) : va_W := [(r, .inr (5, [.int (nI L), .ref arr, .int (nI n)])), (arr, .inl (D.2.2.1 0, cap, .inl f))]
def IsRow (D : xD) (r L cap : Nat) (xs : List Int32) (C : va_W) : Prop := ∃ (arr : Nat) (f : Nat → Int32), C = sRow D r arr cap f L xs.length ∧ xs.length ≤ cap ∧ xs.length ≤ L ∧ 8 ≤ cap ∧ cap ≤ 10000 ∧ L ≤ 5000 ∧ ∀ (j : Nat) (h : j < xs.length), f j = xs[j]
def rget (xs : List Int32) (i : Int32) : Int32 := if 0 ≤ i.toInt ∧ i.toInt < xs.length then xs.getD i.toInt.toNat 0 else -1
theorem i0_toInt : (0 : Int32).toInt = 0 := by decide
section RO
variable {l : Launch} {D : xD} {R : Room}
/-- Row(limit) -/
theorem ct_Ro_init {r L : Nat} (hL : L ≤ 5000) (hf : 1 ≤ R.frames) (hl : 13 ≤ R.locals) (hc : 1 ≤ R.cells) (hs : 8 ≤ R.slots) : Ct l mRo_init D R [.ref r, .int (nI L)] [[(r, .inr (5, gdf 5))]] (fun v S => v = none ∧ ∃ C, S = [C] ∧ IsRow D r L 8 [] C) := by
  refine Ct.of rfl (by decide) tkRo_init (Nat.le_of_ble_eq_true rfl) (fun A => ?_)
  refine Ex.p rfl ?_
  refine Ex.oi rfl lk_5_3 hf (by simp; omega) ?_
  refine Ex.p rfl ?_
  refine Ex.p rfl ?_
  refine Ex.pfF 0 0 rfl rfl rfl rfl rfl rfl rfl rfl ?_
  refine Ex.p rfl ?_
  refine Ex.p rfl ?_
  refine Ex.newi (N := 8) rfl rfl (by decide) (by omega) (by omega) (fun q => ?_)
  refine Ex.pf 0 0 rfl rfl rfl rfl rfl rfl ?_
  refine Ex.vret (S' := [sRow D r q 8 (fun _ => 0) L 0]) rfl rfl (by omega) (by omega) rfl ⟨rfl, _, rfl, q, _, rfl, ?_⟩
  simp
  exact hL
/-- Row.empty -/
theorem ct_Ro_empty {r L cap : Nat} {xs : List Int32} {C : va_W} (h : IsRow D r L cap xs C) : Ct l mRo_empty D R [.ref r] [C] (fun v S => v = none ∧ ∃ C', S = [C'] ∧ IsRow D r L cap [] C') := by
  obtain ⟨arr, f, rfl, h1, h2, h3, h4, h5, h6⟩ := h
  refine Ct.of rfl (by decide) tkRo_empty (Nat.le_of_ble_eq_true rfl) (fun A => ?_)
  refine Ex.p rfl ?_
  refine Ex.p rfl ?_
  refine Ex.pf 0 0 rfl rfl rfl rfl rfl rfl ?_
  refine Ex.vret (S' := [sRow D r arr cap f L 0]) rfl rfl (Nat.zero_le _) (Nat.zero_le _) rfl ⟨rfl, _, rfl, arr, f, rfl, ?_⟩
  simp
  exact ⟨h3, h4, h5⟩
/-- Row.get -/
theorem ct_Ro_get {r L cap : Nat} {xs : List Int32} {C : va_W} {i : Int32} (h : IsRow D r L cap xs C) : Ct l mRo_get D R [.ref r, .int i] [C] (fun v S => v = some (.int (rget xs i)) ∧ S = [C]) := by
  obtain ⟨arr, f, rfl, h1, h2, h3, h4, h5, h6⟩ := h
  refine Ct.of rfl (by decide) tkRo_get (Nat.le_of_ble_eq_true rfl) (fun A => ?_)
  refine Ex.p rfl ?_
  refine Ex.br rfl (fun c1 => ?_) (fun c1 => ?_)
  · refine Ex.p rfl ?_
    refine Ex.iret rfl rfl (Nat.zero_le _) (Nat.zero_le _) rfl ⟨?_, rfl⟩
    rw [Int32.lt_iff_toInt_lt, i0_toInt] at c1
    rw [rget, if_neg (by omega)]
    rfl
  · rw [Int32.lt_iff_toInt_lt, i0_toInt] at c1
    refine Ex.p rfl ?_
    refine Ex.p rfl ?_
    refine Ex.gf 0 0 rfl rfl rfl ?_
    refine Ex.br rfl (fun c2 => ?_) (fun c2 => ?_)
    · rw [Int32.le_iff_toInt_le, nI_toInt (by omega)] at c2
      refine Ex.p rfl ?_
      refine Ex.iret rfl rfl (Nat.zero_le _) (Nat.zero_le _) rfl ⟨?_, rfl⟩
      rw [rget, if_neg (by omega)]
      rfl
    · rw [Int32.le_iff_toInt_le, nI_toInt (by omega)] at c2
      refine Ex.p rfl ?_
      refine Ex.gf 0 0 rfl rfl rfl ?_
      refine Ex.p rfl ?_
      refine Ex.ial 0 1 i.toInt.toNat rfl rfl rfl (by omega) (by omega) ?_
      refine Ex.p rfl ?_
      refine Ex.iret rfl rfl (Nat.zero_le _) (Nat.zero_le _) rfl ⟨?_, rfl⟩
      rw [rget, if_pos (by omega), h6 _ (by omega)]
      rw [List.getD_eq_getElem?_getD, List.getElem?_eq_getElem (show i.toInt.toNat < xs.length by omega)]
      rfl
/-- the places an array has once one more number stands in it -/
def rcap (cap n : Nat) : Nat := if n < cap then cap else 2 * n
/-- Row.push -/
theorem ct_Ro_push {r L cap : Nat} {xs : List Int32} {C : va_W} {x : Int32} (h : IsRow D r L cap xs C) (hf : 2 ≤ R.frames) (hl : 62 ≤ R.locals) (hcost : L ≤ xs.length ∨ xs.length < cap ∨ (1 ≤ R.cells ∧ 2 * xs.length ≤ R.slots)) :
    Ct l mRo_push D R [.ref r, .int x] [C] (fun v S => (xs.length < L ∧ v = some (.int 1) ∧ ∃ C', S = [C'] ∧ IsRow D r L (rcap cap xs.length) (xs ++ [x]) C') ∨ (L ≤ xs.length ∧ v = some (.int 0) ∧ S = [C])) := by
  obtain ⟨arr, f, rfl, h1, h2, h3, h4, h5, h6⟩ := h
  refine Ct.of rfl (by decide) tkRo_push (Nat.le_of_ble_eq_true rfl) (fun A => ?_)
  have e1 : nI xs.length + Int32.ofInt 1 = nI (xs.length + 1) := nI_1 _
  have e2 : nI xs.length * Int32.ofInt 2 = nI (2 * xs.length) := by rw [Nat.mul_comm]; exact pk_mul _ 2
  refine Ex.p rfl ?_
  refine Ex.gf 0 0 rfl rfl rfl ?_
  refine Ex.p rfl ?_
  refine Ex.gf 0 0 rfl rfl rfl ?_
  refine Ex.br rfl (fun c1 => ?_) (fun c1 => ?_)
  · rw [nI_ltI (by omega) (by omega)] at c1
    refine Ex.p rfl ?_
    refine Ex.gf 0 0 rfl rfl rfl ?_
    refine Ex.p rfl ?_
    refine Ex.gf 0 0 rfl rfl rfl ?_
    refine Ex.alen 0 1 0 rfl rfl rfl rfl ?_
    refine Ex.br rfl (fun c2 => ?_) (fun c2 => ?_)
    · rw [nI_ltI (by omega) (by simp; omega)] at c2
      have c2 : xs.length < cap := c2
      refine Ex.p rfl ?_
      refine Ex.gf 0 0 rfl rfl rfl ?_
      refine Ex.p rfl ?_
      refine Ex.gf 0 0 rfl rfl rfl ?_
      refine Ex.p rfl ?_
      refine Ex.ias 0 1 xs.length rfl rfl rfl (nI_toInt (by omega)) c2 ?_
      refine Ex.p rfl ?_
      refine Ex.p rfl ?_
      refine Ex.gf 0 0 rfl rfl rfl ?_
      refine Ex.p rfl ?_
      refine Ex.p rfl ?_
      rw [e1]
      refine Ex.pf 0 0 rfl rfl rfl rfl rfl rfl ?_
      refine Ex.p rfl ?_
      refine Ex.zret (S' := [sRow D r arr cap (upd f xs.length x) L (xs.length + 1)]) rfl rfl (Or.inr rfl) (Nat.zero_le _) (Nat.zero_le _) rfl (Or.inl ⟨c1, rfl, _, rfl, arr, upd f xs.length x, ?_⟩)
      rw [rcap, if_pos c2]
      refine ⟨by simp, by simp; omega, by simp; omega, h3, h4, h5, fun j hj => ?_⟩
      simp only [List.length_append, List.length_cons, List.length_nil] at hj
      by_cases hjx : j = xs.length
      · subst hjx
        simp [upd]
      · rw [pk_un hjx, h6 j (by omega), List.getElem_append_left (by omega)]
    · rw [nI_ltI (by omega) (by simp; omega)] at c2
      have c2 : ¬ xs.length < cap := c2
      have hcap : xs.length = cap := by omega
      have hc9 : 1 ≤ R.cells ∧ 2 * xs.length ≤ R.slots := by
        rcases hcost with q | q | q
        · omega
        · omega
        · exact q
      refine Ex.p rfl ?_
      refine Ex.p rfl ?_
      refine Ex.gf 0 0 rfl rfl rfl ?_
      refine Ex.p rfl ?_
      refine Ex.gf 0 0 rfl rfl rfl ?_
      refine Ex.p rfl ?_
      refine Ex.p rfl ?_
      rw [e2]
      refine Ex.seg (S' := [[(r, .inr (5, [.int (nI L), .ref arr, .int (nI xs.length)]))], [(arr, .inl (D.2.2.1 0, cap, .inl f))]]) rfl ?_
      refine Ex.cs (Mc := mCopy) (Rc := { frames := 1, cells := 1, slots := 2 * xs.length, locals := 40 }) (As := [.ref arr, .int (nI (2 * xs.length))]) (rest := [.ref r]) (Sr := [[(r, .inr (5, [.int (nI L), .ref arr, .int (nI xs.length)]))]]) [1] [0] (ct_copy (by omega) (by omega) (Nat.le_refl _) (Nat.le_refl _) (Nat.le_refl _) (Nat.le_refl _)) rfl lk_5_22 lcCopy rfl rfl rfl rfl rfl (by decide) ⟨hf, by show 8 + (3 + 11) + 40 ≤ R.locals; omega⟩ (Nat.le_of_ble_eq_true rfl) (by show 0 + 1 ≤ R.cells; omega) (by show 0 + 2 * xs.length ≤ R.slots; omega) ?_
      rintro v S1 ⟨q, rfl, rfl⟩
      refine Ex.pf 0 0 rfl rfl rfl rfl rfl rfl ?_
      refine Ex.p rfl ?_
      refine Ex.gf 0 0 rfl rfl rfl ?_
      refine Ex.p rfl ?_
      refine Ex.gf 0 0 rfl rfl rfl ?_
      refine Ex.p rfl ?_
      refine Ex.ias 2 0 xs.length rfl rfl rfl (nI_toInt (by omega)) (by omega) ?_
      refine Ex.p rfl ?_
      refine Ex.p rfl ?_
      refine Ex.gf 0 0 rfl rfl rfl ?_
      refine Ex.p rfl ?_
      refine Ex.p rfl ?_
      rw [e1]
      refine Ex.pf 0 0 rfl rfl rfl rfl rfl rfl ?_
      refine Ex.p rfl ?_
      refine Ex.sub (S' := [[(r, .inr (5, [.int (nI L), .ref q, .int (nI (xs.length + 1))]))], [(q, .inl (D.2.2.1 0, 2 * xs.length, .inl (upd (va_cpy f (fun _ => 0) 0 0 cap) xs.length x)))]]) [0, 2] rfl rfl ?_
      refine Ex.zret (S' := [sRow D r q (2 * xs.length) (upd (va_cpy f (fun _ => 0) 0 0 cap) xs.length x) L (xs.length + 1)]) rfl rfl (Or.inr rfl) (by show 0 + 1 ≤ R.cells; omega) (by show 0 + 2 * xs.length ≤ R.slots; omega) rfl (Or.inl ⟨c1, rfl, _, rfl, q, upd (va_cpy f (fun _ => 0) 0 0 cap) xs.length x, ?_⟩)
      rw [rcap, if_neg c2]
      refine ⟨by simp, by simp; omega, by simp; omega, by omega, by omega, h5, fun j hj => ?_⟩
      simp only [List.length_append, List.length_cons, List.length_nil] at hj
      by_cases hjx : j = xs.length
      · subst hjx
        simp [upd]
      · rw [pk_un hjx, pk_cpy_in (Nat.zero_le _) (by omega), List.getElem_append_left (by omega)]
        simp
        exact h6 j (by omega)
  · rw [nI_ltI (by omega) (by omega)] at c1
    refine Ex.p rfl ?_
    exact Ex.zret (S' := [sRow D r arr cap f L xs.length]) rfl rfl (Or.inl rfl) (Nat.zero_le _) (Nat.zero_le _) rfl (Or.inr ⟨by omega, rfl, rfl⟩)
end RO

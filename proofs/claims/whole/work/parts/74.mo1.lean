/-! the reference: addTool, addHit -/
theorem upd_s (f : Nat → Int32) (k : Nat) (x : Int32) : upd f k x k = x := if_pos rfl
theorem upd_n (f : Nat → Int32) {j k : Nat} (x : Int32) (h : j ≠ k) : upd f k x j = f j := if_neg h
theorem updL_s (f : Nat → Int64) (k : Nat) (x : Int64) : vp_updL f k x k = x := if_pos rfl
theorem updL_n (f : Nat → Int64) {j k : Nat} (x : Int64) (h : j ≠ k) : vp_updL f k x j = f j := if_neg h
abbrev put2 {α : Type} (L : Nat → List α) (s : Nat) (x : α) : Nat → List α := fun q => if q = s then L s ++ [x] else L q
theorem put2_s {α : Type} (L : Nat → List α) (s : Nat) (x : α) : put2 L s x s = L s ++ [x] := if_pos rfl
theorem put2_n {α : Type} (L : Nat → List α) {s q : Nat} (x : α) (h : q ≠ s) : put2 L s x q = L q := if_neg h
theorem app_at {α : Type} {xs : List α} {x t : α} {i : Nat} (h : (xs ++ [x])[i]? = some t) : xs[i]? = some t ∨ (i = xs.length ∧ t = x) := by
  rcases Nat.lt_or_ge i xs.length with g | g
  · rw [List.getElem?_append_left g] at h
    exact Or.inl h
  · rw [List.getElem?_append_right g] at h
    cases hk : i - xs.length with
    | zero =>
      rw [hk] at h
      cases h
      exact Or.inr ⟨by omega, rfl⟩
    | succ k =>
      rw [hk] at h
      cases h
section MO1
variable {l : Launch} {D : xD} {R : Room}
theorem ct_Mo_addTool {m s : Nat} {B : Nat → Nat} {x : Int32} {y9 : Int64} {p : Bool} {th mn la ln ap bg wr fi fe wa wn fo st rf rt cu : Int32} {me hl : Bool} {L : Nat → List (Int32 × Bool)} {C : va_W} (h : IsMT D B L C) (hs2 : s < 2) (hlt : (L s).length < 10) (hy : x.toInt64 = y9) : Ct l mMo_addTool D R [.ref m, .int (nI s), .long y9, .int (b32 p)] [sMo m B th mn la ln ap bg wr me fi fe wa wn fo st hl rf rt cu, C] (fun v S => v = some (.int (nI (L s).length)) ∧ ∃ C', S = [sMo m B th mn la ln ap bg wr me fi fe wa wn fo st hl rf rt cu, C'] ∧ IsMT D B (put2 L s (x, p)) C') := by
  subst hy
  obtain ⟨gT, gD, gP, rfl, hs⟩ := h
  obtain ⟨h1, h2, h3⟩ := hs s hs2
  have e10 : (Int8.ofInt 10).toInt32 * nI s = nI (10 * s) := pk_mul 10 s
  refine Ct.of rfl (by decide) tkMo_addTool (Nat.le_of_ble_eq_true rfl) (fun A => ?_)
  refine Ex.p rfl ?_
  refine Ex.gf 0 0 rfl rfl rfl ?_
  refine Ex.p rfl ?_
  refine Ex.p rfl ?_
  refine Ex.p rfl ?_
  refine Ex.p rfl ?_
  refine Ex.gf 0 0 rfl rfl rfl ?_
  refine Ex.p rfl ?_
  refine Ex.ial 1 0 s rfl rfl rfl (nI_toInt (by omega)) hs2 ?_
  rw [h1]
  refine Ex.p rfl ?_
  rw [e10, nI_add]
  refine Ex.p rfl ?_
  refine Ex.las 1 1 (10 * s + (L s).length) rfl rfl rfl (nI_toInt (by omega)) (by omega) ?_
  refine Ex.p rfl ?_
  refine Ex.gf 0 0 rfl rfl rfl ?_
  refine Ex.p rfl ?_
  refine Ex.p rfl ?_
  refine Ex.p rfl ?_
  refine Ex.p rfl ?_
  refine Ex.gf 0 0 rfl rfl rfl ?_
  refine Ex.p rfl ?_
  refine Ex.ial 1 0 s rfl rfl rfl (nI_toInt (by omega)) hs2 ?_
  rw [h1]
  refine Ex.p rfl ?_
  rw [e10, nI_add]
  refine Ex.p rfl ?_
  refine Ex.zas 1 2 (10 * s + (L s).length) rfl rfl rfl (nI_toInt (by omega)) (by omega) (b32_01 p) ?_
  refine Ex.p rfl ?_
  refine Ex.gf 0 0 rfl rfl rfl ?_
  refine Ex.p rfl ?_
  refine Ex.p rfl ?_
  refine Ex.ial 1 0 s rfl rfl rfl (nI_toInt (by omega)) hs2 ?_
  rw [h1]
  refine Ex.p rfl ?_
  refine Ex.p rfl ?_
  rw [i_add1]
  refine Ex.ias 1 0 s rfl rfl rfl (nI_toInt (by omega)) hs2 ?_
  refine Ex.p rfl ?_
  refine Ex.gf 0 0 rfl rfl rfl ?_
  refine Ex.p rfl ?_
  refine Ex.ial 1 0 s rfl rfl rfl (nI_toInt (by omega)) hs2 ?_
  rw [upd_s]
  refine Ex.p rfl ?_
  refine Ex.p rfl ?_
  rw [i_sub1]
  refine Ex.iret (S' := [sMo m B th mn la ln ap bg wr me fi fe wa wn fo st hl rf rt cu, cMT D B (upd gT s (nI ((L s).length + 1))) (vp_updL gD (10 * s + (L s).length) x.toInt64) (upd gP (10 * s + (L s).length) (b32 p))]) rfl rfl (Nat.zero_le _) (Nat.zero_le _) rfl ⟨rfl, _, rfl, _, _, _, rfl, fun q hq => ?_⟩
  obtain ⟨k1, k2, k3⟩ := hs q hq
  by_cases hqs : q = s
  · subst hqs
    rw [put2_s, upd_s, List.length_append]
    refine ⟨rfl, by simp; omega, fun i t hi => ?_⟩
    rcases app_at hi with hi | ⟨rfl, rfl⟩
    · have := (List.getElem?_eq_some_iff.mp hi).1
      rw [updL_n _ _ (by omega), upd_n _ _ (by omega)]
      exact k3 i t hi
    · rw [updL_s, upd_s]
      exact ⟨rfl, rfl⟩
  · rw [put2_n _ _ hqs, upd_n _ _ hqs]
    refine ⟨k1, k2, fun i t hi => ?_⟩
    have := (List.getElem?_eq_some_iff.mp hi).1
    rw [updL_n _ _ (by omega), upd_n _ _ (by omega)]
    exact k3 i t hi
theorem ct_Mo_addHit {m s : Nat} {B : Nat → Nat} {h9 : HV} {y1 y2 y3 y4 : Int64} {sl : Bool} {th mn la ln ap bg wr fi fe wa wn fo st rf rt cu : Int32} {me hl : Bool} {L : Nat → List HV} {C : va_W} (h : IsMH D B L C) (hs2 : s < 2) (hlt : (L s).length < 60) (e1 : h9.2.1.toInt64 = y1) (e2 : h9.2.2.1.toInt64 = y2) (e3 : h9.2.2.2.1.toInt64 = y3) (e4 : h9.2.2.2.2.1.toInt64 = y4) (e5 : hslot h9 = sl) : Ct l mMo_addHit D R [.ref m, .int (nI s), .int h9.1, .long y1, .long y2, .long y3, .long y4, .int h9.2.2.2.2.2.1, .int h9.2.2.2.2.2.2, .int (b32 sl)] [sMo m B th mn la ln ap bg wr me fi fe wa wn fo st hl rf rt cu, C] (fun v S => v = some (.int (nI (L s).length)) ∧ ∃ C', S = [sMo m B th mn la ln ap bg wr me fi fe wa wn fo st hl rf rt cu, C'] ∧ IsMH D B (put2 L s h9) C') := by
  subst e1 e2 e3 e4 e5
  obtain ⟨gH, gO, gX, gY, gE, gG, gF, gU, gS, rfl, hs⟩ := h
  obtain ⟨h1, h2, h3⟩ := hs s hs2
  have e10 : (Int8.ofInt 60).toInt32 * nI s = nI (60 * s) := pk_mul 60 s
  have hk9 : (nI (60 * s + (L s).length)).toInt = ((60 * s + (L s).length : Nat) : Int) := nI_toInt (by omega)
  refine Ct.of rfl (by decide) tkMo_addHit (Nat.le_of_ble_eq_true rfl) (fun A => ?_)
  refine Ex.p rfl ?_
  refine Ex.p rfl ?_
  refine Ex.p rfl ?_
  refine Ex.p rfl ?_
  refine Ex.gf 0 0 rfl rfl rfl ?_
  refine Ex.p rfl ?_
  refine Ex.ial 1 0 s rfl rfl rfl (nI_toInt (by omega)) hs2 ?_
  rw [h1]
  refine Ex.p rfl ?_
  rw [e10, nI_add]
  refine Ex.p rfl ?_
  refine Ex.p rfl ?_
  refine Ex.gf 0 0 rfl rfl rfl ?_
  refine Ex.p rfl ?_
  refine Ex.p rfl ?_
  refine Ex.ias 1 1 (60 * s + (L s).length) rfl rfl rfl hk9 (by omega) ?_
  refine Ex.p rfl ?_
  refine Ex.gf 0 0 rfl rfl rfl ?_
  refine Ex.p rfl ?_
  refine Ex.p rfl ?_
  refine Ex.las 1 2 (60 * s + (L s).length) rfl rfl rfl hk9 (by omega) ?_
  refine Ex.p rfl ?_
  refine Ex.gf 0 0 rfl rfl rfl ?_
  refine Ex.p rfl ?_
  refine Ex.p rfl ?_
  refine Ex.las 1 3 (60 * s + (L s).length) rfl rfl rfl hk9 (by omega) ?_
  refine Ex.p rfl ?_
  refine Ex.gf 0 0 rfl rfl rfl ?_
  refine Ex.p rfl ?_
  refine Ex.p rfl ?_
  refine Ex.las 1 4 (60 * s + (L s).length) rfl rfl rfl hk9 (by omega) ?_
  refine Ex.p rfl ?_
  refine Ex.gf 0 0 rfl rfl rfl ?_
  refine Ex.p rfl ?_
  refine Ex.p rfl ?_
  refine Ex.las 1 5 (60 * s + (L s).length) rfl rfl rfl hk9 (by omega) ?_
  refine Ex.p rfl ?_
  refine Ex.gf 0 0 rfl rfl rfl ?_
  refine Ex.p rfl ?_
  refine Ex.p rfl ?_
  refine Ex.ias 1 6 (60 * s + (L s).length) rfl rfl rfl hk9 (by omega) ?_
  refine Ex.p rfl ?_
  refine Ex.gf 0 0 rfl rfl rfl ?_
  refine Ex.p rfl ?_
  refine Ex.p rfl ?_
  refine Ex.ias 1 7 (60 * s + (L s).length) rfl rfl rfl hk9 (by omega) ?_
  refine Ex.p rfl ?_
  refine Ex.gf 0 0 rfl rfl rfl ?_
  refine Ex.p rfl ?_
  refine Ex.p rfl ?_
  refine Ex.zas 1 8 (60 * s + (L s).length) rfl rfl rfl hk9 (by omega) (b32_01 _) ?_
  refine Ex.p rfl ?_
  refine Ex.gf 0 0 rfl rfl rfl ?_
  refine Ex.p rfl ?_
  refine Ex.p rfl ?_
  refine Ex.ial 1 0 s rfl rfl rfl (nI_toInt (by omega)) hs2 ?_
  rw [h1]
  refine Ex.p rfl ?_
  refine Ex.p rfl ?_
  rw [i_add1]
  refine Ex.ias 1 0 s rfl rfl rfl (nI_toInt (by omega)) hs2 ?_
  refine Ex.p rfl ?_
  refine Ex.gf 0 0 rfl rfl rfl ?_
  refine Ex.p rfl ?_
  refine Ex.ial 1 0 s rfl rfl rfl (nI_toInt (by omega)) hs2 ?_
  rw [upd_s]
  refine Ex.p rfl ?_
  refine Ex.p rfl ?_
  rw [i_sub1]
  refine Ex.iret (S' := [sMo m B th mn la ln ap bg wr me fi fe wa wn fo st hl rf rt cu, cMH D B (upd gH s (nI ((L s).length + 1))) (upd gO (60 * s + (L s).length) h9.1) (vp_updL gX (60 * s + (L s).length) h9.2.1.toInt64) (vp_updL gY (60 * s + (L s).length) h9.2.2.1.toInt64) (vp_updL gE (60 * s + (L s).length) h9.2.2.2.1.toInt64) (vp_updL gG (60 * s + (L s).length) h9.2.2.2.2.1.toInt64) (upd gF (60 * s + (L s).length) h9.2.2.2.2.2.1) (upd gU (60 * s + (L s).length) h9.2.2.2.2.2.2) (upd gS (60 * s + (L s).length) (b32 (hslot h9)))]) rfl rfl (Nat.zero_le _) (Nat.zero_le _) rfl ⟨rfl, _, rfl, _, _, _, _, _, _, _, _, _, rfl, fun q hq => ?_⟩
  obtain ⟨k1, k2, k3⟩ := hs q hq
  have far : ∀ j : Nat, j ≠ 60 * s + (L s).length → ∀ t : HV, hIs gO gX gY gE gG gF gU gS j t → hIs (upd gO (60 * s + (L s).length) h9.1) (vp_updL gX (60 * s + (L s).length) h9.2.1.toInt64) (vp_updL gY (60 * s + (L s).length) h9.2.2.1.toInt64) (vp_updL gE (60 * s + (L s).length) h9.2.2.2.1.toInt64) (vp_updL gG (60 * s + (L s).length) h9.2.2.2.2.1.toInt64) (upd gF (60 * s + (L s).length) h9.2.2.2.2.2.1) (upd gU (60 * s + (L s).length) h9.2.2.2.2.2.2) (upd gS (60 * s + (L s).length) (b32 (hslot h9))) j t := by
    intro j hj t ht
    unfold hIs
    rw [upd_n _ _ hj, updL_n _ _ hj, updL_n _ _ hj, updL_n _ _ hj, updL_n _ _ hj, upd_n _ _ hj, upd_n _ _ hj, upd_n _ _ hj]
    exact ht
  by_cases hqs : q = s
  · subst hqs
    rw [put2_s, upd_s, List.length_append]
    refine ⟨rfl, by simp; omega, fun i t hi => ?_⟩
    rcases app_at hi with hi | ⟨rfl, rfl⟩
    · have := (List.getElem?_eq_some_iff.mp hi).1
      exact far _ (by omega) t (k3 i t hi)
    · unfold hIs
      rw [upd_s, updL_s, updL_s, updL_s, updL_s, upd_s, upd_s, upd_s]
      exact ⟨rfl, rfl, rfl, rfl, rfl, rfl, rfl, rfl⟩
  · rw [put2_n _ _ hqs, upd_n _ _ hqs]
    refine ⟨k1, k2, fun i t hi => ?_⟩
    have := (List.getElem?_eq_some_iff.mp hi).1
    exact far _ (by omega) t (k3 i t hi)
end MO1

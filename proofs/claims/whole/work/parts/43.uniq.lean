/-! the order of a tool's hits is one only -/
theorem rest_uniq {n : Nat} {fw fw' fr fr' : Nat → Int32} (hn : n ≤ 8) (hw : ∀ la nx, la < n → nx < n → fw (la * 8 + nx) = fw' (la * 8 + nx)) (h : RestOK n fw fr) (h' : RestOK n fw' fr') : ∀ (k s la : Nat), 2 ^ n - s ≤ k → 0 < s → s < 2 ^ n → la < n → s.testBit la = true → fr (s * 8 + la) = fr' (s * 8 + la) := by
  have h256 : 2 ^ n ≤ 256 := (sh_all n hn).2.1
  intro k
  induction k with
  | zero => intro s la hk h0 hs; omega
  | succ k ih =>
    intro s la hk h0 hs hla hb
    rw [h s la h0 hs hla hb, h' s la h0 hs hla hb]
    congr 1
    refine nfold_congr fun j hj ho => ?_
    have hbj : s.testBit j = false := by simpa using ho
    have hg := (or_gt s (by omega) j (by omega)).2 hbj
    have hlt : s ||| 2 ^ j < 2 ^ n := Nat.or_lt_two_pow hs (Nat.pow_lt_pow_right (by omega) hj)
    unfold bw
    rw [hw la j hla hj, ih (s ||| 2 ^ j) j (by omega) (by omega) hlt hj (by rw [Nat.testBit_or, Nat.testBit_two_pow_self, Bool.or_true])]
theorem picks_uniq {n : Nat} {fw fw' fr fr' : Nat → Int32} (hn : n ≤ 8) (hw : ∀ la nx, (la < n ∨ la = 8) → nx < n → fw (la * 8 + nx) = fw' (la * 8 + nx)) (hr : ∀ s la, 0 < s → s < 2 ^ n → la < n → s.testBit la = true → fr (s * 8 + la) = fr' (s * 8 + la)) : ∀ (k s la : Nat), s < 2 ^ n → (la < n ∨ la = 8) → picks n fw fr k s la = picks n fw' fr' k s la ∧ (∀ b ∈ picks n fw fr k s la, b < n) := by
  have h256 : 2 ^ n ≤ 256 := (sh_all n hn).2.1
  intro k
  induction k with
  | zero => intro s la _ _; exact ⟨rfl, fun b hb => by cases hb⟩
  | succ k ih =>
    intro s la hs hla
    have e : nfold (fun j => !s.testBit j) (bw fw fr s la) n = nfold (fun j => !s.testBit j) (bw fw' fr' s la) n := by
      refine nfold_congr fun j hj ho => ?_
      have hbj : s.testBit j = false := by simpa using ho
      have hg := (or_gt s (by omega) j (by omega)).2 hbj
      have hlt : s ||| 2 ^ j < 2 ^ n := Nat.or_lt_two_pow hs (Nat.pow_lt_pow_right (by omega) hj)
      unfold bw
      rw [hw la j hla hj, hr (s ||| 2 ^ j) j (by omega) hlt hj (by rw [Nat.testBit_or, Nat.testBit_two_pow_self, Bool.or_true])]
    unfold picks
    rw [e]
    cases hb : (nfold (fun j => !s.testBit j) (bw fw' fr' s la) n).1 with
    | none => exact ⟨rfl, fun b hb => by cases hb⟩
    | some b =>
      have hbn := nfold_lt hb
      have hlt : s ||| 2 ^ b < 2 ^ n := Nat.or_lt_two_pow hs (Nat.pow_lt_pow_right (by omega) hbn)
      obtain ⟨i1, i2⟩ := ih (s ||| 2 ^ b) b hlt (Or.inl hbn)
      refine ⟨by dsimp only; rw [i1], fun c hc => ?_⟩
      rcases List.mem_cons.mp hc with rfl | hc
      · exact hbn
      · exact i2 c hc
theorem npk_mem {n : Nat} {mv : Nat → HV} : ∀ {k : Nat} {fd : Nat → Int32} {g : HV}, ∀ b ∈ npk n mv k fd g, b.1 < n
  | 0, _, _ => fun b hb => by cases hb
  | k + 1, fd, g => by
    unfold npk
    split
    · intro b hb; cases hb
    · rename_i b0 hb0
      intro b hb
      rcases List.mem_cons.mp hb with rfl | hb
      · exact nfold_lt hb0
      · exact npk_mem b hb
theorem pacc_uniq {n : Nat} {fw fw' : Nat → Int32} (hw : ∀ la nx, (la < n ∨ la = 8) → nx < n → fw (la * 8 + nx) = fw' (la * 8 + nx)) : ∀ (ps : List Nat) (v : Int64) (la : Nat), (la < n ∨ la = 8) → (∀ b ∈ ps, b < n) → pacc fw v la ps = pacc fw' v la ps
  | [], _, _, _, _ => rfl
  | b :: bs, v, la, hla, h => by
    unfold pacc
    rw [hw la b hla (h b (by simp))]
    exact pacc_uniq hw bs _ b (Or.inl (h b (by simp))) (fun c hc => h c (by simp [hc]))
theorem ways_uniq {n : Nat} {mv : Nat → HV} {fw fw' : Nat → Int32} (h : WaysOK n mv fw) (h' : WaysOK n mv fw') : ∀ la nx, (la < n ∨ la = 8) → nx < n → fw (la * 8 + nx) = fw' (la * 8 + nx) := by
  intro la nx hla hnx
  rcases hla with hla | rfl
  · rw [h.1 la nx hla hnx, h'.1 la nx hla hnx]
  · exact (h.2 nx hnx).trans (h'.2 nx hnx).symm
theorem TOrd.uniq {n : Nat} {mv : Nat → HV} {ps ps' : List Nat} {len len' : Int64} (h : TOrd n mv ps len) (h' : TOrd n mv ps' len') : ps = ps' ∧ len = len' := by
  by_cases hn : n ≤ 8
  · obtain ⟨fw, fr, h1, h2, rfl, rfl⟩ := h.1 hn
    obtain ⟨fw', fr', h1', h2', rfl, rfl⟩ := h'.1 hn
    have hw := ways_uniq h1 h1'
    have hp : (0 : Nat) < 2 ^ n := Nat.pow_pos (by omega)
    obtain ⟨e, hm⟩ := picks_uniq hn hw (fun s la a b c d => rest_uniq hn (fun la nx p q => hw la nx (Or.inl p) q) h2 h2' (2 ^ n) s la (by omega) a b c d) n 0 8 hp (Or.inr rfl)
    refine ⟨e, ?_⟩
    rw [← e]
    exact pacc_uniq hw _ _ 8 (Or.inr rfl) hm
  · obtain ⟨rfl, rfl⟩ := h.2 (by omega)
    obtain ⟨rfl, rfl⟩ := h'.2 (by omega)
    exact ⟨rfl, rfl⟩
theorem TOrd.mem {n : Nat} {mv : Nat → HV} {ps : List Nat} {len : Int64} (h : TOrd n mv ps len) : (∀ b ∈ ps, b < n) ∧ ps.length ≤ n := by
  by_cases hn : n ≤ 8
  · obtain ⟨fw, fr, h1, h2, rfl, rfl⟩ := h.1 hn
    have hp : (0 : Nat) < 2 ^ n := Nat.pow_pos (by omega)
    exact ⟨(picks_uniq (fw' := fw) (fr' := fr) hn (fun _ _ _ _ => rfl) (fun _ _ _ _ _ _ => rfl) n 0 8 hp (Or.inr rfl)).2, picks_len⟩
  · obtain ⟨rfl, rfl⟩ := h.2 (by omega)
    refine ⟨fun b hb => ?_, ?_⟩
    · obtain ⟨c, hc, rfl⟩ := List.mem_map.mp hb
      exact npk_mem c hc
    · rw [List.length_map]; exact npk_len

noncomputable def ordOf (n : Nat) (mv : Nat → HV) : List Nat × Int64 := @dite _ (∃ p : List Nat × Int64, TOrd n mv p.1 p.2) (Classical.propDecidable _) (fun h => h.choose) (fun _ => ([], 0))
theorem TOrd.of {n : Nat} {mv : Nat → HV} {ps : List Nat} {len : Int64} (h : TOrd n mv ps len) : ordOf n mv = (ps, len) := by
  have hx : ∃ p : List Nat × Int64, TOrd n mv p.1 p.2 := ⟨(ps, len), h⟩
  unfold ordOf
  rw [dif_pos hx]
  obtain ⟨a, b⟩ := TOrd.uniq hx.choose_spec h
  exact Prod.ext a b
theorem ordOf_mem (n : Nat) (mv : Nat → HV) : (∀ b ∈ (ordOf n mv).1, b < n) ∧ (ordOf n mv).1.length ≤ n := by
  by_cases hx : ∃ p : List Nat × Int64, TOrd n mv p.1 p.2
  · obtain ⟨p, hp⟩ := hx
    rw [hp.of]
    exact hp.mem
  · unfold ordOf
    rw [dif_neg hx]
    exact ⟨fun b hb => (by cases hb), Nat.zero_le _⟩

/-! what holds of a drawing holds behind a new tool, a new hit; lines go on -/
theorem npk_congr2 {n : Nat} {mv mv' : Nat → HV} (h : ∀ j, j < n → mv j = mv' j) : ∀ {k : Nat} {fd : Nat → Int32} {g : HV}, npk n mv k fd g = npk n mv' k fd g
  | 0, _, _ => rfl
  | k + 1, fd, g => by
    have e : nfold (fun j => decide (fd j = 0)) (fun j => hway g (mv j)) n = nfold (fun j => decide (fd j = 0)) (fun j => hway g (mv' j)) n := nfold_congr (fun j hj _ => by rw [h j hj])
    unfold npk
    rw [e]
    cases hb : (nfold (fun j => decide (fd j = 0)) (fun j => hway g (mv' j)) n).1 with
    | none => rfl
    | some b =>
      dsimp only
      rw [h b (nfold_lt hb), npk_congr2 h]
theorem TOrd.congr {n : Nat} {mv mv' : Nat → HV} {ps : List Nat} {len : Int64} (h : ∀ j, j < n → mv j = mv' j) (ho : TOrd n mv ps len) : TOrd n mv' ps len := by
  refine ⟨fun hn => ?_, fun hn => ?_⟩
  · obtain ⟨fw, fr, h1, h2, h3, h4⟩ := ho.1 hn
    exact ⟨fw, fr, ⟨fun la nx a b => by rw [h1.1 la nx a b, h la a, h nx b], fun nx b => by rw [h1.2 nx b, h nx b]⟩, h2, h3, h4⟩
  · have := ho.2 hn
    rw [npk_congr2 h] at this
    exact this
theorem ordOf_congr {n : Nat} {mv mv' : Nat → HV} (h : ∀ j, j < n → mv j = mv' j) : ordOf n mv = ordOf n mv' := by
  by_cases hx : ∃ p : List Nat × Int64, TOrd n mv p.1 p.2
  · obtain ⟨p, hp⟩ := hx
    rw [hp.of, (hp.congr h).of]
  · have hx' : ¬ ∃ p : List Nat × Int64, TOrd n mv' p.1 p.2 := by
      rintro ⟨p, hp⟩
      exact hx ⟨p, hp.congr (fun j hj => (h j hj).symm)⟩
    unfold ordOf
    rw [dif_neg hx, dif_neg hx']
theorem mvH_app {hv : List HV} {h : HV} {ns : List Nat} (hns : ∀ n ∈ ns, n < hv.length) : ∀ j, j < ns.length → mvH hv ns j = mvH (hv ++ [h]) ns j := by
  intro j hj
  have := hns _ (List.getElem_mem hj)
  unfold mvH
  rw [List.getD_eq_getElem?_getD (l := ns), List.getElem?_eq_getElem hj]
  simp only [Option.getD_some, List.getD_eq_getElem?_getD]
  rw [List.getElem?_append_left this]
theorem tns_other {hv : List HV} {h : HV} {i j : Nat} (hi : h.1 = nI i) (hij : i ≠ j) (h1 : i < 1000) (h2 : j < 1000) : tns (hv ++ [h]) j = tns hv j := by
  show tnsA (nI j) 0 (hv ++ [h]) = tnsA (nI j) 0 hv
  rw [tnsA_app, if_neg, List.append_nil]
  rw [hi, nI_eq (by omega) (by omega)]
  exact hij
theorem tor_other {hv : List HV} {h : HV} {i j : Nat} (hi : h.1 = nI i) (hij : i ≠ j) (h1 : i < 1000) (h2 : j < 1000) : tor (hv ++ [h]) j = tor hv j ∧ tln (hv ++ [h]) j = tln hv j := by
  unfold tor tln
  rw [tns_other hi hij h1 h2, ← ordOf_congr (mvH_app (fun n hn => tns_lt hn))]
  exact ⟨rfl, rfl⟩
theorem tnsA_none {x : Int32} : ∀ {hv : List HV} {k : Nat}, (∀ h ∈ hv, h.1 ≠ x) → tnsA x k hv = []
  | [], _, _ => rfl
  | g :: r, k, hn => by
    unfold tnsA
    rw [if_neg (hn g (by simp)), tnsA_none (fun h hh => hn h (by simp [hh]))]
/-- every hit is of one of n tools -/
def HvT (n : Nat) (hv : List HV) : Prop := ∀ h ∈ hv, ∃ j, j < n ∧ h.1 = nI j
theorem DrOK.tool {ts : List TV} {hs : List (Nat × HV)} {q : Nat} {dm : Int32} {pl : Bool} (h : DrOK ts hs) (hv : HvT ts.length (hs.map (fun h => h.2))) (hl : ts.length ≤ 10) (hd : tvOK (dm, pl)) : DrOK (ts ++ [(q, dm, pl, [], [], 0, false, 8, 8)]) hs := by
  refine ⟨fun i t hi => ?_, h.2⟩
  rcases Nat.lt_or_ge i ts.length with g | g
  · rw [List.getElem?_append_left g] at hi
    exact h.1 i t hi
  · rw [List.getElem?_append_right g] at hi
    cases hk : i - ts.length with
    | zero =>
      rw [hk] at hi
      cases hi
      have ei : i = ts.length := by omega
      refine ⟨?_, (show 8 ≤ 128 by omega), (show 8 ≤ 128 by omega), hd, fun h => by cases h⟩
      show [] = (tns (hs.map (fun h => h.2)) i).map nI
      rw [show tns (hs.map (fun h => h.2)) i = [] from tnsA_none (fun g hg e => ?_)]
      · rfl
      · obtain ⟨j, hj, ej⟩ := hv g hg
        rw [ej, nI_eq (by omega) (by omega)] at e
        omega
    | succ k =>
      rw [hk] at hi
      cases hi
theorem DrOK.hit {ts : List TV} {hs : List (Nat × HV)} {q i : Nat} {h : HV} {t : TV} (hok : DrOK ts hs) (hi : ts[i]? = some t) (hh : h.1 = nI i) (ho : hOK h) (hl : ts.length ≤ 10) (hs60 : hs.length < 60) : DrOK (ts.set i (tadd t (nI hs.length))) (hs ++ [(q, h)]) := by
  have hil := (List.getElem?_eq_some_iff.mp hi).1
  have em : (hs ++ [(q, h)]).map (fun h => h.2) = hs.map (fun h => h.2) ++ [h] := by simp
  refine ⟨fun j u hj => ?_, fun g hg => ?_⟩
  · rw [em]
    by_cases hij : i = j
    · subst hij
      rw [List.getElem?_set_self hil] at hj
      cases hj
      obtain ⟨k1, k2, k3, k4, k5⟩ := hok.1 i t hi
      have htl : (tns (hs.map (fun h => h.2)) i).length ≤ hs.length := by
        have := tnsA_len (nI i) (hs.map (fun h => h.2)) 0
        rw [List.length_map] at this
        exact this
      refine ⟨?_, ?_, k3, k4, fun h => by cases h⟩
      · show t.2.2.2.1 ++ [nI hs.length] = (tnsA (nI i) 0 (hs.map (fun h => h.2) ++ [h])).map nI
        rw [tnsA_app, if_pos hh, k1]
        simp
      · show rcap t.2.2.2.2.2.2.2.1 t.2.2.2.1.length ≤ 128
        rw [k1, List.length_map]
        unfold rcap
        split <;> omega
    · rw [List.getElem?_set_ne hij] at hj
      obtain ⟨k1, k2, k3, k4, k5⟩ := hok.1 j u hj
      have hjl := (List.getElem?_eq_some_iff.mp hj).1
      obtain ⟨e1, e2⟩ := tor_other (hv := hs.map (fun h => h.2)) hh hij (by omega) (by omega)
      refine ⟨?_, k2, k3, k4, fun hp => ?_⟩
      · rw [tns_other hh hij (by omega) (by omega)]
        exact k1
      · rw [e1, e2]
        exact k5 hp
  · rcases List.mem_append.mp hg with hg | hg
    · exact hok.2 g hg
    · rw [List.mem_singleton.mp hg]
      exact ho
theorem HvT.more {n m : Nat} {hv : List HV} (h : HvT n hv) (hm : n ≤ m) : HvT m hv := fun g hg => by
  obtain ⟨j, a, b⟩ := h g hg
  exact ⟨j, by omega, b⟩
theorem HvT.add {n i : Nat} {hv : List HV} {h : HV} (h1 : HvT n hv) (hi : i < n) (hh : h.1 = nI i) : HvT n (hv ++ [h]) := fun g hg => by
  rcases List.mem_append.mp hg with hg | hg
  · exact h1 g hg
  · rw [List.mem_singleton.mp hg]
    exact ⟨i, hi, hh⟩
/-- lines go on -/
theorem pLayerLine_le {xs : List Int32} {p : Nat} (hp : p ≤ xs.length) : (pLayerLine xs p).2 ≤ xs.length ∧ ((pLayerLine xs p).1 ≠ none → p < (pLayerLine xs p).2) := by
  have h1 := pPart_le (xs := xs) (c := 76) (sg := false) (by decide) hp
  unfold pLayerLine
  generalize pPart xs 76 false p = P1 at h1
  obtain ⟨o1, p1⟩ := P1
  cases o1 with
  | none => exact ⟨h1.2.1, fun h => absurd rfl h⟩
  | some x =>
    have h2 := pPart_le (xs := xs) (c := 44) (sg := false) (by decide) h1.2.1
    have h3 := h1.2.2 (by simp)
    dsimp only at h2 h3 ⊢
    generalize pPart xs 44 false p1 = P2 at h2
    obtain ⟨o2, p2⟩ := P2
    cases o2 with
    | none => exact ⟨h2.2.1, fun h => absurd rfl h⟩
    | some y =>
      have h4 := pLit_le (xs := xs) (cs := [10]) (by decide) h2.2.1
      dsimp only at h2 h4 ⊢
      generalize pLit xs [10] p2 = P3 at h4
      obtain ⟨o3, p3⟩ := P3
      cases o3 with
      | false => exact ⟨h4.2, fun h => absurd rfl h⟩
      | true =>
        dsimp only at h4 ⊢
        split
        · exact ⟨h4.2, fun _ => by dsimp only; omega⟩
        · exact ⟨hp, fun h => absurd rfl h⟩
theorem pToolLine_le {xs : List Int32} {n p : Nat} (hp : p ≤ xs.length) : (pToolLine xs n p).2 ≤ xs.length ∧ ((pToolLine xs n p).1 ≠ none → p < (pToolLine xs n p).2) := by
  have h1 := pPart_le (xs := xs) (c := 84) (sg := false) (by decide) hp
  unfold pToolLine
  generalize pPart xs 84 false p = P1 at h1
  obtain ⟨o1, p1⟩ := P1
  cases o1 with
  | none => exact ⟨h1.2.1, fun h => absurd rfl h⟩
  | some x =>
    have h2 := pPart_le (xs := xs) (c := 67) (sg := false) (by decide) h1.2.1
    have h3 := h1.2.2 (by simp)
    dsimp only at h2 h3 ⊢
    generalize pPart xs 67 false p1 = P2 at h2
    obtain ⟨o2, p2⟩ := P2
    cases o2 with
    | none => exact ⟨h2.2.1, fun h => absurd rfl h⟩
    | some y =>
      have h4 := pLit_le (xs := xs) (cs := if gt xs p2 = 80 then [80, 10] else [78, 10]) (by split <;> decide) h2.2.1
      dsimp only at h2 h4 ⊢
      generalize pLit xs (if gt xs p2 = 80 then [80, 10] else [78, 10]) p2 = P3 at h4
      obtain ⟨o3, p3⟩ := P3
      cases o3 with
      | false => exact ⟨h4.2, fun h => absurd rfl h⟩
      | true =>
        dsimp only at h4 ⊢
        split
        · exact ⟨h4.2, fun _ => by dsimp only; omega⟩
        · exact ⟨hp, fun h => absurd rfl h⟩
theorem pChoice_le {xs : List Int32} {n p : Nat} (hp : p ≤ xs.length) : (pChoice xs n p).2 ≤ xs.length ∧ ((pChoice xs n p).1 ≠ none → p < (pChoice xs n p).2) := by
  have h1 := pPart_le (xs := xs) (c := 84) (sg := false) (by decide) hp
  unfold pChoice
  generalize pPart xs 84 false p = P1 at h1
  obtain ⟨o1, p1⟩ := P1
  cases o1 with
  | none => exact ⟨h1.2.1, fun h => absurd rfl h⟩
  | some x =>
    have h3 := h1.2.2 (by simp)
    have h4 := pLit_le (xs := xs) (cs := [10]) (by decide) h1.2.1
    dsimp only at h3 h4 ⊢
    generalize pLit xs [10] p1 = P3 at h4
    obtain ⟨o3, p3⟩ := P3
    cases o3 with
    | false => exact ⟨h4.2, fun h => absurd rfl h⟩
    | true =>
      dsimp only at h4 ⊢
      split
      · exact ⟨h4.2, fun _ => by dsimp only; omega⟩
      · exact ⟨hp, fun h => absurd rfl h⟩
theorem pHitLine_le {xs : List Int32} {nh p : Nat} {ch f t : Int32} (hp : p ≤ xs.length) : (pHitLine xs nh ch f t p).2 ≤ xs.length ∧ ((pHitLine xs nh ch f t p).1 ≠ none → p < (pHitLine xs nh ch f t p).2) := by
  have h1 := pPlace_le (xs := xs) hp
  unfold pHitLine
  generalize pPlace xs p = P1 at h1
  obtain ⟨o1, p1⟩ := P1
  cases o1 with
  | none => exact ⟨h1.2.1, fun h => absurd rfl h⟩
  | some a =>
    have h3 := h1.2.2 (by simp)
    dsimp only at h1 h3 ⊢
    by_cases hg : gt xs p1 = 71
    · rw [if_pos hg]
      have h4 := pLit_le (xs := xs) (cs := [71, 56, 53]) (by decide) h1.2.1
      generalize pLit xs [71, 56, 53] p1 = P2 at h4
      obtain ⟨o2, p2⟩ := P2
      cases o2 with
      | false => exact ⟨h4.2, fun h => absurd rfl h⟩
      | true =>
        have h5 := pPlace_le (xs := xs) h4.2
        dsimp only at h4 h5 ⊢
        generalize pPlace xs p2 = P3 at h5
        obtain ⟨o3, p3⟩ := P3
        cases o3 with
        | none => exact ⟨h5.2.1, fun h => absurd rfl h⟩
        | some b =>
          have h6 := pLit_le (xs := xs) (cs := [10]) (by decide) h5.2.1
          dsimp only at h5 h6 ⊢
          generalize pLit xs [10] p3 = P4 at h6
          obtain ⟨o4, p4⟩ := P4
          cases o4 with
          | false => exact ⟨h6.2, fun h => absurd rfl h⟩
          | true =>
            dsimp only at h6 ⊢
            split
            · exact ⟨h6.2, fun _ => by dsimp only; omega⟩
            · exact ⟨hp, fun h => absurd rfl h⟩
    · rw [if_neg hg]
      have h6 := pLit_le (xs := xs) (cs := [10]) (by decide) h1.2.1
      generalize pLit xs [10] p1 = P4 at h6
      obtain ⟨o4, p4⟩ := P4
      cases o4 with
      | false => exact ⟨h6.2, fun h => absurd rfl h⟩
      | true =>
        dsimp only at h6 ⊢
        split
        · exact ⟨h6.2, fun _ => by dsimp only; omega⟩
        · exact ⟨hp, fun h => absurd rfl h⟩
theorem pPart_no {xs : List Int32} {c : Int32} {sg : Bool} {p : Nat} (h : gt xs p ≠ c) : pPart xs c sg p = (none, p) := by
  unfold pPart
  rw [if_neg h]
theorem pLayerLine_no {xs : List Int32} {p : Nat} (h : gt xs p ≠ 76) : pLayerLine xs p = (none, p) := by
  unfold pLayerLine
  rw [pPart_no h]
theorem pChoice_no {xs : List Int32} {n p : Nat} (h : gt xs p ≠ 84) : pChoice xs n p = (none, p) := by
  unfold pChoice
  rw [pPart_no h]
theorem pLit_no {xs : List Int32} {c : Int32} {cs : List Int32} {p : Nat} (h : gt xs p ≠ c) : pLit xs (c :: cs) p = (false, p) := by
  unfold pLit
  rw [if_neg h]

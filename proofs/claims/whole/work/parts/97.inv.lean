/-! what holds of the plain state in every run -/
def ZN (z : SD) : Prop := (z.2.2.2.2.map Prod.fst).Nodup
theorem da_ok {D : xD} {a : Nat} {z : SD} {S : List va_W} (h : IsDa D a z S) : (∀ t ∈ z.1, tvOK t) ∧ ∀ h ∈ z.2.1, hOK h := by
  obtain ⟨pl, w, un, fe, dr, f, r, kp, kf, kt, c0, c1, c2, xs, ts, hs, fs, Cp, Co, Cu, Cf, Cd, T, Cs, F, rfl, hpl, ho, hk, hu, hfe, hb, hd, hok, hv, htv, hhv, hfs, hff⟩ := h
  constructor
  · intro t ht
    rw [← htv] at ht
    obtain ⟨u, hu, rfl⟩ := List.mem_map.mp ht
    obtain ⟨i, hi⟩ := List.mem_iff_getElem?.mp hu
    exact (hok.1 i u hi).2.2.2.1
  · intro t ht
    rw [← hhv] at ht
    obtain ⟨u, hu, rfl⟩ := List.mem_map.mp ht
    exact hok.2 u hu
theorem da_at {D : xD} {a : Nat} {z : SD} {S : List va_W} (h : IsDa D a z S) : ∃ fs, S.flatten[0]? = some (a, .inr (0, fs)) := by
  obtain ⟨pl, w, un, fe, dr, f, r, kp, kf, kt, c0, c1, c2, xs, ts, hs, fs, Cp, Co, Cu, Cf, Cd, T, Cs, F, rfl, -⟩ := h
  exact ⟨_, rfl⟩
theorem mo_at {D : xD} {m : Nat} {z : SD} {th : Int32} {S : List va_W} (h : IsMo D m z th S) : ∃ fs, S.flatten[0]? = some (m, .inr (10, fs)) := by
  obtain ⟨B, mn, la, ap, bg, wr, wa, wn, fo, st, rf, rt, cu, me, hl, LT, LH, CT, CH, CX, CF, CE, gR, gQ, gL, gW, rfl, -⟩ := h
  exact ⟨_, rfl⟩
theorem mo_8 {D : xD} {m : Nat} {z : SD} {th : Int32} {S : List va_W} (h : IsMo D m z th S) : ∀ x ∈ z.2.2.2.2, x.1 < 8 := by
  obtain ⟨B, mn, la, ap, bg, wr, wa, wn, fo, st, rf, rt, cu, me, hl, LT, LH, CT, CH, CX, CF, CE, gR, gQ, gL, gW, rfl, -, -, -, -, -, iF, -⟩ := h
  obtain ⟨_, _, _, -, -, hs⟩ := iF
  intro x hx
  obtain ⟨i, hi⟩ := List.mem_iff_getElem?.mp hx
  exact (hs i x hi).2.2.1
theorem nd_lt : ∀ (n : Nat) (l : List Nat), l.Nodup → (∀ x ∈ l, x < n) → l.length ≤ n
  | 0, l, _, h => by
    cases l with
    | nil => simp
    | cons x l => exact absurd (h x (by simp)) (by omega)
  | n + 1, l, hn, h => by
    by_cases hm : n ∈ l
    · have h1 := nd_lt n (l.erase n) (hn.erase n) (fun x hx => by
        have h2 := (hn.mem_erase_iff).mp hx
        have := h x h2.2
        have h3 := h2.1
        omega)
      rw [List.length_erase_of_mem hm] at h1
      omega
    · have := nd_lt n l hn (fun x hx => by
        have h1 := h x hx
        have h2 : x ≠ n := fun e => hm (e ▸ hx)
        omega)
      omega
theorem ZN.room {z : SD} (h : ZN z) (h8 : ∀ x ∈ z.2.2.2.2, x.1 < 8) : ∀ r : Nat, r < 8 → fhas z.2.2.2.2 r = false → z.2.2.2.2.length < 8 := by
  intro r hr hf
  unfold fhas at hf
  rw [List.any_eq_false] at hf
  have h1 := nd_lt 8 (r :: z.2.2.2.2.map Prod.fst) (List.nodup_cons.mpr ⟨fun hm => by
    obtain ⟨x, hx, e⟩ := List.mem_map.mp hm
    exact absurd (by simpa using e) (hf x hx), h⟩) (fun x hx => by
      rcases List.mem_cons.mp hx with rfl | hx
      · exact hr
      · obtain ⟨y, hy, rfl⟩ := List.mem_map.mp hx
        exact h8 y hy)
  simp at h1
  omega
theorem ZN.file {z : SD} {ro : Int32} (h : ZN z) : ZN (aFile z ro).2 := by
  unfold aFile
  split
  · split
    · rename_i g
      have hf := g.1
      unfold fhas at hf
      rw [List.any_eq_false] at hf
      show ((z.2.2.2.2 ++ [(ro.toInt.toNat, [])]).map Prod.fst).Nodup
      rw [List.map_append, List.nodup_append]
      refine ⟨h, by simp, ?_⟩
      intro a ha b hb e
      simp at hb
      obtain ⟨x, hx, e2⟩ := List.mem_map.mp ha
      exact absurd (by rw [e2, e, hb]; simp) (hf x hx)
    · exact h
  · exact h
theorem ZN.byte {z : SD} {i b : Int32} (h : ZN z) : ZN (aByte z i b).2 := by
  unfold aByte
  split
  · exact h
  · rename_i x hx
    split
    · split
      · have hx9 : z.2.2.2.2[i.toInt.toNat]? = some x := by
          unfold ixo at hx
          split at hx
          · exact hx
          · cases hx
        show ((z.2.2.2.2.set i.toInt.toNat (x.1, x.2 ++ [b.toInt.toNat])).map Prod.fst).Nodup
        have e : (z.2.2.2.2.set i.toInt.toNat (x.1, x.2 ++ [b.toInt.toNat])).map Prod.fst = z.2.2.2.2.map Prod.fst := by
          apply List.ext_getElem?
          intro j
          rw [List.getElem?_map, List.getElem?_map]
          by_cases hj : i.toInt.toNat = j
          · subst hj
            rw [List.getElem?_set_self (List.getElem?_eq_some_iff.mp hx9).1, hx9]
            rfl
          · rw [List.getElem?_set_ne hj]
        rw [e]
        exact h
      · exact h
    · exact h
theorem tkF_new {bs rs : List Nat} {p : Nat} {x : Nat × List Nat × Nat} (h : tkF bs rs p = some x) : x.1 ∉ rs := by
  unfold tkF at h
  split at h
  · cases h
  · split at h
    · cases h
    · split at h
      · cases h
      · rename_i g
        split at h
        · cases h
          exact fun q => g (Or.inr (Or.inl q))
        · cases h
theorem tkAll_nd {bs : List Nat} : ∀ (k : Nat) (rs : List Nat) (p : Nat) (y : List (Nat × List Nat) × Nat), tkAll bs k rs p = some y → (y.1.map Prod.fst).Nodup ∧ ∀ x ∈ y.1, x.1 ∉ rs
  | 0, rs, p, y, h => by
    unfold tkAll at h
    cases h
    exact ⟨by simp, fun x hx => by simp at hx⟩
  | k + 1, rs, p, y, h => by
    unfold tkAll at h
    split at h
    · cases h
    · rename_i x hx
      split at h
      · cases h
      · rename_i y9 hy
        cases h
        obtain ⟨h1, h2⟩ := tkAll_nd k _ _ _ hy
        have h3 := tkF_new hx
        refine ⟨?_, fun u hu => ?_⟩
        · show (x.1 :: y9.1.map Prod.fst).Nodup
          rw [List.nodup_cons]
          refine ⟨fun hm => ?_, h1⟩
          obtain ⟨u, hu, e⟩ := List.mem_map.mp hm
          exact h2 u hu (by rw [e]; simp)
        · rcases List.mem_cons.mp hu with rfl | hu
          · exact h3
          · exact fun q => h2 u hu (by simp [q])
theorem ZN.opn {z : SD} (h : ZN z) : ZN (aOpn z).2 := by
  unfold aOpn
  split
  · rename_i fl hfl
    unfold tkArch at hfl
    split at hfl
    · cases hfl
    · split at hfl
      · cases hfl
      · rename_i y hy
        split at hfl
        · cases hfl
          exact (tkAll_nd _ _ _ _ hy).1
        · cases hfl
  · exact h
theorem ZN.nil : ZN ([], [], [], [], []) := by
  unfold ZN
  simp
theorem ZN.tool {z : SD} {d : Int64} {p : Bool} (h : ZN z) : ZN (aTool z d p).2 := by
  unfold aTool
  repeat' split
  all_goals exact h
theorem ZN.hole {z : SD} {i f t : Int32} {x y : Int64} (h : ZN z) : ZN (aHole z i x y f t).2 := by
  unfold aHole aHit
  repeat' split
  all_goals exact h
theorem ZN.slot {z : SD} {i : Int32} {x y x2 y2 : Int64} (h : ZN z) : ZN (aSlot z i x y x2 y2).2 := by
  unfold aSlot aHit
  repeat' split
  all_goals exact h
theorem ZN.write {z : SD} {L i : Int32} (h : ZN z) : ZN (aWrite z L i).2 := by
  unfold aWrite
  repeat' split
  all_goals exact h
theorem ZN.unit {z : SD} {u : Int32} (h : ZN z) : ZN (aUnit z u).2 := by
  unfold aUnit
  repeat' split
  all_goals exact h
theorem ZN.feed {z : SD} {u : Int32} (h : ZN z) : ZN (aFeed z u).2 := by
  unfold aFeed
  repeat' split
  all_goals exact h
theorem ZN.at {z : SD} {k w : Int32} (h : ZN z) : ZN (aAt z k w).2 := by
  unfold aAt
  repeat' split
  all_goals exact h
theorem ZN.order {z : SD} {k w : Int32} (h : ZN z) : ZN (aOrder z k w).2 := by
  unfold aOrder
  repeat' split
  all_goals exact h
theorem ZN.travel {z : SD} {k : Int32} (h : ZN z) : ZN (aTravel z k).2 := by
  unfold aTravel
  repeat' split
  all_goals exact h
theorem ZN.proved {z : SD} {k : Int32} (h : ZN z) : ZN (aProved z k).2 := by
  unfold aProved
  repeat' split
  all_goals exact h
theorem ZN.archive {z : SD} {k : Int32} (h : ZN z) : ZN (aArch z k).2 := by
  unfold aArch
  repeat' split
  all_goals exact h
theorem ZN.sum {z : SD} {k : Int32} (h : ZN z) : ZN (aSum z k).2 := by
  unfold aSum
  repeat' split
  all_goals exact h
theorem ZN.told {z : SD} {k : Int32} (h : ZN z) : ZN (aTold z k).2 := h
theorem ZN.agree {z : SD} (h : ZN z) : ZN (aAgree z).2 := h

/-! the start: classes, arrays, String constants -/
theorem st_eqR {args : Array Value} {s : State} {t u : Term} {a : Nat} (h : (Cond.eq t u).before args s = true) (ht : t.eval args s none [] s = some (.ref a)) : u.eval args s none [] s = some (.ref a) := by
  cases hv : u.eval args s none [] s with
  | none => simp [Cond.before, Cond.holds, Cond.value, ht, hv] at h
  | some w =>
    simp only [Cond.before, Cond.holds, Cond.value, ht, hv] at h
    cases w <;> simp_all
theorem va_LSof {args : Array Value} {s : State} {C n d : String} {A : Nat → Prop} (hl : (Cond.laysStatic C n d).before args s = true) (hA : ∀ a : Nat, a < s.heap.size → ¬ A a) : va_LS C n d A s s.heap := by
  obtain ⟨c, k, i, f, a, cell, hc, hi, hst, ha, hcell, hs, hcls, hlt, hty⟩ := Cond.laysStatic_spec hl
  exact ⟨c, k, i, f, a, cell, hc, hi, hst, ha, hcell, hs, hcls, hlt, hty, hA a (Array.getElem?_eq_some_iff.mp hcell).1⟩
theorem start_D {args : Array Value} {s : State} (hts : ∀ w ∈ lw_tbl, w.before args s = true) (hgv : (Jvm.Cond.and given_1 narrow_1).before args s = true) : ∃ D : xD, va_K (xG D) gCL (gTY D) s ∧ gNX D s ∧ gSX D (fun q : Nat => s.heap.size ≤ q) s s.heap := by
  have htb : ∀ w ∈ gTB, w.before args s = true := fun w hw => hts w (List.mem_filter.mp hw).1
  have ht : ∀ {k : Nat} {w : Cond}, tables_1[k]? = some w → w.before args s = true := fun h => hts _ (List.mem_append_right _ (List.mem_of_getElem? h))
  have hs := flat_of_before _ hgv
  have hn : ∀ {k : Nat} {w : Cond}, gNF[k]? = some w → w.before args s = true := fun h => hs _ (List.mem_of_getElem? h)
  have hA : ∀ a : Nat, a < s.heap.size → ¬ (fun q : Nat => s.heap.size ≤ q) a := fun a h => Nat.not_le.mpr h
  obtain ⟨adK, adV, hvS, hev⟩ := vk_Sof (args := args) (s := s) (N := 18) (tm := tmI) (len := gSL) (byt := gSB) (A := fun q : Nat => s.heap.size ≤ q) (by decide +kernel) (fun i hi => hn (wEX i hi)) (fun i hi => hn (wCO i hi)) (fun i hi => hn (wAR i hi)) (fun i hi => hn (wLE i hi)) (fun i hi j hj => hn (wEL i hi j hj)) (fun i j hi hj hij => by
    rcases (Bool.or_eq_true _ _).mp (wNX i hi j hj hij) with h | h
    · obtain ⟨q, hq, e⟩ := List.any_eq_true.mp h
      simp only [Bool.and_eq_true, beq_iff_eq] at e
      have h9 := hn (wNE q hq)
      rw [e.1, e.2] at h9
      exact Or.inl h9
    · obtain ⟨q, hq, e⟩ := List.any_eq_true.mp h
      simp only [Bool.and_eq_true, beq_iff_eq] at e
      have h9 := hn (wNE q hq)
      rw [e.1, e.2] at h9
      exact Or.inr h9) hA
  have hc : ∀ c : Nat, ∃ d : ClassId × (Nat → Nat), ∀ q : vw_C, gCL[c]? = some q → u_Kn s q.1 q.2.1 q.2.2 d.1 d.2 := by
    intro c
    cases hq : gCL[c]? with
    | none => exact ⟨(0, fun _ => 0), fun q h => by cases h⟩
    | some r =>
      have hok := gCL_ok r (List.mem_of_getElem? hq)
      obtain ⟨cC, iS, h⟩ := u_known htb hok.1 (htb _ hok.2.2.2.1)
      exact ⟨(cC, iS), fun q h9 => by cases h9; exact h⟩
  obtain ⟨dd, hdd⟩ := Classical.axiomOfChoice hc
  obtain ⟨c0, k0, p0, a1, a2, a3⟩ := Cond.arrayClass_spec (ht (k := 97) (w := .arrayClass .int) (by decide +kernel))
  obtain ⟨c1, k1, p1, b1, b2, b3⟩ := Cond.arrayClass_spec (ht (k := 96) (w := .arrayClass .boolean) (by decide +kernel))
  obtain ⟨c2, k2, p2, d1, d2, d3⟩ := Cond.arrayClass_spec (ht (k := 977) (w := .arrayClass .long) (by decide +kernel))
  have o3 := ht (k := 151) (w := .arrayOver (.object "DrillArchive$Tool")) (by decide +kernel)
  have o4 := ht (k := 73) (w := .arrayOver (.object "DrillArchive$Hit")) (by decide +kernel)
  have o5 := ht (k := 176) (w := .arrayOver (.object "DrillArchive$StoredFile")) (by decide +kernel)
  obtain ⟨p3, c3, k3, e1, -, e2, e3, e4⟩ := Cond.arrayOver_spec o3
  obtain ⟨p4, c4, k4, f1, -, f2, f3, f4⟩ := Cond.arrayOver_spec o4
  obtain ⟨p5, c5, k5, g1, -, g2, g3, g4⟩ := Cond.arrayOver_spec o5
  refine ⟨(fun c => (dd c).1, fun c => (dd c).2, fun k => match k with | 0 => c0 | 1 => c1 | 2 => c2 | 3 => c3 | 4 => c4 | _ => c5, adK, adV), ⟨fun c q h => hdd c q h, fun k q h => ?_⟩, ⟨fun w hw => ?_, ⟨fun C hC => ?_, ?_⟩, fun q hq => ?_⟩, hvS, ?_, ?_, ?_, ?_, ?_, ?_⟩
  · match k, h with
    | 0, h => cases h; exact ⟨fun n z => ⟨fun k h => (by cases h), k0, a2, p0, a3⟩, a1⟩
    | 1, h => cases h; exact ⟨fun n z => ⟨fun k h => (by cases h), k1, b2, p1, b3⟩, b1⟩
    | 2, h => cases h; exact ⟨fun n z => ⟨fun k h => (by cases h), k2, d2, p2, d3⟩, d1⟩
    | 3, h => cases h; exact ⟨fun n z => ⟨fun k h => (by cases h), k3, e2, p3, e3⟩, k3, p3, e2, e3, e1, e4⟩
    | 4, h => cases h; exact ⟨fun n z => ⟨fun k h => (by cases h), k4, f2, p4, f3⟩, k4, p4, f2, f3, f1, f4⟩
    | 5, h => cases h; exact ⟨fun n z => ⟨fun k h => (by cases h), k5, g2, p5, g3⟩, k5, p5, g2, g3, g1, g4⟩
    | k + 6, h => cases h
  · have h1 := hts w (List.mem_filter.mp hw).1
    have h2 := (List.mem_filter.mp hw).2
    cases w <;> first | exact va_Nw.of rfl h1 | (simp [isNst] at h2)
  · unfold gAO at hC
    simp only [List.mem_cons, List.not_mem_nil, or_false] at hC
    rcases hC with rfl | rfl | rfl
    · exact va_AO.of o3
    · exact va_AO.of o4
    · exact va_AO.of o5
  · have h11 : s.vm.findClass "java/lang/IllegalArgumentException" = some (dd 11).1 := (hdd 11 _ rfl).2.1
    have h12 : s.vm.findClass "java/lang/IndexOutOfBoundsException" = some (dd 12).1 := (hdd 12 _ rfl).2.1
    have h := hn wS4
    simp only [Cond.before, Cond.holds, Cond.value, h11, h12] at h
    simpa using h
  · obtain ⟨i, hi⟩ := List.mem_iff_getElem?.mp hq
    have h24 : i < 24 := (List.getElem?_eq_some_iff.mp hi).1
    have h1 := ht (wSR i h24 q hi)
    obtain ⟨h18, h2⟩ := wST q hq
    have h3 := hev q.2.2.2 h18
    refine vk_R.of h1 ?_
    rcases h2 with h2 | h2
    · rw [← h2]
      exact h3
    · obtain ⟨x, hx, e⟩ := List.any_eq_true.mp h2
      simp only [Bool.and_eq_true, beq_iff_eq] at e
      have h9 := hn (wEQ x hx)
      rw [e.1.1, e.1.2, e.2] at h9
      exact st_eqR h9 h3
  · exact va_Zof (ht (k := 288) (by decide +kernel)) (htb _ (by decide +kernel)) (va_eqi (hn wS0)) hA
  · exact va_Zqof (ht (k := 308) (by decide +kernel)) (htb _ (by decide +kernel)) (hn wS1) hA
  · exact va_Zqof (ht (k := 671) (by decide +kernel)) (htb _ (by decide +kernel)) (hn wS2) hA
  · exact va_Zqof (ht (k := 673) (by decide +kernel)) (htb _ (by decide +kernel)) (hn wS3) hA
  · exact va_LSof (ht (k := 671) (by decide +kernel)) hA
  · exact va_LSof (ht (k := 673) (by decide +kernel)) hA

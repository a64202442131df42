/-! OWN FRAME 8: calls -/
theorem va_P_iff {G : va_G} {cl : List vw_C} {ws : va_W} {H : Heap} : va_P G cl ws H ↔ ∀ q ∈ ws, va_at G cl q H :=
  ⟨fun h q hq => by obtain ⟨k, hk⟩ := List.mem_iff_getElem?.mp hq; exact h k q hk, fun h k q hk => h q (List.mem_of_getElem? hk)⟩
abbrev xne (p q : Nat × va_E) : Prop := p.1 ≠ q.1
theorem va_D_iff {A : Nat → Prop} {ws : va_W} : va_D A ws ↔ ws.Pairwise xne ∧ ∀ q ∈ ws, A q.1 := by
  constructor
  · intro h
    refine ⟨List.pairwise_iff_getElem.mpr fun i j hi hj hij he => ?_, fun q hq => by obtain ⟨k, hk⟩ := List.mem_iff_getElem?.mp hq; exact h.2 k q hk⟩
    have := h.1 i j ws[i] ws[j] (List.getElem?_eq_getElem hi) (List.getElem?_eq_getElem hj) he
    omega
  · intro h
    refine ⟨fun i j p q hp hq he => ?_, fun k q hk => h.2 q (List.mem_of_getElem? hk)⟩
    obtain ⟨hi, e1⟩ := List.getElem?_eq_some_iff.mp hp
    obtain ⟨hj, e2⟩ := List.getElem?_eq_some_iff.mp hq
    have hw := List.pairwise_iff_getElem.mp h.1
    rcases Nat.lt_trichotomy i j with hij | hij | hij
    · exact absurd (by rw [e1, e2]; exact he) (hw i j hi hj hij)
    · exact hij
    · exact absurd (by rw [e1, e2]; exact he.symm) (hw j i hj hi hij)
/-- segments apart -/
def sg (S : List va_W) : Prop := (∀ C ∈ S, C.Pairwise xne) ∧ ∀ i j : Nat, i < j → ∀ Ci Cj : va_W, S[i]? = some Ci → S[j]? = some Cj → ∀ x ∈ Ci, ∀ y ∈ Cj, x.1 ≠ y.1
theorem sg_iff {S : List va_W} : S.flatten.Pairwise xne ↔ sg S := by
  rw [List.pairwise_flatten]
  constructor
  · rintro ⟨h1, h2⟩
    refine ⟨h1, fun i j hij Ci Cj hi hj x hx y hy => ?_⟩
    obtain ⟨hi', rfl⟩ := List.getElem?_eq_some_iff.mp hi
    obtain ⟨hj', rfl⟩ := List.getElem?_eq_some_iff.mp hj
    exact List.pairwise_iff_getElem.mp h2 i j hi' hj' hij x hx y hy
  · rintro ⟨h1, h2⟩
    refine ⟨h1, List.pairwise_iff_getElem.mpr fun i j hi hj hij x hx y hy => ?_⟩
    exact h2 i j hij _ _ (List.getElem?_eq_getElem hi) (List.getElem?_eq_getElem hj) x hx y hy
theorem sg.ne {S : List va_W} (h : sg S) {i j : Nat} {Ci Cj : va_W} (hi : S[i]? = some Ci) (hj : S[j]? = some Cj) (hij : i ≠ j) {x y : Nat × va_E} (hx : x ∈ Ci) (hy : y ∈ Cj) : x.1 ≠ y.1 := by
  rcases Nat.lt_or_gt_of_ne hij with q | q
  · exact h.2 i j q Ci Cj hi hj x hx y hy
  · exact fun e => h.2 j i q Cj Ci hj hi y hy x hx e.symm
/-- Sc are the segments of S at the places is -/
def pk (S : List va_W) (is : List Nat) (Sc : List va_W) : Prop := is.map (fun i => S[i]?) = Sc.map some
theorem pk.at {S Sc : List va_W} {is : List Nat} (h : pk S is Sc) {k : Nat} {C : va_W} (hk : Sc[k]? = some C) : ∃ i, is[k]? = some i ∧ S[i]? = some C := by
  have h1 : (is.map (fun i => S[i]?))[k]? = some (some C) := by rw [show is.map (fun i => S[i]?) = Sc.map some from h, List.getElem?_map, hk]; rfl
  rw [List.getElem?_map] at h1
  cases hi : is[k]? with
  | none => rw [hi] at h1; cases h1
  | some i => rw [hi] at h1; exact ⟨i, rfl, Option.some.inj h1⟩
theorem pk.mem {S Sc : List va_W} {is : List Nat} (h : pk S is Sc) {x : Nat × va_E} (hx : x ∈ Sc.flatten) : ∃ (i : Nat) (C : va_W), i ∈ is ∧ S[i]? = some C ∧ x ∈ C := by
  obtain ⟨C, hC, hx⟩ := List.mem_flatten.mp hx
  obtain ⟨k, hk⟩ := List.mem_iff_getElem?.mp hC
  obtain ⟨i, h1, h2⟩ := h.at hk
  exact ⟨i, C, List.mem_of_getElem? h1, h2, hx⟩
theorem pk.sub {S Sc : List va_W} {is : List Nat} (h : pk S is Sc) {x : Nat × va_E} (hx : x ∈ Sc.flatten) : x ∈ S.flatten := by
  obtain ⟨i, C, -, h2, h3⟩ := h.mem hx
  exact List.mem_flatten.mpr ⟨C, List.mem_of_getElem? h2, h3⟩
theorem pk.sg {S Sc : List va_W} {is : List Nat} (h : pk S is Sc) (hn : va_nd is = true) (hs : sg S) : sg Sc := by
  refine ⟨fun C hC => ?_, fun i j hij Ci Cj hi hj x hx y hy => ?_⟩
  · obtain ⟨k, hk⟩ := List.mem_iff_getElem?.mp hC
    obtain ⟨i, h1, h2⟩ := h.at hk
    exact hs.1 C (List.mem_of_getElem? h2)
  · obtain ⟨i1, a1, a2⟩ := h.at hi
    obtain ⟨j1, b1, b2⟩ := h.at hj
    refine hs.ne a2 b2 (fun e => ?_) hx hy
    subst e
    have := va_nd_inj is hn i j i1 a1 b1
    omega
/-- behind a call: the rest and what came back -/
theorem seg_join {D : xD} {A : Nat → Prop} {S Sc Sr S1 : List va_W} {H H1 : Heap} {is rs : List Nat} (hP : va_P (xG D) gCL S.flatten H) (hD : va_D A S.flatten) (hc : pk S is Sc) (hr : pk S rs Sr) (hn : va_nd rs = true) (hdis : ∀ i ∈ rs, i ∉ is)
    (hk : ∀ q : Nat, q < H.size → ¬ va_A Sc.flatten H.size q → H1[q]? = H[q]?) (hF : ∀ q, va_A Sc.flatten H.size q → A q) (hP1 : va_P (xG D) gCL S1.flatten H1) (hD1 : va_D (va_A Sc.flatten H.size) S1.flatten) : va_P (xG D) gCL (Sr ++ S1).flatten H1 ∧ va_D A (Sr ++ S1).flatten := by
  rw [va_P_iff] at hP hP1 ⊢
  rw [va_D_iff] at hD hD1 ⊢
  have hs := sg_iff.mp hD.1
  have apart : ∀ x ∈ Sr.flatten, x.1 < H.size ∧ ¬ va_A Sc.flatten H.size x.1 := by
    intro x hx
    have hl := (hP x (hr.sub hx)).lt
    refine ⟨hl, fun h => ?_⟩
    rcases h with ⟨k2, e2, h⟩ | h
    · obtain ⟨i, Ci, i1, i2, i3⟩ := hr.mem hx
      obtain ⟨j, Cj, j1, j2, j3⟩ := hc.mem (List.mem_of_getElem? h)
      exact hs.ne i2 j2 (fun q => hdis i i1 (q ▸ j1)) i3 j3 rfl
    · omega
  rw [List.flatten_append]
  refine ⟨fun x hx => ?_, List.pairwise_append.mpr ⟨sg_iff.mpr (hr.sg hn hs), hD1.1, fun x hx y hy he => ?_⟩, fun x hx => ?_⟩
  · rcases List.mem_append.mp hx with h | h
    · exact (hP x (hr.sub h)).kept (hk x.1 (apart x h).1 (apart x h).2)
    · exact hP1 x h
  · exact (apart x hx).2 (by rw [show x.1 = y.1 from he]; exact hD1.2 y hy)
  · rcases List.mem_append.mp hx with h | h
    · exact hD.2 x (hr.sub h)
    · exact hF _ (hD1.2 x h)

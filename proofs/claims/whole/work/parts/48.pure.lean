/-! the drawing as plain values: hits of a tool, its order, the text -/
/-- the numbers of the hits of tool x, from k on -/
def tnsA (x : Int32) : Nat → List HV → List Nat
  | _, [] => []
  | k, h :: r => if h.1 = x then k :: tnsA x (k + 1) r else tnsA x (k + 1) r
abbrev tns (hv : List HV) (i : Nat) : List Nat := tnsA (nI i) 0 hv
theorem tnsA_app (x : Int32) (h : HV) : ∀ (hv : List HV) (k : Nat), tnsA x k (hv ++ [h]) = tnsA x k hv ++ (if h.1 = x then [k + hv.length] else [])
  | [], k => by
    show (if h.1 = x then [k] else []) = _
    simp [tnsA]
  | g :: r, k => by
    have ih := tnsA_app x h r (k + 1)
    rw [List.cons_append]
    unfold tnsA
    rw [ih]
    split <;> simp [Nat.add_comm, Nat.add_left_comm]
theorem tnsA_mem (x : Int32) : ∀ (hv : List HV) (k n : Nat), n ∈ tnsA x k hv → k ≤ n ∧ n < k + hv.length
  | [], k, n, h => by cases h
  | g :: r, k, n, h => by
    unfold tnsA at h
    split at h
    · rcases List.mem_cons.mp h with rfl | h
      · simp
      · have := tnsA_mem x r (k + 1) n h
        simp; omega
    · have := tnsA_mem x r (k + 1) n h
      simp; omega
theorem tns_lt {hv : List HV} {i n : Nat} (h : n ∈ tns hv i) : n < hv.length := by
  have := tnsA_mem _ _ _ _ h
  omega
theorem tnsA_len (x : Int32) : ∀ (hv : List HV) (k : Nat), (tnsA x k hv).length ≤ hv.length
  | [], _ => Nat.le_refl _
  | g :: r, k => by
    have := tnsA_len x r (k + 1)
    unfold tnsA
    split <;> simp <;> omega
theorem tnsA_len2 (x : Int32) : ∀ (hv : List HV) (k k2 : Nat), (tnsA x k hv).length = (tnsA x k2 hv).length
  | [], _, _ => rfl
  | g :: r, k, k2 => by
    have := tnsA_len2 x r (k + 1) (k2 + 1)
    unfold tnsA
    split <;> simp [this]
def csum (hv : List HV) : Nat → Nat → Nat
  | _, 0 => 0
  | i, k + 1 => (tns hv i).length + csum hv (i + 1) k
theorem tns_cons_len (h : HV) (hv : List HV) (i : Nat) : (tns (h :: hv) i).length = (if h.1 = nI i then 1 else 0) + (tns hv i).length := by
  show (if h.1 = nI i then 0 :: tnsA (nI i) (0 + 1) hv else tnsA (nI i) (0 + 1) hv).length = _
  have e := tnsA_len2 (nI i) hv (0 + 1) 0
  by_cases q : h.1 = nI i
  · rw [if_pos q, if_pos q, List.length_cons, e, Nat.add_comm]
  · rw [if_neg q, if_neg q, e, Nat.zero_add]
theorem csum_cons0 (h : HV) (hv : List HV) : ∀ (k i : Nat), (∀ j, i ≤ j → j < i + k → h.1 ≠ nI j) → csum (h :: hv) i k = csum hv i k
  | 0, _, _ => rfl
  | k + 1, i, hn => by
    show (tns (h :: hv) i).length + csum (h :: hv) (i + 1) k = (tns hv i).length + csum hv (i + 1) k
    rw [tns_cons_len, if_neg (hn i (Nat.le_refl _) (by omega)), csum_cons0 h hv k (i + 1) (fun j a b => hn j (by omega) (by omega))]
    omega
theorem csum_cons (h : HV) (hv : List HV) : ∀ (k i : Nat), i + k ≤ 1000 → csum (h :: hv) i k ≤ csum hv i k + 1
  | 0, _, _ => Nat.zero_le _
  | k + 1, i, hk => by
    show (tns (h :: hv) i).length + csum (h :: hv) (i + 1) k ≤ (tns hv i).length + csum hv (i + 1) k + 1
    rw [tns_cons_len]
    by_cases q : h.1 = nI i
    · rw [if_pos q, csum_cons0 h hv k (i + 1) (fun j a b e => by
        rw [q, nI_eq (by omega) (by omega)] at e
        omega)]
      omega
    · rw [if_neg q]
      have := csum_cons h hv k (i + 1) (by omega)
      omega
theorem csum_le : ∀ (hv : List HV) (i k : Nat), i + k ≤ 1000 → csum hv i k ≤ hv.length
  | [], i, k, _ => by
    have : ∀ (k i : Nat), csum [] i k = 0 := by
      intro k
      induction k with
      | zero => intro i; rfl
      | succ k ih => intro i; show 0 + csum [] (i + 1) k = 0; rw [ih]
    rw [this]
    exact Nat.zero_le _
  | h :: hv, i, k, hk => by
    have := csum_cons h hv k i hk
    have := csum_le hv i k hk
    simp; omega
def mvH (hv : List HV) (ns : List Nat) (j : Nat) : HV := hv.getD (ns.getD j 0) ogv
theorem mvO_eq (hs : List (Nat × HV)) (ns : List Nat) : mvO hs ns = mvH (hs.map (fun h => h.2)) ns := by
  funext j
  unfold mvO mvH
  simp [List.getD_eq_getElem?_getD]
/-- the order of a tool's hits; its length -/
noncomputable def tor (hv : List HV) (i : Nat) : List Nat := (ordOf (tns hv i).length (mvH hv (tns hv i))).1.map (fun b => (tns hv i).getD b 0)
noncomputable def tln (hv : List HV) (i : Nat) : Int64 := (ordOf (tns hv i).length (mvH hv (tns hv i))).2
theorem tor_mem {hv : List HV} {i n : Nat} (h : n ∈ tor hv i) : n < hv.length := by
  obtain ⟨b, hb, rfl⟩ := List.mem_map.mp h
  have := (ordOf_mem _ _).1 b hb
  rw [List.getD_eq_getElem?_getD, List.getElem?_eq_getElem this]
  exact tns_lt (List.getElem_mem this)
theorem tor_len (hv : List HV) (i : Nat) : (tor hv i).length ≤ (tns hv i).length := by
  unfold tor
  rw [List.length_map]
  exact (ordOf_mem _ _).2
/-- the lines of the hits of k tools from i on -/
noncomputable def thits (kf kt : Int32) (hv : List HV) : Nat → Nat → List Int32
  | _, 0 => []
  | i, k + 1 => whits (nI i) kf kt false ((tor hv i).map (fun k => hv.getD k ogv)) ++ thits kf kt hv (i + 1) k
noncomputable def textD (kf kt : Int32) (tv : List (Int32 × Bool)) (hv : List HV) : List Int32 := headT kf kt tv ++ (thits kf kt hv 0 tv.length ++ [77, 51, 48, 10])
theorem part_len1 (c : Int32) : ∀ i, i < 10 → (part c (nI i)).length = 2 := by
  intro i hi
  have : ∀ i, i < 10 → ((if (nI i).toInt < 0 then [45] else []) ++ ds (nI i).toInt.natAbs 7 : List Int32).length = 1 := by decide +kernel
  unfold part
  rw [List.length_cons, this i hi]
theorem part_len5 (c v : Int32) (h0 : 0 ≤ v.toInt) (h1 : v.toInt ≤ 10000) : (part c v).length ≤ 6 := by
  unfold part
  rw [if_neg (by omega)]
  have h5 := ds_len v.toInt.natAbs 5
  have e : ds v.toInt.natAbs 7 = ds v.toInt.natAbs 5 := by
    show (if 10 ^ 6 ≤ v.toInt.natAbs ∨ 6 = 0 then [nI (48 + v.toInt.natAbs / 10 ^ 6 % 10)] else []) ++ ((if 10 ^ 5 ≤ v.toInt.natAbs ∨ 5 = 0 then [nI (48 + v.toInt.natAbs / 10 ^ 5 % 10)] else []) ++ ds v.toInt.natAbs 5) = _
    rw [if_neg (by omega), if_neg (by omega)]
    rfl
  rw [e]
  simp; omega
theorem hline_len (h : HV) : (hline h).length ≤ 40 := by
  have h1 := part_len 88 h.2.1
  have h2 := part_len 89 h.2.2.1
  have h3 := part_len 88 h.2.2.2.1
  have h4 := part_len 89 h.2.2.2.2.1
  unfold hline
  split <;> simp <;> omega
theorem whits_len (nm : Nat) (kf kt : Int32) (hnm : nm < 10) : ∀ (hs : List HV) (b : Bool), (whits (nI nm) kf kt b hs).length ≤ (if b then 0 else 3) + 40 * hs.length
  | [], b => by unfold whits; simp
  | h :: r, b => by
    have i1 := whits_len nm kf kt hnm r true
    have i2 := whits_len nm kf kt hnm r b
    have hl := hline_len h
    have hp := part_len1 84 nm hnm
    unfold whits
    split
    · cases b <;> simp at i1 ⊢ <;> omega
    · cases b <;> simp at i2 ⊢ <;> omega
theorem thits_len (kf kt : Int32) (hv : List HV) : ∀ (k i : Nat), i + k ≤ 10 → (thits kf kt hv i k).length ≤ 3 * k + 40 * csum hv i k
  | 0, _, _ => Nat.zero_le _
  | k + 1, i, h => by
    have ih := thits_len kf kt hv k (i + 1) (by omega)
    have hw := whits_len i kf kt (by omega) ((tor hv i).map (fun k => hv.getD k ogv)) false
    have ht := tor_len hv i
    show (whits (nI i) kf kt false ((tor hv i).map (fun k => hv.getD k ogv)) ++ thits kf kt hv (i + 1) k).length ≤ 3 * (k + 1) + 40 * ((tns hv i).length + csum hv (i + 1) k)
    rw [List.length_map] at hw
    simp at hw ⊢
    omega
/-- a tool's numbers -/
def tvOK (t : Int32 × Bool) : Prop := 1 ≤ t.1.toInt ∧ t.1.toInt ≤ 10000
theorem tlines_len : ∀ (tv : List (Int32 × Bool)) (i : Nat), i + tv.length ≤ 10 → (∀ t ∈ tv, tvOK t) → (tlines i tv).length ≤ 10 * tv.length
  | [], _, _, _ => Nat.zero_le _
  | t :: r, i, h, ht => by
    rw [List.length_cons] at h
    have ih := tlines_len r (i + 1) (by omega) (fun t h => ht t (by simp [h]))
    have h1 := part_len1 84 i (by omega)
    have h2 := part_len5 67 t.1 (by have := (ht t (by simp)).1; omega) (ht t (by simp)).2
    unfold tlines
    split <;> simp <;> omega
/-- a layer -/
def layOK (x : Int32) : Prop := 0 ≤ x.toInt ∧ x.toInt ≤ 7
theorem layOK.nat {x : Int32} (h : layOK x) : ∃ i, i ≤ 7 ∧ x = nI i := by
  refine ⟨x.toInt.toNat, by have := h.2; omega, Int32.toInt_inj.mp ?_⟩
  have := h.1
  have := h.2
  rw [nI_toInt (by omega)]
  omega
theorem headT_len {kf kt : Int32} {tv : List (Int32 × Bool)} (hf : layOK kf) (ht : layOK kt) (hl : tv.length ≤ 10) (htv : ∀ t ∈ tv, tvOK t) : (headT kf kt tv).length ≤ 111 := by
  obtain ⟨a, ha, rfl⟩ := hf.nat
  obtain ⟨b, hb, rfl⟩ := ht.nat
  have h1 := part_len1 76 a (by omega)
  have h2 := part_len1 44 b (by omega)
  have h3 := tlines_len tv 0 (by omega) htv
  unfold headT
  simp; omega
theorem textD_len {kf kt : Int32} {tv : List (Int32 × Bool)} {hv : List HV} (hf : layOK kf) (ht : layOK kt) (hl : tv.length ≤ 10) (htv : ∀ t ∈ tv, tvOK t) (hh : hv.length ≤ 60) : (textD kf kt tv hv).length ≤ 2545 := by
  have h1 := headT_len hf ht hl htv
  have h2 := thits_len kf kt hv tv.length 0 (by omega)
  have h3 := csum_le hv 0 tv.length (by omega)
  unfold textD
  simp; omega

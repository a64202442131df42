/-! the reference reads: the line of layers, a tool's line -/
def RsIs (s : RS) (st : Int32) (hl : Bool) (rf rt cu : Int32) (LT : Nat → List (Int32 × Bool)) (LH : Nat → List HV) : Prop := st = nI s.1 ∧ hl = s.2.1 ∧ (s.2.1 = true → rf = s.2.2.1 ∧ rt = s.2.2.2.1) ∧ LT 1 = s.2.2.2.2.1 ∧ LH 1 = s.2.2.2.2.2.1 ∧ cu = s.2.2.2.2.2.2 ∧ s.1 ≤ 3 ∧ (s.1 = 2 → s.2.1 = true)
def RdS (D : xD) (B : Nat → Nat) (xs : List Int32) (T0 : List (Int32 × Bool)) (H0 : List HV) (F : Int32 → Int32 → Int32 → Bool → Int32 → Bool → Int32 → Int32 → Int32 → va_W) (CX : va_W) (p0 : Nat) (r : Option RS × Nat) (S : List va_W) : Prop := ∃ (ap bg wr : Int32) (me : Bool) (st : Int32) (hl : Bool) (rf rt cu : Int32) (LT : Nat → List (Int32 × Bool)) (LH : Nat → List HV) (CT CH : va_W), S = [F ap bg wr me st hl rf rt cu, CT, CH, CX] ∧ IsMT D B LT CT ∧ IsMH D B LH CH ∧ LT 0 = T0 ∧ LH 0 = H0 ∧ r.2 ≤ xs.length ∧ match r.1 with
  | none => wr = nI r.2
  | some s => wr = -1 ∧ ap = nI r.2 ∧ p0 < r.2 ∧ RsIs s st hl rf rt cu LT LH
def layR (xs : List Int32) (s : RS) (p : Nat) : Option RS × Nat := match pLayerLine xs p with
  | (none, q) => (none, q)
  | (some a, q) => (some (1, true, a.1, a.2, s.2.2.2.2.1, s.2.2.2.2.2.1, s.2.2.2.2.2.2), q)
def toolR (xs : List Int32) (s : RS) (p : Nat) : Option RS × Nat := match pToolLine xs s.2.2.2.2.1.length p with
  | (none, q) => (none, q)
  | (some a, q) => (some (1, s.2.1, s.2.2.1, s.2.2.2.1, s.2.2.2.2.1 ++ [a], s.2.2.2.2.2.1, s.2.2.2.2.2.2), q)
section MOK
variable {l : Launch} {D : xD} {R : Room} {m : Nat} {B : Nat → Nat} {xs : List Int32} {th mn la fi fe wa wn fo st rf rt cu : Int32} {hl : Bool} {CX CT CH : va_W} {p : Nat} {s : RS} {LT : Nat → List (Int32 × Bool)} {LH : Nat → List HV}
theorem ct_Mo_readLayers (iX : IsMX D B xs CX) (iT : IsMT D B LT CT) (iH : IsMH D B LH CH) (h76 : gt xs p = 76) (hs : RsIs s st hl rf rt cu LT LH) (h1 : s.1 = 1) (hr : rmOk R 3 0 0) : Ct l mMo_readLayers D R [.ref m] [sMo m B th mn la (nI xs.length) (nI p) (nI p) (-1) true fi fe wa wn fo st hl rf rt cu, CT, CH, CX] (fun v S => v = none ∧ RdS D B xs (LT 0) (LH 0) (fun ap bg wr me st hl rf rt cu => sMo m B th mn la (nI xs.length) ap bg wr me fi fe wa wn fo st hl rf rt cu) CX p (layR xs s p) S) := by
  obtain ⟨r1, r2, r3, r4⟩ := hr
  have hxl : xs.length ≤ 2000 := by
    obtain ⟨_, -, h, -⟩ := id iX
    exact h
  have hlt : p < xs.length := gt_lt (by rw [h76]; decide)
  have b1 := wS_le (s := (true, p + 1)) (xs := xs) hlt
  have b2 := eX_le (u := 44) (by decide) b1.2
  have b3 := wS_le b2.2
  have b4 := eX_le (u := 10) (by decide) b3.2
  have hmono : p < (eX xs 10 (wS xs (eX xs 44 (wS xs (true, p + 1))))).2 := by
    have := b1.1
    dsimp only at this
    omega
  obtain ⟨q1, q2⟩ := lay_pure h76
  obtain ⟨z1, z2, z3, z4, z5, z6, z7, z8⟩ := hs
  unfold layR
  generalize hQ : (fun (v : Option Value) S => v = none ∧ RdS D B xs (LT 0) (LH 0) (fun ap bg wr me st hl rf rt cu => sMo m B th mn la (nI xs.length) ap bg wr me fi fe wa wn fo st hl rf rt cu) CX p _ S) = Q
  refine Ct.of rfl (by decide) tkMo_readLayers (Nat.le_of_ble_eq_true rfl) (fun A => ?_)
  have s52 : ∀ g : Bool, g = decide (layC (nI (wV xs (true, p + 1))) (nI (wV xs (eX xs 44 (wS xs (true, p + 1)))))) → ∀ lv9 : List (Nat × Value), (∀ q ∈ [(3, Value.long (nI (wV xs (eX xs 44 (wS xs (true, p + 1))))).toInt64), (1, .long (nI (wV xs (true, p + 1))).toInt64), (0, .ref m)], q ∈ lv9) → ∀ k8 n8 : Nat, k8 ≤ 0 → n8 ≤ 0 → Ex l mMo_readLayers D R A (xQ D A Q) R.cells R.slots 52 lv9 [.int (b32 g), .ref m] [sMo m B th mn la (nI xs.length) (nI (wS xs (eX xs 44 (wS xs (true, p + 1)))).2) (nI p) (wrF (wS xs (eX xs 44 (wS xs (true, p + 1))))) true fi fe wa wn fo st hl rf rt cu, CT, CH, CX] k8 n8 := by
    intro g hg lv9 hlv k8 n8 hk8 hn8
    refine Ex.more (k' := 0) (n' := 0) hk8 hn8 ?_
    refine Ex.lv hlv ?_
    refine Ex.must  rfl rfl (by omega) (by omega) (by omega) (by omega) (by decide) ?_
    refine Ex.p rfl ?_
    refine Ex.endl (s := wS xs (eX xs 44 (wS xs (true, p + 1)))) iX b3.2 (Nat.le_of_lt hlt) rfl rfl (by omega) (by omega) (by omega) (by omega) (by decide) ?_
    generalize nI (wV xs (true, p + 1)) = va at q1 q2 hg
    generalize nI (wV xs (eX xs 44 (wS xs (true, p + 1)))) = vb at q1 q2 hg
    generalize eX xs 10 (wS xs (eX xs 44 (wS xs (true, p + 1)))) = s4 at q1 q2 b4 hmono
    obtain ⟨b, e⟩ := s4
    cases b with
    | false =>
      refine Ex.br rfl (fun c => absurd rfl c) (fun _ => ?_)
      refine Ex.vret rfl rfl (Nat.zero_le _) (Nat.zero_le _) rfl ?_
      subst hQ
      rw [q1 rfl]
      exact ⟨rfl, _, _, _, true && g, _, hl, _, _, _, LT, LH, CT, CH, rfl, iT, iH, rfl, rfl, b4.2, rfl⟩
    | true =>
      cases g with
      | false =>
        refine Ex.br rfl (fun c => absurd rfl c) (fun _ => ?_)
        refine Ex.vret rfl rfl (Nat.zero_le _) (Nat.zero_le _) rfl ?_
        subst hQ
        rw [q2 rfl, if_neg (of_decide_eq_false hg.symm)]
        exact ⟨rfl, _, _, _, false, _, hl, _, _, _, LT, LH, CT, CH, rfl, iT, iH, rfl, rfl, Nat.le_of_lt hlt, rfl⟩
      | true =>
        refine Ex.br rfl (fun _ => ?_) (fun c => absurd (show (1 : Int32) ≠ 0 by decide) c)
        refine Ex.p rfl ?_
        refine Ex.p rfl ?_
        refine Ex.pf 0 0 rfl rfl rfl rfl rfl rfl ?_
        refine Ex.p rfl ?_
        refine Ex.p rfl ?_
        refine Ex.p rfl ?_
        rw [Int32.toInt32_toInt64]
        refine Ex.pf 0 0 rfl rfl rfl rfl rfl rfl ?_
        refine Ex.p rfl ?_
        refine Ex.p rfl ?_
        refine Ex.p rfl ?_
        rw [Int32.toInt32_toInt64]
        refine Ex.pf 0 0 rfl rfl rfl rfl rfl rfl ?_
        refine Ex.vret rfl rfl (Nat.zero_le _) (Nat.zero_le _) rfl ?_
        subst hQ
        rw [q2 rfl, if_pos (of_decide_eq_true hg.symm)]
        exact ⟨rfl, _, _, _, true, _, true, _, _, _, LT, LH, CT, CH, rfl, iT, iH, rfl, rfl, b4.2, rfl, rfl, hmono, (by rw [z1, h1]), rfl, fun _ => ⟨rfl, rfl⟩, z4, z5, z6, by dsimp only; omega, fun _ => rfl⟩
  refine Ex.p rfl ?_
  refine Ex.p rfl ?_
  refine Ex.gf 0 0 rfl rfl rfl ?_
  refine Ex.p rfl ?_
  refine Ex.p rfl ?_
  rw [i_add1]
  refine Ex.pf 0 0 rfl rfl rfl rfl rfl rfl ?_
  refine Ex.p rfl ?_
  refine Ex.who (s := (true, p + 1)) iX hlt rfl rfl (by omega) (by omega) (by omega) (by omega) (by decide) ?_
  refine Ex.p rfl ?_
  refine Ex.p rfl ?_
  refine Ex.p rfl ?_
  refine Ex.xpc (u := 44) (s := wS xs (true, p + 1)) iX b1.2 rfl rfl (by omega) (by omega) (by omega) (by omega) (by decide) ?_
  refine Ex.p rfl ?_
  refine Ex.who (s := eX xs 44 (wS xs (true, p + 1))) iX b2.2 rfl rfl (by omega) (by omega) (by omega) (by omega) (by decide) ?_
  refine Ex.p rfl ?_
  refine Ex.p rfl ?_
  refine Ex.p rfl ?_
  generalize hva : nI (wV xs (true, p + 1)) = va at s52
  generalize hvb : nI (wV xs (eX xs 44 (wS xs (true, p + 1)))) = vb at s52
  have s51 : ¬ layC va vb → ∀ lv9 : List (Nat × Value), (∀ q ∈ [(3, Value.long vb.toInt64), (1, .long va.toInt64), (0, .ref m)], q ∈ lv9) → ∀ k8 n8 : Nat, k8 ≤ 0 → n8 ≤ 0 → Ex l mMo_readLayers D R A (xQ D A Q) R.cells R.slots 51 lv9 [.ref m] [sMo m B th mn la (nI xs.length) (nI (wS xs (eX xs 44 (wS xs (true, p + 1)))).2) (nI p) (wrF (wS xs (eX xs 44 (wS xs (true, p + 1))))) true fi fe wa wn fo st hl rf rt cu, CT, CH, CX] k8 n8 := by
    intro g lv9 hlv k8 n8 hk8 hn8
    refine Ex.lv hlv ?_
    refine Ex.p rfl ?_
    refine s52 false (by rw [decide_eq_false g]) _ (fun q h => ?_) _ _ hk8 hn8
    simp only [List.mem_cons, List.not_mem_nil, or_false] at h
    rcases h with rfl | rfl | rfl <;> first | (simp [xs1, xs2, lv_args, Value.category, b32, nI]; done) | (simp [xs1, xs2, lv_args, Value.category, b32, nI]; decide) | (simp [xs1, xs2, lv_args, Value.category, b32, nI]; exact Or.inr (by decide)) | (simp [xs1, xs2, lv_args, Value.category, b32, nI]; exact Or.inl (by decide))
  refine Ex.cs0 (Mc := mMo_isLayer) (Rc := rm 0 0 0) (As := [.long va.toInt64]) (rest := [.ref m]) (ct_Mo_isLayer) rfl lk_10_108 lcMo_isLayer rfl ⟨by dsimp only [rm]; omega, by show 8 + (2 + 11) + 0 ≤ R.locals; omega⟩ (Nat.le_of_ble_eq_true rfl) (by first | (dsimp only [rm]; omega) | omega) (by first | (dsimp only [rm]; omega) | omega) ?_
  rintro v S1 ⟨rfl, rfl⟩
  rw [Int32.toInt_toInt64]
  by_cases g1 : 0 ≤ va.toInt ∧ va.toInt ≤ 7
  · rw [decide_eq_true g1]
    refine Ex.br rfl (fun c => absurd c (show (1 : Int32) ≠ 0 by decide)) (fun _ => ?_)
    refine Ex.p rfl ?_
    refine Ex.cs0 (Mc := mMo_isLayer) (Rc := rm 0 0 0) (As := [.long vb.toInt64]) (rest := [.ref m]) (ct_Mo_isLayer) rfl lk_10_108 lcMo_isLayer rfl ⟨by dsimp only [rm]; omega, by show 8 + (2 + 11) + 0 ≤ R.locals; omega⟩ (Nat.le_of_ble_eq_true rfl) (by first | (dsimp only [rm]; omega) | omega) (by first | (dsimp only [rm]; omega) | omega) ?_
    rintro v S1 ⟨rfl, rfl⟩
    rw [Int32.toInt_toInt64]
    by_cases g2 : 0 ≤ vb.toInt ∧ vb.toInt ≤ 7
    · rw [decide_eq_true g2]
      refine Ex.br rfl (fun c => absurd c (show (1 : Int32) ≠ 0 by decide)) (fun _ => ?_)
      refine Ex.p rfl ?_
      refine Ex.p rfl ?_
      refine Ex.p rfl ?_
      refine Ex.br rfl (fun c => ?_) (fun c => ?_)
      · rw [lg_cmp_gt, lt64] at c
        refine s51 (fun q => by have := q.2.2; rw [Int32.le_iff_toInt_le] at this; rw [Int32.lt_iff_toInt_lt] at c; omega) _ (fun q h => ?_) _ _ (by first | (dsimp only [rm]; omega) | omega) (by first | (dsimp only [rm]; omega) | omega)
        simp only [List.mem_cons, List.not_mem_nil, or_false] at h
        rcases h with rfl | rfl | rfl <;> first | (simp [xs1, xs2, lv_args, Value.category, b32, nI]; done) | (simp [xs1, xs2, lv_args, Value.category, b32, nI]; decide) | (simp [xs1, xs2, lv_args, Value.category, b32, nI]; exact Or.inr (by decide)) | (simp [xs1, xs2, lv_args, Value.category, b32, nI]; exact Or.inl (by decide))
      · rw [lg_cmp_gt, lt64] at c
        refine Ex.p rfl ?_
        refine Ex.p rfl ?_
        refine s52 true (by rw [decide_eq_true]; exact ⟨g1, g2, by rw [Int32.le_iff_toInt_le]; rw [Int32.lt_iff_toInt_lt] at c; omega⟩) _ (fun q h => ?_) _ _ (by first | (dsimp only [rm]; omega) | omega) (by first | (dsimp only [rm]; omega) | omega)
        simp only [List.mem_cons, List.not_mem_nil, or_false] at h
        rcases h with rfl | rfl | rfl <;> first | (simp [xs1, xs2, lv_args, Value.category, b32, nI]; done) | (simp [xs1, xs2, lv_args, Value.category, b32, nI]; decide) | (simp [xs1, xs2, lv_args, Value.category, b32, nI]; exact Or.inr (by decide)) | (simp [xs1, xs2, lv_args, Value.category, b32, nI]; exact Or.inl (by decide))
    · rw [decide_eq_false g2]
      refine Ex.br rfl (fun _ => ?_) (fun c => absurd rfl c)
      refine s51 (fun q => g2 q.2.1) _ (fun q h => ?_) _ _ (by first | (dsimp only [rm]; omega) | omega) (by first | (dsimp only [rm]; omega) | omega)
      simp only [List.mem_cons, List.not_mem_nil, or_false] at h
      rcases h with rfl | rfl | rfl <;> first | (simp [xs1, xs2, lv_args, Value.category, b32, nI]; done) | (simp [xs1, xs2, lv_args, Value.category, b32, nI]; decide) | (simp [xs1, xs2, lv_args, Value.category, b32, nI]; exact Or.inr (by decide)) | (simp [xs1, xs2, lv_args, Value.category, b32, nI]; exact Or.inl (by decide))
  · rw [decide_eq_false g1]
    refine Ex.br rfl (fun _ => ?_) (fun c => absurd rfl c)
    refine s51 (fun q => g1 q.1) _ (fun q h => ?_) _ _ (by first | (dsimp only [rm]; omega) | omega) (by first | (dsimp only [rm]; omega) | omega)
    simp only [List.mem_cons, List.not_mem_nil, or_false] at h
    rcases h with rfl | rfl | rfl <;> first | (simp [xs1, xs2, lv_args, Value.category, b32, nI]; done) | (simp [xs1, xs2, lv_args, Value.category, b32, nI]; decide) | (simp [xs1, xs2, lv_args, Value.category, b32, nI]; exact Or.inr (by decide)) | (simp [xs1, xs2, lv_args, Value.category, b32, nI]; exact Or.inl (by decide))
end MOK

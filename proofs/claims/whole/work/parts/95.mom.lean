/-! the reference reads: a line -/
def choR (xs : List Int32) (s : RS) (p : Nat) : Option RS × Nat := match pChoice xs s.2.2.2.2.1.length p with
  | (none, q) => (none, q)
  | (some c, q) => (some (2, s.2.1, s.2.2.1, s.2.2.2.1, s.2.2.2.2.1, s.2.2.2.2.2.1, c), q)
def litR (xs : List Int32) (cs : List Int32) (n : Nat) (s : RS) (p : Nat) : Option RS × Nat := match pLit xs cs p with
  | (false, q) => (none, q)
  | (true, q) => (some (n, s.2.1, s.2.2.1, s.2.2.2.1, s.2.2.2.2.1, s.2.2.2.2.2.1, s.2.2.2.2.2.2), q)
theorem pStep_0 {xs : List Int32} {s : RS} {p : Nat} (h : s.1 = 0) : pStep xs s p = litR xs [77, 52, 56, 10] 1 s p := by
  obtain ⟨st, hl, f, t, tv, hv, ch⟩ := s
  have h : st = 0 := h
  subst h
  rfl
theorem pStep_1 {xs : List Int32} {s : RS} {p : Nat} (h : s.1 = 1) : pStep xs s p = if gt xs p = 76 ∧ s.2.2.2.2.1 = [] then layR xs s p else if gt xs p = 84 ∧ s.2.1 = true then toolR xs s p else if gt xs p = 37 ∧ s.2.1 = true then litR xs [37, 10] 2 s p else (none, p) := by
  obtain ⟨st, hl, f, t, tv, hv, ch⟩ := s
  have h : st = 1 := h
  subst h
  rfl
theorem pStep_2 {xs : List Int32} {s : RS} {p : Nat} (h : s.1 = 2) : pStep xs s p = if gt xs p = 84 then choR xs s p else if gt xs p = 88 ∧ s.2.2.2.2.2.2 ≠ -1 then hitR xs s p else litR xs [77, 51, 48, 10] 3 s p := by
  obtain ⟨st, hl, f, t, tv, hv, ch⟩ := s
  have h : st = 2 := h
  subst h
  rfl
theorem pStep_end {xs : List Int32} {s : RS} (h : s.1 < 3) : pStep xs s xs.length = (none, xs.length) := by
  have e := gt_end (Nat.le_refl xs.length)
  rcases Nat.lt_or_ge s.1 1 with h0 | h0
  · rw [pStep_0 (by omega)]
    unfold litR pLit
    rw [e]
    rfl
  · rcases Nat.lt_or_ge s.1 2 with h9 | h9
    · rw [pStep_1 (by omega), e, if_neg (fun q => absurd q.1 (by decide)), if_neg (fun q => absurd q.1 (by decide)), if_neg (fun q => absurd q.1 (by decide))]
    · rw [pStep_2 (by omega), e, if_neg (by decide), if_neg (fun q => absurd q.1 (by decide))]
      unfold litR pLit
      rw [e]
      rfl
def rlR (xs : List Int32) (s : RS) (p : Nat) : Option RS × Nat := if s.1 = 3 then (none, p) else pStep xs s p
section MON
variable {l : Launch} {D : xD} {R : Room} {m : Nat} {B : Nat → Nat} {xs : List Int32} {th mn la fi fe wa wn fo st rf rt cu : Int32} {hl : Bool} {CX CT CH : va_W} {p : Nat} {s : RS} {LT : Nat → List (Int32 × Bool)} {LH : Nat → List HV}
theorem ct_Mo_readFirst (iX : IsMX D B xs CX) (iT : IsMT D B LT CT) (iH : IsMH D B LH CH) (hp : p < xs.length) (hs : RsIs s st hl rf rt cu LT LH) (h1 : s.1 = 1) (hr : rmOk R 4 0 0) : Ct l mMo_readFirst D R [.ref m] [sMo m B th mn la (nI xs.length) (nI p) (nI p) (-1) true fi fe wa wn fo st hl rf rt cu, CT, CH, CX] (fun v S => v = none ∧ RdS D B xs (LT 0) (LH 0) (fun ap bg wr me st hl rf rt cu => sMo m B th mn la (nI xs.length) ap bg wr me fi fe wa wn fo st hl rf rt cu) CX p (pStep xs s p) S) := by
  obtain ⟨r1, r2, r3, r4⟩ := hr
  obtain ⟨gT, gD, gP, eT, hsT⟩ := id iT
  obtain ⟨t1, t2, -⟩ := hsT 1 (by omega)
  obtain ⟨z1, z2, z3, z4, z5, z6, z7, z8⟩ := id hs
  have hP := pStep_1 (xs := xs) (p := p) h1
  rw [← z4, ← z2] at hP
  generalize pStep xs s p = P at hP
  generalize hQ : (fun (v : Option Value) S => v = none ∧ RdS D B xs (LT 0) (LH 0) (fun ap bg wr me st hl rf rt cu => sMo m B th mn la (nI xs.length) ap bg wr me fi fe wa wn fo st hl rf rt cu) CX p P S) = Q
  refine Ct.of rfl (by decide) tkMo_readFirst (Nat.le_of_ble_eq_true rfl) (fun A => ?_)
  have s85 : P = (none, p) → ∀ lv9 : List (Nat × Value), (∀ q ∈ [(0, Value.ref m)], q ∈ lv9) → Ex l mMo_readFirst D R A (xQ D A Q) R.cells R.slots 85 lv9 [] [sMo m B th mn la (nI xs.length) (nI p) (nI p) (-1) true fi fe wa wn fo st hl rf rt cu, CT, CH, CX] 0 0 := by
    intro e lv9 hlv
    refine Ex.lv hlv ?_
    refine Ex.p rfl ?_
    refine Ex.p rfl ?_
    refine Ex.gf 0 0 rfl rfl rfl ?_
    refine Ex.pf 0 0 rfl rfl rfl rfl rfl rfl ?_
    refine Ex.vret rfl rfl (Nat.zero_le _) (Nat.zero_le _) rfl ?_
    subst hQ
    rw [e]
    exact ⟨rfl, _, _, _, true, _, hl, _, _, _, LT, LH, CT, CH, rfl, iT, iH, rfl, rfl, Nat.le_of_lt hp, rfl⟩
  have s47 : P = (if gt xs p = 37 ∧ hl = true then litR xs [37, 10] 2 s p else (none, p)) → ∀ lv9 : List (Nat × Value), (∀ q ∈ [(1, Value.int (gt xs p)), (0, .ref m)], q ∈ lv9) → Ex l mMo_readFirst D R A (xQ D A Q) R.cells R.slots 47 lv9 [] [sMo m B th mn la (nI xs.length) (nI p) (nI p) (-1) true fi fe wa wn fo st hl rf rt cu, CT, CH, CX] 0 0 := by
    intro e lv9 hlv
    refine Ex.lv hlv ?_
    refine Ex.p rfl ?_
    refine Ex.p rfl ?_
    refine Ex.br rfl (fun c => ?_) (fun c => ?_)
    · have c : ¬ gt xs p = 37 := c
      rw [if_neg (fun q => c q.1)] at e
      refine s85 e _ (fun q h => ?_)
      simp only [List.mem_cons, List.not_mem_nil, or_false] at h
      rcases h with rfl <;> first | (simp [xs1, xs2, lv_args, Value.category, b32, nI]; done) | (simp [xs1, xs2, lv_args, Value.category, b32, nI]; decide) | (simp [xs1, xs2, lv_args, Value.category, b32, nI]; exact Or.inr (by decide)) | (simp [xs1, xs2, lv_args, Value.category, b32, nI]; exact Or.inl (by decide))
    · have c : ¬ ¬ gt xs p = 37 := c
      have c := Decidable.not_not.mp c
      refine Ex.p rfl ?_
      refine Ex.gf 0 0 rfl rfl rfl ?_
      cases hl with
      | false =>
        rw [if_neg (fun q => by cases q.2)] at e
        refine Ex.br rfl (fun _ => ?_) (fun c => absurd rfl c)
        refine s85 e _ (fun q h => ?_)
        simp only [List.mem_cons, List.not_mem_nil, or_false] at h
        rcases h with rfl <;> first | (simp [xs1, xs2, lv_args, Value.category, b32, nI]; done) | (simp [xs1, xs2, lv_args, Value.category, b32, nI]; decide) | (simp [xs1, xs2, lv_args, Value.category, b32, nI]; exact Or.inr (by decide)) | (simp [xs1, xs2, lv_args, Value.category, b32, nI]; exact Or.inl (by decide))
      | true =>
        rw [if_pos ⟨c, rfl⟩] at e
        unfold litR at e
        rw [pLit2, eX_yes c] at e
        refine Ex.br rfl (fun c => absurd c (show (1 : Int32) ≠ 0 by decide)) (fun _ => ?_)
        refine Ex.p rfl ?_
        refine Ex.p rfl ?_
        refine Ex.gf 0 0 rfl rfl rfl ?_
        refine Ex.p rfl ?_
        refine Ex.p rfl ?_
        rw [i_add1]
        refine Ex.pf 0 0 rfl rfl rfl rfl rfl rfl ?_
        refine Ex.p rfl ?_
        refine Ex.endl (s := (true, p + 1)) iX hp (Nat.le_of_lt hp) rfl rfl (by omega) (by omega) (by omega) (by omega) (by decide) ?_
        have b5 := eX_le (xs := xs) (u := 10) (s := (true, p + 1)) (by decide) hp
        generalize eX xs 10 (true, p + 1) = s5 at b5 e
        obtain ⟨b, e9⟩ := s5
        dsimp only at b5
        cases b with
        | false =>
          refine Ex.br rfl (fun _ => ?_) (fun c => absurd rfl c)
          refine Ex.vret rfl rfl (Nat.zero_le _) (Nat.zero_le _) rfl ?_
          subst hQ
          rw [e]
          exact ⟨rfl, _, _, _, true, _, true, _, _, _, LT, LH, CT, CH, rfl, iT, iH, rfl, rfl, b5.2, rfl⟩
        | true =>
          refine Ex.br rfl (fun c => absurd c (show (1 : Int32) ≠ 0 by decide)) (fun _ => ?_)
          refine Ex.p rfl ?_
          refine Ex.p rfl ?_
          refine Ex.pf 0 0 rfl rfl rfl rfl rfl rfl ?_
          refine Ex.p rfl ?_
          refine Ex.vret rfl rfl (Nat.zero_le _) (Nat.zero_le _) rfl ?_
          subst hQ
          rw [e]
          exact ⟨rfl, _, _, _, true, _, true, _, _, _, LT, LH, CT, CH, rfl, iT, iH, rfl, rfl, b5.2, rfl, rfl, (by dsimp only; omega), rfl, z2, z3, z4, z5, z6, (by dsimp only; omega), fun _ => z2.symm⟩
  have s27 : P = (if gt xs p = 84 ∧ hl = true then toolR xs s p else if gt xs p = 37 ∧ hl = true then litR xs [37, 10] 2 s p else (none, p)) → ∀ lv9 : List (Nat × Value), (∀ q ∈ [(1, Value.int (gt xs p)), (0, .ref m)], q ∈ lv9) → Ex l mMo_readFirst D R A (xQ D A Q) R.cells R.slots 27 lv9 [] [sMo m B th mn la (nI xs.length) (nI p) (nI p) (-1) true fi fe wa wn fo st hl rf rt cu, CT, CH, CX] 0 0 := by
    intro e lv9 hlv
    refine Ex.lv hlv ?_
    refine Ex.p rfl ?_
    refine Ex.p rfl ?_
    refine Ex.br rfl (fun c => ?_) (fun c => ?_)
    · have c : ¬ gt xs p = 84 := c
      rw [if_neg (fun q => c q.1)] at e
      refine s47 e _ (fun q h => ?_)
      simp only [List.mem_cons, List.not_mem_nil, or_false] at h
      rcases h with rfl | rfl <;> first | (simp [xs1, xs2, lv_args, Value.category, b32, nI]; done) | (simp [xs1, xs2, lv_args, Value.category, b32, nI]; decide) | (simp [xs1, xs2, lv_args, Value.category, b32, nI]; exact Or.inr (by decide)) | (simp [xs1, xs2, lv_args, Value.category, b32, nI]; exact Or.inl (by decide))
    · have c : ¬ ¬ gt xs p = 84 := c
      have c := Decidable.not_not.mp c
      refine Ex.p rfl ?_
      refine Ex.gf 0 0 rfl rfl rfl ?_
      cases hl with
      | false =>
        rw [if_neg (fun q => by cases q.2)] at e
        refine Ex.br rfl (fun _ => ?_) (fun c => absurd rfl c)
        refine s47 e _ (fun q h => ?_)
        simp only [List.mem_cons, List.not_mem_nil, or_false] at h
        rcases h with rfl | rfl <;> first | (simp [xs1, xs2, lv_args, Value.category, b32, nI]; done) | (simp [xs1, xs2, lv_args, Value.category, b32, nI]; decide) | (simp [xs1, xs2, lv_args, Value.category, b32, nI]; exact Or.inr (by decide)) | (simp [xs1, xs2, lv_args, Value.category, b32, nI]; exact Or.inl (by decide))
      | true =>
        rw [if_pos ⟨c, rfl⟩] at e
        refine Ex.br rfl (fun c => absurd c (show (1 : Int32) ≠ 0 by decide)) (fun _ => ?_)
        refine Ex.p rfl ?_
        refine Ex.cv (Mc := mMo_readTool) (Rc := rm 3 0 0) (As := []) (rest := []) (Sr := []) (ic := 0) (jc := 0) (ci := 10) [0, 1, 2, 3] [] (ct_Mo_readTool iX iT iH c hs h1 (rm_ok _ _ _)) rfl lk_10_224 lcMo_readTool rfl rfl rfl rfl rfl (by decide) rfl rfl rfl (by decide) ⟨by dsimp only [rm]; omega, by show 8 + (6 + 11) + 120 ≤ R.locals; omega⟩ (Nat.le_of_ble_eq_true rfl) (by first | (dsimp only [rm]; omega) | omega) (by first | (dsimp only [rm]; omega) | omega) ?_
        rintro v S1 ⟨rfl, hS1⟩
        refine Ex.p rfl ?_
        refine Ex.vret rfl rfl (by first | (dsimp only [rm]; omega) | omega) (by first | (dsimp only [rm]; omega) | omega) rfl ?_
        subst hQ
        rw [e]
        exact ⟨rfl, hS1⟩
  refine Ex.p rfl ?_
  refine Ex.now (p := p) iX (Nat.le_of_lt hp) rfl rfl (by omega) (by omega) (by omega) (by omega) (by decide) ?_
  refine Ex.p rfl ?_
  refine Ex.p rfl ?_
  refine Ex.p rfl ?_
  refine Ex.br rfl (fun c => ?_) (fun c => ?_)
  · have c : ¬ gt xs p = 76 := c
    rw [if_neg (fun q => c q.1)] at hP
    refine s27 hP _ (fun q h => ?_)
    simp only [List.mem_cons, List.not_mem_nil, or_false] at h
    rcases h with rfl | rfl <;> first | (simp [xs1, xs2, lv_args, Value.category, b32, nI]; done) | (simp [xs1, xs2, lv_args, Value.category, b32, nI]; decide) | (simp [xs1, xs2, lv_args, Value.category, b32, nI]; exact Or.inr (by decide)) | (simp [xs1, xs2, lv_args, Value.category, b32, nI]; exact Or.inl (by decide))
  · have c : ¬ ¬ gt xs p = 76 := c
    have c := Decidable.not_not.mp c
    refine Ex.p rfl ?_
    refine Ex.gf 0 0 rfl rfl rfl ?_
    refine Ex.p rfl ?_
    refine Ex.ial 1 0 1 rfl (by rw [eT]; rfl) rfl rfl (by decide) ?_
    rw [t1]
    refine Ex.br rfl (fun c1 => ?_) (fun c1 => ?_)
    · have c1 : ¬ nI (LT 1).length = nI 0 := c1
      rw [nI_eq (by omega) (by omega)] at c1
      rw [if_neg (fun q => c1 (by rw [q.2]; rfl))] at hP
      refine s27 hP _ (fun q h => ?_)
      simp only [List.mem_cons, List.not_mem_nil, or_false] at h
      rcases h with rfl | rfl <;> first | (simp [xs1, xs2, lv_args, Value.category, b32, nI]; done) | (simp [xs1, xs2, lv_args, Value.category, b32, nI]; decide) | (simp [xs1, xs2, lv_args, Value.category, b32, nI]; exact Or.inr (by decide)) | (simp [xs1, xs2, lv_args, Value.category, b32, nI]; exact Or.inl (by decide))
    · have c1 : ¬ ¬ nI (LT 1).length = nI 0 := c1
      have c1 := Decidable.not_not.mp c1
      rw [nI_eq (by omega) (by omega)] at c1
      rw [if_pos ⟨c, List.eq_nil_of_length_eq_zero c1⟩] at hP
      refine Ex.p rfl ?_
      refine Ex.cv (Mc := mMo_readLayers) (Rc := rm 3 0 0) (As := []) (rest := []) (Sr := []) (ic := 0) (jc := 0) (ci := 10) [0, 1, 2, 3] [] (ct_Mo_readLayers iX iT iH c hs h1 (rm_ok _ _ _)) rfl lk_10_221 lcMo_readLayers rfl rfl rfl rfl rfl (by decide) rfl rfl rfl (by decide) ⟨by dsimp only [rm]; omega, by show 8 + (5 + 11) + 120 ≤ R.locals; omega⟩ (Nat.le_of_ble_eq_true rfl) (by first | (dsimp only [rm]; omega) | omega) (by first | (dsimp only [rm]; omega) | omega) ?_
      rintro v S1 ⟨rfl, hS1⟩
      refine Ex.p rfl ?_
      refine Ex.vret rfl rfl (by first | (dsimp only [rm]; omega) | omega) (by first | (dsimp only [rm]; omega) | omega) rfl ?_
      subst hQ
      rw [hP]
      exact ⟨rfl, hS1⟩
theorem ct_Mo_readSecond (iX : IsMX D B xs CX) (iT : IsMT D B LT CT) (iH : IsMH D B LH CH) (hp : p < xs.length) (hs : RsIs s st hl rf rt cu LT LH) (h1 : s.1 = 2) (hr : rmOk R 5 0 0) : Ct l mMo_readSecond D R [.ref m] [sMo m B th mn la (nI xs.length) (nI p) (nI p) (-1) true fi fe wa wn fo st hl rf rt cu, CT, CH, CX] (fun v S => v = none ∧ RdS D B xs (LT 0) (LH 0) (fun ap bg wr me st hl rf rt cu => sMo m B th mn la (nI xs.length) ap bg wr me fi fe wa wn fo st hl rf rt cu) CX p (pStep xs s p) S) := by
  obtain ⟨r1, r2, r3, r4⟩ := hr
  obtain ⟨gT, gD, gP, eT, hsT⟩ := id iT
  obtain ⟨t1, t2, -⟩ := hsT 1 (by omega)
  obtain ⟨z1, z2, z3, z4, z5, z6, z7, z8⟩ := id hs
  have hP := pStep_2 (xs := xs) (p := p) h1
  rw [← z6] at hP
  generalize pStep xs s p = P at hP
  generalize hQ : (fun (v : Option Value) S => v = none ∧ RdS D B xs (LT 0) (LH 0) (fun ap bg wr me st hl rf rt cu => sMo m B th mn la (nI xs.length) ap bg wr me fi fe wa wn fo st hl rf rt cu) CX p P S) = Q
  refine Ct.of rfl (by decide) tkMo_readSecond (Nat.le_of_ble_eq_true rfl) (fun A => ?_)
  have s84 : P = litR xs [77, 51, 48, 10] 3 s p → ∀ lv9 : List (Nat × Value), (∀ q ∈ [(0, Value.ref m)], q ∈ lv9) → Ex l mMo_readSecond D R A (xQ D A Q) R.cells R.slots 84 lv9 [] [sMo m B th mn la (nI xs.length) (nI p) (nI p) (-1) true fi fe wa wn fo st hl rf rt cu, CT, CH, CX] 0 0 := by
    intro e lv9 hlv
    refine Ex.lv hlv ?_
    unfold litR at e
    rw [pLit4] at e
    have b1 := eX_le (xs := xs) (u := 77) (s := (true, p)) (by decide) (Nat.le_of_lt hp)
    have b2 := eX_le (xs := xs) (u := 51) (by decide) b1.2
    have b3 := eX_le (xs := xs) (u := 48) (by decide) b2.2
    have b4 := eX_le (xs := xs) (u := 10) (by decide) b3.2
    have hmo : (eX xs 10 (eX xs 48 (eX xs 51 (eX xs 77 (true, p))))).1 = true → p < (eX xs 10 (eX xs 48 (eX xs 51 (eX xs 77 (true, p))))).2 := by
      intro q
      by_cases g : gt xs p = 77
      · rw [eX_yes g] at b1 b2 b3 b4 ⊢
        dsimp only at b1 b2
        omega
      · rw [eX_no g] at q
        cases q
    refine Ex.p rfl ?_
    refine Ex.p rfl ?_
    refine Ex.xpc (u := 77) (s := (true, p)) iX (Nat.le_of_lt hp) rfl rfl (by omega) (by omega) (by omega) (by omega) (by decide) ?_
    refine Ex.p rfl ?_
    refine Ex.p rfl ?_
    refine Ex.xpc (u := 51) (s := eX xs 77 (true, p)) iX b1.2 rfl rfl (by omega) (by omega) (by omega) (by omega) (by decide) ?_
    refine Ex.p rfl ?_
    refine Ex.p rfl ?_
    refine Ex.xpc (u := 48) (s := eX xs 51 (eX xs 77 (true, p))) iX b2.2 rfl rfl (by omega) (by omega) (by omega) (by omega) (by decide) ?_
    refine Ex.p rfl ?_
    refine Ex.endl (s := eX xs 48 (eX xs 51 (eX xs 77 (true, p)))) iX b3.2 (Nat.le_of_lt hp) rfl rfl (by omega) (by omega) (by omega) (by omega) (by decide) ?_
    generalize eX xs 10 (eX xs 48 (eX xs 51 (eX xs 77 (true, p)))) = s5 at b4 e hmo
    obtain ⟨b, e9⟩ := s5
    cases b with
    | false =>
      refine Ex.br rfl (fun _ => ?_) (fun c => absurd rfl c)
      refine Ex.vret rfl rfl (Nat.zero_le _) (Nat.zero_le _) rfl ?_
      subst hQ
      rw [e]
      exact ⟨rfl, _, _, _, true, _, hl, _, _, _, LT, LH, CT, CH, rfl, iT, iH, rfl, rfl, b4.2, rfl⟩
    | true =>
      refine Ex.br rfl (fun c => absurd c (show (1 : Int32) ≠ 0 by decide)) (fun _ => ?_)
      refine Ex.p rfl ?_
      refine Ex.p rfl ?_
      refine Ex.pf 0 0 rfl rfl rfl rfl rfl rfl ?_
      refine Ex.vret rfl rfl (Nat.zero_le _) (Nat.zero_le _) rfl ?_
      subst hQ
      rw [e]
      exact ⟨rfl, _, _, _, true, _, hl, _, _, _, LT, LH, CT, CH, rfl, iT, iH, rfl, rfl, b4.2, rfl, rfl, hmo rfl, rfl, z2, z3, z4, z5, z6, (by dsimp only; omega), fun q => by dsimp only at q; omega⟩
  have s63 : ¬ gt xs p = 84 → ∀ lv9 : List (Nat × Value), (∀ q ∈ [(1, Value.int (gt xs p)), (0, .ref m)], q ∈ lv9) → Ex l mMo_readSecond D R A (xQ D A Q) R.cells R.slots 63 lv9 [] [sMo m B th mn la (nI xs.length) (nI p) (nI p) (-1) true fi fe wa wn fo st hl rf rt cu, CT, CH, CX] 0 0 := by
    intro g lv9 hlv
    rw [if_neg g] at hP
    refine Ex.lv hlv ?_
    refine Ex.p rfl ?_
    refine Ex.p rfl ?_
    refine Ex.br rfl (fun c => ?_) (fun c => ?_)
    · have c : ¬ gt xs p = 88 := c
      rw [if_neg (fun q => c q.1)] at hP
      refine s84 hP _ (fun q h => ?_)
      simp only [List.mem_cons, List.not_mem_nil, or_false] at h
      rcases h with rfl <;> first | (simp [xs1, xs2, lv_args, Value.category, b32, nI]; done) | (simp [xs1, xs2, lv_args, Value.category, b32, nI]; decide) | (simp [xs1, xs2, lv_args, Value.category, b32, nI]; exact Or.inr (by decide)) | (simp [xs1, xs2, lv_args, Value.category, b32, nI]; exact Or.inl (by decide))
    · have c : ¬ ¬ gt xs p = 88 := c
      have c := Decidable.not_not.mp c
      refine Ex.p rfl ?_
      refine Ex.gf 0 0 rfl rfl rfl ?_
      refine Ex.p rfl ?_
      refine Ex.br rfl (fun c1 => ?_) (fun c1 => ?_)
      · have c1 : cu = -1 := c1
        rw [if_neg (fun q => q.2 c1)] at hP
        refine s84 hP _ (fun q h => ?_)
        simp only [List.mem_cons, List.not_mem_nil, or_false] at h
        rcases h with rfl <;> first | (simp [xs1, xs2, lv_args, Value.category, b32, nI]; done) | (simp [xs1, xs2, lv_args, Value.category, b32, nI]; decide) | (simp [xs1, xs2, lv_args, Value.category, b32, nI]; exact Or.inr (by decide)) | (simp [xs1, xs2, lv_args, Value.category, b32, nI]; exact Or.inl (by decide))
      · have c1 : ¬ cu = -1 := c1
        rw [if_pos ⟨c, c1⟩] at hP
        refine Ex.p rfl ?_
        refine Ex.cv (Mc := mMo_readHit) (Rc := rm 4 0 0) (As := []) (rest := []) (Sr := []) (ic := 0) (jc := 0) (ci := 10) [0, 1, 2, 3] [] (ct_Mo_readHit iX iT iH c hs h1 (rm_ok _ _ _)) rfl lk_10_236 lcMo_readHit rfl rfl rfl rfl rfl (by decide) rfl rfl rfl (by decide) ⟨by dsimp only [rm]; omega, by show 8 + (10 + 11) + 160 ≤ R.locals; omega⟩ (Nat.le_of_ble_eq_true rfl) (by first | (dsimp only [rm]; omega) | omega) (by first | (dsimp only [rm]; omega) | omega) ?_
        rintro v S1 ⟨rfl, hS1⟩
        refine Ex.p rfl ?_
        refine Ex.vret rfl rfl (by first | (dsimp only [rm]; omega) | omega) (by first | (dsimp only [rm]; omega) | omega) rfl ?_
        subst hQ
        rw [hP]
        exact ⟨rfl, hS1⟩
  refine Ex.p rfl ?_
  refine Ex.now (p := p) iX (Nat.le_of_lt hp) rfl rfl (by omega) (by omega) (by omega) (by omega) (by decide) ?_
  refine Ex.p rfl ?_
  refine Ex.p rfl ?_
  refine Ex.p rfl ?_
  refine Ex.br rfl (fun c => ?_) (fun c => ?_)
  · have c : ¬ gt xs p = 84 := c
    refine s63 c _ (fun q h => ?_)
    simp only [List.mem_cons, List.not_mem_nil, or_false] at h
    rcases h with rfl | rfl <;> first | (simp [xs1, xs2, lv_args, Value.category, b32, nI]; done) | (simp [xs1, xs2, lv_args, Value.category, b32, nI]; decide) | (simp [xs1, xs2, lv_args, Value.category, b32, nI]; exact Or.inr (by decide)) | (simp [xs1, xs2, lv_args, Value.category, b32, nI]; exact Or.inl (by decide))
  · have c : ¬ ¬ gt xs p = 84 := c
    have c := Decidable.not_not.mp c
    rw [if_pos c] at hP
    unfold choR at hP
    rw [← z4] at hP
    obtain ⟨q1, q2⟩ := choice_pure (n := (LT 1).length) c
    have b1 := wS_le (s := (true, p + 1)) (xs := xs) hp
    have b2 := eX_le (u := 10) (by decide) b1.2
    have hmono : p < (eX xs 10 (wS xs (true, p + 1))).2 := by
      have := b1.1
      dsimp only at this
      omega
    refine Ex.p rfl ?_
    refine Ex.p rfl ?_
    refine Ex.gf 0 0 rfl rfl rfl ?_
    refine Ex.p rfl ?_
    refine Ex.p rfl ?_
    rw [i_add1]
    refine Ex.pf 0 0 rfl rfl rfl rfl rfl rfl ?_
    refine Ex.p rfl ?_
    refine Ex.who (s := (true, p + 1)) iX hp rfl rfl (by omega) (by omega) (by omega) (by omega) (by decide) ?_
    have hv9 := wV_lt (xs := xs) (s := (true, p + 1))
    generalize wV xs (true, p + 1) = vt at q2 hv9
    rw [nI_toInt (n := vt) (by omega)] at q2
    have s44 : ∀ g : Bool, g = decide (0 ≤ (vt : Int) ∧ (vt : Int) < (LT 1).length) → ∀ lv9 : List (Nat × Value), (∀ q ∈ [(2, Value.long (nI vt).toInt64), (0, .ref m)], q ∈ lv9) → Ex l mMo_readSecond D R A (xQ D A Q) R.cells R.slots 44 lv9 [.int (b32 g), .ref m] [sMo m B th mn la (nI xs.length) (nI (wS xs (true, p + 1)).2) (nI p) (wrF (wS xs (true, p + 1))) true fi fe wa wn fo st hl rf rt cu, CT, CH, CX] 0 0 := by
      intro g hg lv9 hlv
      refine Ex.lv hlv ?_
      refine Ex.must  rfl rfl (by omega) (by omega) (by omega) (by omega) (by decide) ?_
      refine Ex.p rfl ?_
      refine Ex.endl (s := wS xs (true, p + 1)) iX b1.2 (Nat.le_of_lt hp) rfl rfl (by omega) (by omega) (by omega) (by omega) (by decide) ?_
      generalize eX xs 10 (wS xs (true, p + 1)) = s5 at b2 q1 q2 hmono
      obtain ⟨b, e9⟩ := s5
      cases b with
      | false =>
        refine Ex.br rfl (fun _ => ?_) (fun c => absurd rfl c)
        refine Ex.p rfl ?_
        refine Ex.vret rfl rfl (Nat.zero_le _) (Nat.zero_le _) rfl ?_
        subst hQ
        rw [hP, q1 rfl]
        exact ⟨rfl, _, _, _, true && g, _, hl, _, _, _, LT, LH, CT, CH, rfl, iT, iH, rfl, rfl, b2.2, rfl⟩
      | true =>
        cases g with
        | false =>
          refine Ex.br rfl (fun _ => ?_) (fun c => absurd rfl c)
          refine Ex.p rfl ?_
          refine Ex.vret rfl rfl (Nat.zero_le _) (Nat.zero_le _) rfl ?_
          subst hQ
          rw [hP, q2 rfl, if_neg (of_decide_eq_false hg.symm)]
          exact ⟨rfl, _, _, _, false, _, hl, _, _, _, LT, LH, CT, CH, rfl, iT, iH, rfl, rfl, Nat.le_of_lt hp, rfl⟩
        | true =>
          refine Ex.br rfl (fun c => absurd c (show (1 : Int32) ≠ 0 by decide)) (fun _ => ?_)
          refine Ex.p rfl ?_
          refine Ex.p rfl ?_
          refine Ex.p rfl ?_
          rw [Int32.toInt32_toInt64]
          refine Ex.pf 0 0 rfl rfl rfl rfl rfl rfl ?_
          refine Ex.p rfl ?_
          refine Ex.vret rfl rfl (Nat.zero_le _) (Nat.zero_le _) rfl ?_
          subst hQ
          rw [hP, q2 rfl, if_pos (of_decide_eq_true hg.symm)]
          exact ⟨rfl, _, _, _, true, _, hl, _, _, _, LT, LH, CT, CH, rfl, iT, iH, rfl, rfl, b2.2, rfl, rfl, hmono, (by rw [z1, h1]), z2, z3, rfl, z5, rfl, (by dsimp only; omega), fun _ => z8 h1⟩
    refine Ex.p rfl ?_
    refine Ex.p rfl ?_
    refine Ex.p rfl ?_
    refine Ex.p rfl ?_
    refine Ex.gf 0 0 rfl rfl rfl ?_
    refine Ex.p rfl ?_
    refine Ex.ial 1 0 1 rfl (by rw [eT]; rfl) rfl rfl (by decide) ?_
    rw [t1]
    refine Ex.p rfl ?_
    refine Ex.p rfl ?_
    refine Ex.br rfl (fun c1 => ?_) (fun c1 => ?_)
    · rw [lg_cmp_ge, le64, nI_leI (by omega) (by omega)] at c1
      refine Ex.p rfl ?_
      refine s44 false (by rw [decide_eq_false (by omega)]) _ (fun q h => ?_)
      simp only [List.mem_cons, List.not_mem_nil, or_false] at h
      rcases h with rfl | rfl <;> first | (simp [xs1, xs2, lv_args, Value.category, b32, nI]; done) | (simp [xs1, xs2, lv_args, Value.category, b32, nI]; decide) | (simp [xs1, xs2, lv_args, Value.category, b32, nI]; exact Or.inr (by decide)) | (simp [xs1, xs2, lv_args, Value.category, b32, nI]; exact Or.inl (by decide))
    · rw [lg_cmp_ge, le64, nI_leI (by omega) (by omega)] at c1
      refine Ex.p rfl ?_
      refine Ex.p rfl ?_
      refine s44 true (by rw [decide_eq_true (by omega)]) _ (fun q h => ?_)
      simp only [List.mem_cons, List.not_mem_nil, or_false] at h
      rcases h with rfl | rfl <;> first | (simp [xs1, xs2, lv_args, Value.category, b32, nI]; done) | (simp [xs1, xs2, lv_args, Value.category, b32, nI]; decide) | (simp [xs1, xs2, lv_args, Value.category, b32, nI]; exact Or.inr (by decide)) | (simp [xs1, xs2, lv_args, Value.category, b32, nI]; exact Or.inl (by decide))
theorem ct_Mo_readLine {bg : Int32} {me : Bool} (iX : IsMX D B xs CX) (iT : IsMT D B LT CT) (iH : IsMH D B LH CH) (hp : p < xs.length) (hs : RsIs s st hl rf rt cu LT LH) (hr : rmOk R 6 0 0) : Ct l mMo_readLine D R [.ref m] [sMo m B th mn la (nI xs.length) (nI p) bg (-1) me fi fe wa wn fo st hl rf rt cu, CT, CH, CX] (fun v S => v = none ∧ RdS D B xs (LT 0) (LH 0) (fun ap bg wr me st hl rf rt cu => sMo m B th mn la (nI xs.length) ap bg wr me fi fe wa wn fo st hl rf rt cu) CX p (rlR xs s p) S) := by
  obtain ⟨r1, r2, r3, r4⟩ := hr
  obtain ⟨z1, z2, z3, z4, z5, z6, z7, z8⟩ := id hs
  generalize hP : rlR xs s p = P
  unfold rlR at hP
  generalize hQ : (fun (v : Option Value) S => v = none ∧ RdS D B xs (LT 0) (LH 0) (fun ap bg wr me st hl rf rt cu => sMo m B th mn la (nI xs.length) ap bg wr me fi fe wa wn fo st hl rf rt cu) CX p P S) = Q
  refine Ct.of rfl (by decide) tkMo_readLine (Nat.le_of_ble_eq_true rfl) (fun A => ?_)
  refine Ex.p rfl ?_
  refine Ex.p rfl ?_
  refine Ex.gf 0 0 rfl rfl rfl ?_
  refine Ex.pf 0 0 rfl rfl rfl rfl rfl rfl ?_
  refine Ex.p rfl ?_
  refine Ex.p rfl ?_
  refine Ex.pf 0 0 rfl rfl rfl rfl rfl rfl ?_
  refine Ex.p rfl ?_
  refine Ex.gf 0 0 rfl rfl rfl ?_
  subst z1
  refine Ex.seg (S' := [sMo m B th mn la (nI xs.length) (nI p) (nI p) (-1) true fi fe wa wn fo (nI s.1) hl rf rt cu, CT, CH, CX]) rfl ?_
  refine Ex.br rfl (fun c => ?_) (fun c => ?_)
  · have c : ¬ nI s.1 = nI 0 := c
    rw [nI_eq (by omega) (by omega)] at c
    refine Ex.p rfl ?_
    refine Ex.gf 0 0 rfl rfl rfl ?_
    refine Ex.p rfl ?_
    refine Ex.br rfl (fun c1 => ?_) (fun c1 => ?_)
    · have c1 : ¬ nI s.1 = nI 1 := c1
      rw [nI_eq (by omega) (by omega)] at c1
      refine Ex.p rfl ?_
      refine Ex.gf 0 0 rfl rfl rfl ?_
      refine Ex.p rfl ?_
      refine Ex.br rfl (fun c2 => ?_) (fun c2 => ?_)
      · have c2 : ¬ nI s.1 = nI 2 := c2
        rw [nI_eq (by omega) (by omega)] at c2
        rw [if_pos (by omega)] at hP
        refine Ex.p rfl ?_
        refine Ex.p rfl ?_
        refine Ex.gf 0 0 rfl rfl rfl ?_
        refine Ex.pf 0 0 rfl rfl rfl rfl rfl rfl ?_
        refine Ex.vret rfl rfl (Nat.zero_le _) (Nat.zero_le _) rfl ?_
        subst hQ
        rw [← hP]
        exact ⟨rfl, _, _, _, true, _, hl, _, _, _, LT, LH, CT, CH, rfl, iT, iH, rfl, rfl, Nat.le_of_lt hp, rfl⟩
      · have c2 : ¬ ¬ nI s.1 = nI 2 := c2
        have c2 := Decidable.not_not.mp c2
        rw [nI_eq (by omega) (by omega)] at c2
        rw [if_neg (by omega)] at hP
        refine Ex.p rfl ?_
        refine Ex.cv (Mc := mMo_readSecond) (Rc := rm 5 0 0) (As := []) (rest := []) (Sr := []) (ic := 0) (jc := 0) (ci := 10) [0, 1, 2, 3] [] (ct_Mo_readSecond iX iT iH hp hs c2 (rm_ok _ _ _)) rfl lk_10_242 lcMo_readSecond rfl rfl rfl rfl rfl (by decide) rfl rfl rfl (by decide) ⟨by dsimp only [rm]; omega, by show 8 + (4 + 11) + 200 ≤ R.locals; omega⟩ (Nat.le_of_ble_eq_true rfl) (by first | (dsimp only [rm]; omega) | omega) (by first | (dsimp only [rm]; omega) | omega) ?_
        rintro v S1 ⟨rfl, hS1⟩
        refine Ex.p rfl ?_
        refine Ex.vret rfl rfl (by first | (dsimp only [rm]; omega) | omega) (by first | (dsimp only [rm]; omega) | omega) rfl ?_
        subst hQ
        rw [← hP]
        exact ⟨rfl, hS1⟩
    · have c1 : ¬ ¬ nI s.1 = nI 1 := c1
      have c1 := Decidable.not_not.mp c1
      rw [nI_eq (by omega) (by omega)] at c1
      rw [if_neg (by omega)] at hP
      refine Ex.p rfl ?_
      refine Ex.cv (Mc := mMo_readFirst) (Rc := rm 4 0 0) (As := []) (rest := []) (Sr := []) (ic := 0) (jc := 0) (ci := 10) [0, 1, 2, 3] [] (ct_Mo_readFirst iX iT iH hp hs c1 (rm_ok _ _ _)) rfl lk_10_239 lcMo_readFirst rfl rfl rfl rfl rfl (by decide) rfl rfl rfl (by decide) ⟨by dsimp only [rm]; omega, by show 8 + (2 + 11) + 160 ≤ R.locals; omega⟩ (Nat.le_of_ble_eq_true rfl) (by first | (dsimp only [rm]; omega) | omega) (by first | (dsimp only [rm]; omega) | omega) ?_
      rintro v S1 ⟨rfl, hS1⟩
      refine Ex.p rfl ?_
      refine Ex.vret rfl rfl (by first | (dsimp only [rm]; omega) | omega) (by first | (dsimp only [rm]; omega) | omega) rfl ?_
      subst hQ
      rw [← hP]
      exact ⟨rfl, hS1⟩
  · have c : ¬ ¬ nI s.1 = nI 0 := c
    have c := Decidable.not_not.mp c
    rw [nI_eq (by omega) (by omega)] at c
    rw [if_neg (by omega), pStep_0 c] at hP
    unfold litR at hP
    rw [pLit4] at hP
    have b1 := eX_le (xs := xs) (u := 77) (s := (true, p)) (by decide) (Nat.le_of_lt hp)
    have b2 := eX_le (xs := xs) (u := 52) (by decide) b1.2
    have b3 := eX_le (xs := xs) (u := 56) (by decide) b2.2
    have b4 := eX_le (xs := xs) (u := 10) (by decide) b3.2
    have hmo : (eX xs 10 (eX xs 56 (eX xs 52 (eX xs 77 (true, p))))).1 = true → p < (eX xs 10 (eX xs 56 (eX xs 52 (eX xs 77 (true, p))))).2 := by
      intro q
      by_cases g : gt xs p = 77
      · rw [eX_yes g] at b1 b2 b3 b4 ⊢
        dsimp only at b1 b2
        omega
      · rw [eX_no g] at q
        cases q
    refine Ex.p rfl ?_
    refine Ex.p rfl ?_
    refine Ex.xpc (u := 77) (s := (true, p)) iX (Nat.le_of_lt hp) rfl rfl (by omega) (by omega) (by omega) (by omega) (by decide) ?_
    refine Ex.p rfl ?_
    refine Ex.p rfl ?_
    refine Ex.xpc (u := 52) (s := eX xs 77 (true, p)) iX b1.2 rfl rfl (by omega) (by omega) (by omega) (by omega) (by decide) ?_
    refine Ex.p rfl ?_
    refine Ex.p rfl ?_
    refine Ex.xpc (u := 56) (s := eX xs 52 (eX xs 77 (true, p))) iX b2.2 rfl rfl (by omega) (by omega) (by omega) (by omega) (by decide) ?_
    refine Ex.p rfl ?_
    refine Ex.endl (s := eX xs 56 (eX xs 52 (eX xs 77 (true, p)))) iX b3.2 (Nat.le_of_lt hp) rfl rfl (by omega) (by omega) (by omega) (by omega) (by decide) ?_
    generalize eX xs 10 (eX xs 56 (eX xs 52 (eX xs 77 (true, p)))) = s5 at b4 hP hmo
    obtain ⟨b, e9⟩ := s5
    cases b with
    | false =>
      refine Ex.br rfl (fun _ => ?_) (fun c => absurd rfl c)
      refine Ex.vret rfl rfl (Nat.zero_le _) (Nat.zero_le _) rfl ?_
      subst hQ
      rw [← hP]
      exact ⟨rfl, _, _, _, true, _, hl, _, _, _, LT, LH, CT, CH, rfl, iT, iH, rfl, rfl, b4.2, rfl⟩
    | true =>
      refine Ex.br rfl (fun c => absurd c (show (1 : Int32) ≠ 0 by decide)) (fun _ => ?_)
      refine Ex.p rfl ?_
      refine Ex.p rfl ?_
      refine Ex.pf 0 0 rfl rfl rfl rfl rfl rfl ?_
      refine Ex.p rfl ?_
      refine Ex.vret rfl rfl (Nat.zero_le _) (Nat.zero_le _) rfl ?_
      subst hQ
      rw [← hP]
      exact ⟨rfl, _, _, _, true, _, hl, _, _, _, LT, LH, CT, CH, rfl, iT, iH, rfl, rfl, b4.2, rfl, rfl, hmo rfl, rfl, z2, z3, z4, z5, z6, (by dsimp only; omega), fun q => by dsimp only at q; omega⟩
end MON

/-! the reference reads: a tool's line -/
section MOL
variable {l : Launch} {D : xD} {R : Room} {m : Nat} {B : Nat → Nat} {xs : List Int32} {th mn la fi fe wa wn fo st rf rt cu : Int32} {hl : Bool} {CX CT CH : va_W} {p : Nat} {s : RS} {LT : Nat → List (Int32 × Bool)} {LH : Nat → List HV}
theorem ct_Mo_readTool (iX : IsMX D B xs CX) (iT : IsMT D B LT CT) (iH : IsMH D B LH CH) (h84 : gt xs p = 84) (hs : RsIs s st hl rf rt cu LT LH) (h1 : s.1 = 1) (hr : rmOk R 3 0 0) : Ct l mMo_readTool D R [.ref m] [sMo m B th mn la (nI xs.length) (nI p) (nI p) (-1) true fi fe wa wn fo st hl rf rt cu, CT, CH, CX] (fun v S => v = none ∧ RdS D B xs (LT 0) (LH 0) (fun ap bg wr me st hl rf rt cu => sMo m B th mn la (nI xs.length) ap bg wr me fi fe wa wn fo st hl rf rt cu) CX p (toolR xs s p) S) := by
  obtain ⟨r1, r2, r3, r4⟩ := hr
  have hxl : xs.length ≤ 2000 := by
    obtain ⟨_, -, h, -⟩ := id iX
    exact h
  have hlt : p < xs.length := gt_lt (by rw [h84]; decide)
  obtain ⟨gT, gD, gP, eT, hsT⟩ := id iT
  obtain ⟨t1, t2, -⟩ := hsT 1 (by omega)
  have b1 := wS_le (s := (true, p + 1)) (xs := xs) hlt
  have b2 := eX_le (u := 67) (by decide) b1.2
  generalize e2 : eX xs 67 (wS xs (true, p + 1)) = s2 at b2
  have b3 := wS_le b2.2
  generalize e3 : wS xs s2 = s3 at b3
  generalize eb : decide (gt xs s3.2 = 80) = pb
  have b4 : s3.2 ≤ (if pb then eX xs 80 s3 else eX xs 78 s3).2 ∧ (if pb then eX xs 80 s3 else eX xs 78 s3).2 ≤ xs.length := by
    cases pb
    · exact eX_le (by decide) b3.2
    · exact eX_le (by decide) b3.2
  generalize e4 : (if pb then eX xs 80 s3 else eX xs 78 s3) = s4 at b4
  have b5 := eX_le (u := 10) (by decide) b4.2
  generalize e5 : eX xs 10 s4 = s5 at b5
  obtain ⟨q1, q2⟩ := tool_pure (n := (LT 1).length) h84 e2.symm e3.symm eb.symm (by rw [e4, e5])
  have hmono : p < s5.2 := by
    have := b1.1
    dsimp only at this
    omega
  obtain ⟨z1, z2, z3, z4, z5, z6, z7, z8⟩ := hs
  unfold toolR
  rw [← z4]
  have htv := wV_lt (xs := xs) (s := (true, p + 1))
  generalize hvt : wV xs (true, p + 1) = vt at q2 htv
  generalize hvd : nI (wV xs s2) = vd at q2
  generalize hQ : (fun (v : Option Value) S => v = none ∧ RdS D B xs (LT 0) (LH 0) (fun ap bg wr me st hl rf rt cu => sMo m B th mn la (nI xs.length) ap bg wr me fi fe wa wn fo st hl rf rt cu) CX p _ S) = Q
  refine Ct.of rfl (by decide) tkMo_readTool (Nat.le_of_ble_eq_true rfl) (fun A => ?_)
  have s126 : ∀ g : Bool, g = decide (nI vt = nI (LT 1).length ∧ (1 ≤ vd.toInt ∧ vd.toInt ≤ 10000) ∧ (LT 1).length < 10) → ∀ lv9 : List (Nat × Value), (∀ q ∈ [(5, Value.int (b32 pb)), (3, .long vd.toInt64), (0, .ref m)], q ∈ lv9) → ∀ k8 n8 : Nat, k8 ≤ 0 → n8 ≤ 0 → Ex l mMo_readTool D R A (xQ D A Q) R.cells R.slots 126 lv9 [.int (b32 g), .ref m] [sMo m B th mn la (nI xs.length) (nI s4.2) (nI p) (wrF s4) true fi fe wa wn fo st hl rf rt cu, CT, CH, CX] k8 n8 := by
    intro g hg lv9 hlv k8 n8 hk8 hn8
    refine Ex.more (k' := 0) (n' := 0) hk8 hn8 ?_
    refine Ex.lv hlv ?_
    refine Ex.must  rfl rfl (by omega) (by omega) (by omega) (by omega) (by decide) ?_
    refine Ex.p rfl ?_
    refine Ex.endl (s := s4) iX b4.2 (Nat.le_of_lt hlt) rfl rfl (by omega) (by omega) (by omega) (by omega) (by decide) ?_
    rw [e5]
    obtain ⟨b, e⟩ := s5
    cases b with
    | false =>
      refine Ex.br rfl (fun _ => ?_) (fun c => absurd rfl c)
      refine Ex.vret rfl rfl (Nat.zero_le _) (Nat.zero_le _) rfl ?_
      subst hQ
      rw [q1 rfl]
      exact ⟨rfl, _, _, _, true && g, _, hl, _, _, _, LT, LH, CT, CH, rfl, iT, iH, rfl, rfl, b5.2, rfl⟩
    | true =>
      cases g with
      | false =>
        refine Ex.br rfl (fun _ => ?_) (fun c => absurd rfl c)
        refine Ex.vret rfl rfl (Nat.zero_le _) (Nat.zero_le _) rfl ?_
        subst hQ
        rw [q2 rfl, if_neg (of_decide_eq_false hg.symm)]
        exact ⟨rfl, _, _, _, false, _, hl, _, _, _, LT, LH, CT, CH, rfl, iT, iH, rfl, rfl, Nat.le_of_lt hlt, rfl⟩
      | true =>
        have hg := of_decide_eq_true hg.symm
        refine Ex.br rfl (fun c => absurd c (show (1 : Int32) ≠ 0 by decide)) (fun _ => ?_)
        refine Ex.p rfl ?_
        refine Ex.p rfl ?_
        refine Ex.p rfl ?_
        refine Ex.p rfl ?_
        refine Ex.cv (Mc := mMo_addTool) (Rc := rm 0 0 0) (As := [.int (nI 1), .long vd.toInt64, .int (b32 pb)]) (rest := []) (Sr := [CH, CX]) (ic := 0) (jc := 0) (ci := 10) [0, 1] [2, 3] (ct_Mo_addTool (x := vd) iT (by omega) hg.2.2 rfl) rfl lk_10_100 lcMo_addTool rfl rfl rfl rfl rfl (by decide) rfl rfl rfl (by decide) ⟨by dsimp only [rm]; omega, by show 8 + (5 + 11) + 0 ≤ R.locals; omega⟩ (Nat.le_of_ble_eq_true rfl) (by first | (dsimp only [rm]; omega) | omega) (by first | (dsimp only [rm]; omega) | omega) ?_
        rintro v S1 ⟨rfl, C', rfl, iT'⟩
        refine Ex.p rfl ?_
        refine Ex.sub (S' := [_, C', CH, CX]) [2, 3, 0, 1] rfl rfl ?_
        refine Ex.vret rfl rfl (by first | (dsimp only [rm]; omega) | omega) (by first | (dsimp only [rm]; omega) | omega) rfl ?_
        subst hQ
        rw [q2 rfl, if_pos hg]
        exact ⟨rfl, _, _, _, true, _, hl, _, _, _, put2 LT 1 (vd, pb), LH, C', CH, rfl, iT', iH, put2_n LT _ (by decide), rfl, b5.2, rfl, rfl, hmono, (by rw [z1, h1]), z2, z3, put2_s LT 1 _, z5, z6, by dsimp only; omega, fun q => by dsimp only at q; omega⟩
  have s93 : ∀ lv9 : List (Nat × Value), (∀ q ∈ [(5, Value.int (b32 pb)), (3, .long vd.toInt64), (1, .long (nI vt).toInt64), (0, .ref m)], q ∈ lv9) → ∀ k8 n8 : Nat, k8 ≤ 0 → n8 ≤ 0 → Ex l mMo_readTool D R A (xQ D A Q) R.cells R.slots 93 lv9 [] [sMo m B th mn la (nI xs.length) (nI s4.2) (nI p) (wrF s4) true fi fe wa wn fo st hl rf rt cu, CT, CH, CX] k8 n8 := by
    intro lv9 hlv k8 n8 hk8 hn8
    refine Ex.more (k' := 0) (n' := 0) hk8 hn8 ?_
    refine Ex.lv hlv ?_
    have s125 : ¬ (nI vt = nI (LT 1).length ∧ (1 ≤ vd.toInt ∧ vd.toInt ≤ 10000) ∧ (LT 1).length < 10) → ∀ lv9 : List (Nat × Value), (∀ q ∈ [(5, Value.int (b32 pb)), (3, .long vd.toInt64), (0, .ref m)], q ∈ lv9) → ∀ k8 n8 : Nat, k8 ≤ 0 → n8 ≤ 0 → Ex l mMo_readTool D R A (xQ D A Q) R.cells R.slots 125 lv9 [.ref m] [sMo m B th mn la (nI xs.length) (nI s4.2) (nI p) (wrF s4) true fi fe wa wn fo st hl rf rt cu, CT, CH, CX] k8 n8 := by
      intro g lv9 hlv k8 n8 hk8 hn8
      refine Ex.lv hlv ?_
      refine Ex.p rfl ?_
      refine s126 false (by rw [decide_eq_false g]) _ (fun q h => ?_) _ _ hk8 hn8
      simp only [List.mem_cons, List.not_mem_nil, or_false] at h
      rcases h with rfl | rfl | rfl <;> first | (simp [xs1, xs2, lv_args, Value.category, b32, nI]; done) | (simp [xs1, xs2, lv_args, Value.category, b32, nI]; decide) | (simp [xs1, xs2, lv_args, Value.category, b32, nI]; exact Or.inr (by decide)) | (simp [xs1, xs2, lv_args, Value.category, b32, nI]; exact Or.inl (by decide))
    refine Ex.p rfl ?_
    refine Ex.p rfl ?_
    refine Ex.p rfl ?_
    refine Ex.gf 0 0 rfl rfl rfl ?_
    refine Ex.p rfl ?_
    refine Ex.ial 1 0 1 rfl (by rw [eT]; rfl) rfl rfl (by decide) ?_
    rw [t1]
    refine Ex.p rfl ?_
    refine Ex.p rfl ?_
    refine Ex.br rfl (fun c => ?_) (fun c => ?_)
    · have c : ¬ lg_cmp (nI vt).toInt64 (nI (LT 1).length).toInt64 = 0 := c
      rw [lg_cmp_eq] at c
      refine s125 (fun q => c (by rw [q.1])) _ (fun q h => ?_) _ _ (by omega) (by omega)
      simp only [List.mem_cons, List.not_mem_nil, or_false] at h
      rcases h with rfl | rfl | rfl <;> first | (simp [xs1, xs2, lv_args, Value.category, b32, nI]; done) | (simp [xs1, xs2, lv_args, Value.category, b32, nI]; decide) | (simp [xs1, xs2, lv_args, Value.category, b32, nI]; exact Or.inr (by decide)) | (simp [xs1, xs2, lv_args, Value.category, b32, nI]; exact Or.inl (by decide))
    · have c : ¬ ¬ lg_cmp (nI vt).toInt64 (nI (LT 1).length).toInt64 = 0 := c
      rw [lg_cmp_eq] at c
      have c := congrArg Int64.toInt32 (Decidable.not_not.mp c)
      rw [Int32.toInt32_toInt64, Int32.toInt32_toInt64] at c
      have c0 := c
      rw [nI_eq (by omega) (by omega)] at c0
      refine Ex.p rfl ?_
      refine Ex.ldc2 rfl ?_
      refine Ex.p rfl ?_
      refine Ex.br rfl (fun c1 => ?_) (fun c1 => ?_)
      · rw [lg_cmp_ge, Int64.le_iff_toInt_le, Int32.toInt_toInt64, nI_toInt (by omega)] at c1
        have c1 : (10 : Int) ≤ vt := c1
        refine s125 (fun q => by omega) _ (fun q h => ?_) _ _ (by omega) (by omega)
        simp only [List.mem_cons, List.not_mem_nil, or_false] at h
        rcases h with rfl | rfl | rfl <;> first | (simp [xs1, xs2, lv_args, Value.category, b32, nI]; done) | (simp [xs1, xs2, lv_args, Value.category, b32, nI]; decide) | (simp [xs1, xs2, lv_args, Value.category, b32, nI]; exact Or.inr (by decide)) | (simp [xs1, xs2, lv_args, Value.category, b32, nI]; exact Or.inl (by decide))
      · rw [lg_cmp_ge, Int64.le_iff_toInt_le, Int32.toInt_toInt64, nI_toInt (by omega)] at c1
        have c1 : ¬ (10 : Int) ≤ vt := c1
        refine Ex.p rfl ?_
        refine Ex.cs0 (Mc := mMo_isDiameter) (Rc := rm 0 0 0) (As := [.long vd.toInt64]) (rest := [.ref m]) (ct_Mo_isDiameter) rfl lk_10_96 lcMo_isDiameter rfl ⟨by dsimp only [rm]; omega, by show 8 + (2 + 11) + 0 ≤ R.locals; omega⟩ (Nat.le_of_ble_eq_true rfl) (by first | (dsimp only [rm]; omega) | omega) (by first | (dsimp only [rm]; omega) | omega) ?_
        rintro v S1 ⟨rfl, rfl⟩
        rw [Int32.toInt_toInt64]
        by_cases g2 : 1 ≤ vd.toInt ∧ vd.toInt ≤ 10000
        · rw [decide_eq_true g2]
          refine Ex.br rfl (fun c => absurd c (show (1 : Int32) ≠ 0 by decide)) (fun _ => ?_)
          refine Ex.p rfl ?_
          refine Ex.p rfl ?_
          refine s126 true (by rw [decide_eq_true]; exact ⟨c, g2, by omega⟩) _ (fun q h => ?_) _ _ (by first | (dsimp only [rm]; omega) | omega) (by first | (dsimp only [rm]; omega) | omega)
          simp only [List.mem_cons, List.not_mem_nil, or_false] at h
          rcases h with rfl | rfl | rfl <;> first | (simp [xs1, xs2, lv_args, Value.category, b32, nI]; done) | (simp [xs1, xs2, lv_args, Value.category, b32, nI]; decide) | (simp [xs1, xs2, lv_args, Value.category, b32, nI]; exact Or.inr (by decide)) | (simp [xs1, xs2, lv_args, Value.category, b32, nI]; exact Or.inl (by decide))
        · rw [decide_eq_false g2]
          refine Ex.br rfl (fun _ => ?_) (fun c => absurd rfl c)
          refine s125 (fun q => g2 q.2.1) _ (fun q h => ?_) _ _ (by first | (dsimp only [rm]; omega) | omega) (by first | (dsimp only [rm]; omega) | omega)
          simp only [List.mem_cons, List.not_mem_nil, or_false] at h
          rcases h with rfl | rfl | rfl <;> first | (simp [xs1, xs2, lv_args, Value.category, b32, nI]; done) | (simp [xs1, xs2, lv_args, Value.category, b32, nI]; decide) | (simp [xs1, xs2, lv_args, Value.category, b32, nI]; exact Or.inr (by decide)) | (simp [xs1, xs2, lv_args, Value.category, b32, nI]; exact Or.inl (by decide))
  have s40 : ∀ lv9 : List (Nat × Value), (∀ q ∈ [(3, Value.long vd.toInt64), (1, .long (nI vt).toInt64), (0, .ref m)], q ∈ lv9) → Ex l mMo_readTool D R A (xQ D A Q) R.cells R.slots 40 lv9 [.int (b32 pb)] [sMo m B th mn la (nI xs.length) (nI s3.2) (nI p) (wrF s3) true fi fe wa wn fo st hl rf rt cu, CT, CH, CX] 0 0 := by
    intro lv9 hlv
    refine Ex.lv hlv ?_
    refine Ex.p rfl ?_
    refine Ex.p rfl ?_
    refine Ex.gf 0 0 rfl rfl rfl ?_
    refine Ex.p rfl ?_
    obtain ⟨b, e⟩ := s3
    cases b with
    | false =>
      have e4 : s4 = (false, e) := by
        rw [← e4]
        cases pb <;> rfl
      rw [e4] at s93
      refine Ex.br rfl (fun _ => ?_) (fun c => absurd (nI_ne1 (by dsimp only at b3 ⊢; omega)) c)
      refine Ex.p rfl ?_
      refine Ex.gf 0 0 rfl rfl rfl ?_
      refine Ex.p rfl ?_
      refine Ex.br rfl (fun _ => ?_) (fun c => absurd (nI_ne1 (by dsimp only at b3 ⊢; omega)) c)
      refine s93 _ (fun q h => ?_) _ _ (by omega) (by omega)
      simp only [List.mem_cons, List.not_mem_nil, or_false] at h
      rcases h with rfl | rfl | rfl | rfl <;> first | (simp [xs1, xs2, lv_args, Value.category, b32, nI]; done) | (simp [xs1, xs2, lv_args, Value.category, b32, nI]; decide) | (simp [xs1, xs2, lv_args, Value.category, b32, nI]; exact Or.inr (by decide)) | (simp [xs1, xs2, lv_args, Value.category, b32, nI]; exact Or.inl (by decide))
    | true =>
      refine Ex.br rfl (fun c => absurd rfl c) (fun _ => ?_)
      have s64 : s4 = (true, e + 1) → ∀ lv9 : List (Nat × Value), (∀ q ∈ [(5, Value.int (b32 pb)), (3, Value.long vd.toInt64), (1, .long (nI vt).toInt64), (0, .ref m)], q ∈ lv9) → Ex l mMo_readTool D R A (xQ D A Q) R.cells R.slots 64 lv9 [] [sMo m B th mn la (nI xs.length) (nI e) (nI p) (-1) true fi fe wa wn fo st hl rf rt cu, CT, CH, CX] 0 0 := by
        intro e4 lv9 hlv
        rw [e4] at s93
        refine Ex.lv hlv ?_
        refine Ex.p rfl ?_
        refine Ex.p rfl ?_
        refine Ex.gf 0 0 rfl rfl rfl ?_
        refine Ex.p rfl ?_
        refine Ex.p rfl ?_
        rw [i_add1]
        refine Ex.pf 0 0 rfl rfl rfl rfl rfl rfl ?_
        refine Ex.p rfl ?_
        refine s93 _ (fun q h => ?_) _ _ (by omega) (by omega)
        simp only [List.mem_cons, List.not_mem_nil, or_false] at h
        rcases h with rfl | rfl | rfl | rfl <;> first | (simp [xs1, xs2, lv_args, Value.category, b32, nI]; done) | (simp [xs1, xs2, lv_args, Value.category, b32, nI]; decide) | (simp [xs1, xs2, lv_args, Value.category, b32, nI]; exact Or.inr (by decide)) | (simp [xs1, xs2, lv_args, Value.category, b32, nI]; exact Or.inl (by decide))
      refine Ex.p rfl ?_
      cases pb with
      | true =>
        refine Ex.br rfl (fun _ => ?_) (fun c => absurd (show (1 : Int32) ≠ 0 by decide) c)
        refine s64 (by rw [← e4]; exact eX_yes (of_decide_eq_true eb)) _ (fun q h => ?_)
        simp only [List.mem_cons, List.not_mem_nil, or_false] at h
        rcases h with rfl | rfl | rfl | rfl <;> first | (simp [xs1, xs2, lv_args, Value.category, b32, nI]; done) | (simp [xs1, xs2, lv_args, Value.category, b32, nI]; decide) | (simp [xs1, xs2, lv_args, Value.category, b32, nI]; exact Or.inr (by decide)) | (simp [xs1, xs2, lv_args, Value.category, b32, nI]; exact Or.inl (by decide))
      | false =>
        refine Ex.br rfl (fun c => absurd rfl c) (fun _ => ?_)
        refine Ex.p rfl ?_
        refine Ex.now (p := e) iX b3.2 rfl rfl (by omega) (by omega) (by omega) (by omega) (by decide) ?_
        refine Ex.p rfl ?_
        refine Ex.br rfl (fun c => ?_) (fun c => ?_)
        · have c : ¬ gt xs e = 78 := c
          have e4 : s4 = (false, e) := by
            rw [← e4]
            exact eX_no c
          rw [e4] at s93
          refine Ex.p rfl ?_
          refine Ex.gf 0 0 rfl rfl rfl ?_
          refine Ex.p rfl ?_
          refine Ex.br rfl (fun c => absurd rfl c) (fun _ => ?_)
          refine Ex.p rfl ?_
          refine Ex.p rfl ?_
          refine Ex.gf 0 0 rfl rfl rfl ?_
          refine Ex.pf 0 0 rfl rfl rfl rfl rfl rfl ?_
          refine s93 _ (fun q h => ?_) _ _ (by omega) (by omega)
          simp only [List.mem_cons, List.not_mem_nil, or_false] at h
          rcases h with rfl | rfl | rfl | rfl <;> first | (simp [xs1, xs2, lv_args, Value.category, b32, nI]; done) | (simp [xs1, xs2, lv_args, Value.category, b32, nI]; decide) | (simp [xs1, xs2, lv_args, Value.category, b32, nI]; exact Or.inr (by decide)) | (simp [xs1, xs2, lv_args, Value.category, b32, nI]; exact Or.inl (by decide))
        · have c : ¬ ¬ gt xs e = 78 := c
          have c := Decidable.not_not.mp c
          refine s64 (by rw [← e4]; exact eX_yes c) _ (fun q h => ?_)
          simp only [List.mem_cons, List.not_mem_nil, or_false] at h
          rcases h with rfl | rfl | rfl | rfl <;> first | (simp [xs1, xs2, lv_args, Value.category, b32, nI]; done) | (simp [xs1, xs2, lv_args, Value.category, b32, nI]; decide) | (simp [xs1, xs2, lv_args, Value.category, b32, nI]; exact Or.inr (by decide)) | (simp [xs1, xs2, lv_args, Value.category, b32, nI]; exact Or.inl (by decide))
  refine Ex.p rfl ?_
  refine Ex.p rfl ?_
  refine Ex.gf 0 0 rfl rfl rfl ?_
  refine Ex.p rfl ?_
  refine Ex.p rfl ?_
  rw [i_add1]
  refine Ex.pf 0 0 rfl rfl rfl rfl rfl rfl ?_
  refine Ex.p rfl ?_
  refine Ex.who (s := (true, p + 1)) iX hlt rfl rfl (by omega) (by omega) (by omega) (by omega) (by decide) ?_
  rw [hvt]
  refine Ex.p rfl ?_
  refine Ex.p rfl ?_
  refine Ex.p rfl ?_
  refine Ex.xpc (u := 67) (s := wS xs (true, p + 1)) iX b1.2 rfl rfl (by omega) (by omega) (by omega) (by omega) (by decide) ?_
  rw [e2]
  refine Ex.p rfl ?_
  refine Ex.who (s := s2) iX b2.2 rfl rfl (by omega) (by omega) (by omega) (by omega) (by decide) ?_
  rw [hvd, e3]
  refine Ex.p rfl ?_
  refine Ex.p rfl ?_
  refine Ex.now (p := s3.2) iX b3.2 rfl rfl (by omega) (by omega) (by omega) (by omega) (by decide) ?_
  refine Ex.p rfl ?_
  cases pb with
  | true =>
    refine Ex.br rfl (fun c => absurd (of_decide_eq_true eb) c) (fun _ => ?_)
    refine Ex.p rfl ?_
    refine Ex.p rfl ?_
    refine s40 _ (fun q h => ?_)
    simp only [List.mem_cons, List.not_mem_nil, or_false] at h
    rcases h with rfl | rfl | rfl <;> first | (simp [xs1, xs2, lv_args, Value.category, b32, nI]; done) | (simp [xs1, xs2, lv_args, Value.category, b32, nI]; decide) | (simp [xs1, xs2, lv_args, Value.category, b32, nI]; exact Or.inr (by decide)) | (simp [xs1, xs2, lv_args, Value.category, b32, nI]; exact Or.inl (by decide))
  | false =>
    refine Ex.br rfl (fun _ => ?_) (fun c => absurd (of_decide_eq_false eb) c)
    refine Ex.p rfl ?_
    refine s40 _ (fun q h => ?_)
    simp only [List.mem_cons, List.not_mem_nil, or_false] at h
    rcases h with rfl | rfl | rfl <;> first | (simp [xs1, xs2, lv_args, Value.category, b32, nI]; done) | (simp [xs1, xs2, lv_args, Value.category, b32, nI]; decide) | (simp [xs1, xs2, lv_args, Value.category, b32, nI]; exact Or.inr (by decide)) | (simp [xs1, xs2, lv_args, Value.category, b32, nI]; exact Or.inl (by decide))
end MOL

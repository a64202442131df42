/-! the reference reads: a hit's line -/
def hitR (xs : List Int32) (s : RS) (p : Nat) : Option RS × Nat := match pHitLine xs s.2.2.2.2.2.1.length s.2.2.2.2.2.2 s.2.2.1 s.2.2.2.1 p with
  | (none, q) => (none, q)
  | (some h, q) => (some (2, s.2.1, s.2.2.1, s.2.2.2.1, s.2.2.2.2.1, s.2.2.2.2.2.1 ++ [h], s.2.2.2.2.2.2), q)
theorem near64_2 {x y : Int32} : near64 x.toInt64 y.toInt64 ↔ near2 x y := by
  unfold near64 near2
  rw [Int32.toInt_toInt64, Int32.toInt_toInt64]
section MOM
variable {l : Launch} {D : xD} {R : Room} {m : Nat} {B : Nat → Nat} {xs : List Int32} {th mn la fi fe wa wn fo st rf rt cu : Int32} {hl : Bool} {CX CT CH : va_W} {p : Nat} {s : RS} {LT : Nat → List (Int32 × Bool)} {LH : Nat → List HV}
theorem ct_Mo_readHit (iX : IsMX D B xs CX) (iT : IsMT D B LT CT) (iH : IsMH D B LH CH) (h88 : gt xs p = 88) (hs : RsIs s st hl rf rt cu LT LH) (h1 : s.1 = 2) (hr : rmOk R 4 0 0) : Ct l mMo_readHit D R [.ref m] [sMo m B th mn la (nI xs.length) (nI p) (nI p) (-1) true fi fe wa wn fo st hl rf rt cu, CT, CH, CX] (fun v S => v = none ∧ RdS D B xs (LT 0) (LH 0) (fun ap bg wr me st hl rf rt cu => sMo m B th mn la (nI xs.length) ap bg wr me fi fe wa wn fo st hl rf rt cu) CX p (hitR xs s p) S) := by
  obtain ⟨r1, r2, r3, r4⟩ := hr
  have hxl : xs.length ≤ 2000 := by
    obtain ⟨_, -, h, -⟩ := id iX
    exact h
  have hlt : p < xs.length := gt_lt (by rw [h88]; decide)
  obtain ⟨gH, gO, gX, gY, gE, gG, gF, gU, gS, eH, hsH⟩ := id iH
  obtain ⟨t1, t2, -⟩ := hsH 1 (by omega)
  have e1 : eX xs 88 (true, p) = (true, p + 1) := eX_yes h88
  have b1 := nS_le (s := (true, p + 1)) (xs := xs) hlt
  have e3 : plS xs (true, p) = nS xs (eX xs 89 (nS xs (true, p + 1))) := by
    unfold plS
    rw [e1]
  have hx : nV xs (true, p + 1) = nV xs (eX xs 88 (true, p)) := by rw [e1]
  have hy : nV xs (eX xs 89 (nS xs (true, p + 1))) = nV xs (eX xs 89 (nS xs (eX xs 88 (true, p)))) := by rw [e1]
  have b2 := eX_le (u := 89) (by decide) b1.2
  generalize e2 : eX xs 89 (nS xs (true, p + 1)) = s2 at b2 e3 hy
  have b3 := nS_le b2.2
  generalize e3' : nS xs s2 = s3 at b3 e3
  have hmono3 : p < s3.2 := by
    have := b1.1
    dsimp only at this
    omega
  obtain ⟨z1, z2, z3, z4, z5, z6, z7, z8⟩ := hs
  obtain ⟨z31, z32⟩ := z3 (z8 h1)
  have hR9 : hitR xs s p = match pHitLine xs (LH 1).length cu rf rt p with
      | (none, q) => (none, q)
      | (some h, q) => (some (2, s.2.1, s.2.2.1, s.2.2.2.1, s.2.2.2.2.1, LH 1 ++ [h], s.2.2.2.2.2.2), q) := by
    unfold hitR
    rw [z5, z6, z31, z32]
  have hole := fun (s4 : Bool × Nat) => hole_pure (nh := (LH 1).length) (ch := cu) (f := rf) (t := rt) (s4 := s4) e3.symm hx hy
  have slot := fun (s6 s10 s11 : Bool × Nat) (x2 y2 : Int32) => slot_pure (nh := (LH 1).length) (ch := cu) (f := rf) (t := rt) (s6 := s6) (s10 := s10) (s11 := s11) (x2 := x2) (y2 := y2) e3.symm hx hy
  rw [hR9]
  clear hR9 hx hy
  generalize hvx : nV xs (true, p + 1) = x at hole slot
  generalize hvy : nV xs s2 = y at hole slot
  generalize hP : pHitLine xs (LH 1).length cu rf rt p = P at hole slot
  generalize hQ : (fun (v : Option Value) S => v = none ∧ RdS D B xs (LT 0) (LH 0) (fun ap bg wr me st hl rf rt cu => sMo m B th mn la (nI xs.length) ap bg wr me fi fe wa wn fo st hl rf rt cu) CX p _ S) = Q
  refine Ct.of rfl (by decide) tkMo_readHit (Nat.le_of_ble_eq_true rfl) (fun A => ?_)
  have s130 : ∀ (sl me0 : Bool) (x2 y2 f9 t9 : Int32) (sE : Bool × Nat), sE.2 ≤ xs.length → p < (eX xs 10 sE).2 → (sl = true → f9 = 0 ∧ t9 = 7) → (sl = false → f9 = rf ∧ t9 = rt) → (me0 = true → hslot (cu, x, y, x2, y2, f9, t9) = sl) → ((eX xs 10 sE).1 = false → P = (none, (eX xs 10 sE).2)) → ((eX xs 10 sE).1 = true → P = if me0 = true ∧ near2 x y ∧ near2 x2 y2 ∧ (LH 1).length < 60 then (some (cu, x, y, x2, y2, f9, t9), (eX xs 10 sE).2) else (none, p)) → ∀ lv9 : List (Nat × Value), (∀ q ∈ [(8, Value.long y2.toInt64), (6, .long x2.toInt64), (5, .int (b32 sl)), (3, .long y.toInt64), (1, .long x.toInt64), (0, .ref m)], q ∈ lv9) → ∀ k8 n8 : Nat, k8 ≤ 0 → n8 ≤ 0 → Ex l mMo_readHit D R A (xQ D A Q) R.cells R.slots 130 lv9 [] [sMo m B th mn la (nI xs.length) (nI sE.2) (nI p) (wrF sE) me0 fi fe wa wn fo st hl rf rt cu, CT, CH, CX] k8 n8 := by
    intro sl me0 x2 y2 f9 t9 sE bE hmono hst hsf hsl q1 q2 lv9 hlv k8 n8 hk8 hn8
    refine Ex.more (k' := 0) (n' := 0) hk8 hn8 ?_
    refine Ex.lv hlv ?_
    have s165 : ∀ g : Bool, g = decide (near2 x y ∧ near2 x2 y2 ∧ (LH 1).length < 60) → ∀ lv9 : List (Nat × Value), (∀ q ∈ [(8, Value.long y2.toInt64), (6, .long x2.toInt64), (5, .int (b32 sl)), (3, .long y.toInt64), (1, .long x.toInt64), (0, .ref m)], q ∈ lv9) → ∀ k8 n8 : Nat, k8 ≤ 0 → n8 ≤ 0 → Ex l mMo_readHit D R A (xQ D A Q) R.cells R.slots 165 lv9 [.int (b32 g), .ref m] [sMo m B th mn la (nI xs.length) (nI sE.2) (nI p) (wrF sE) me0 fi fe wa wn fo st hl rf rt cu, CT, CH, CX] k8 n8 := by
      intro g hg lv9 hlv k8 n8 hk8 hn8
      refine Ex.more (k' := 0) (n' := 0) hk8 hn8 ?_
      refine Ex.lv hlv ?_
      refine Ex.must  rfl rfl (by omega) (by omega) (by omega) (by omega) (by decide) ?_
      refine Ex.p rfl ?_
      refine Ex.endl (s := sE) iX bE (Nat.le_of_lt hlt) rfl rfl (by omega) (by omega) (by omega) (by omega) (by decide) ?_
      have b5 := eX_le (u := 10) (by decide) bE
      generalize eX xs 10 sE = s5 at q1 q2 b5 hmono
      obtain ⟨b, e⟩ := s5
      cases b with
      | false =>
        refine Ex.br rfl (fun _ => ?_) (fun c => absurd rfl c)
        refine Ex.vret rfl rfl (Nat.zero_le _) (Nat.zero_le _) rfl ?_
        subst hQ
        rw [q1 rfl]
        exact ⟨rfl, _, _, _, me0 && g, _, hl, _, _, _, LT, LH, CT, CH, rfl, iT, iH, rfl, rfl, b5.2, rfl⟩
      | true =>
        cases hmg : me0 && g with
        | false =>
          refine Ex.br rfl (fun _ => ?_) (fun c => absurd rfl c)
          refine Ex.vret rfl rfl (Nat.zero_le _) (Nat.zero_le _) rfl ?_
          subst hQ
          rw [q2 rfl, if_neg (fun q => by rw [q.1, hg, decide_eq_true q.2] at hmg; cases hmg)]
          exact ⟨rfl, _, _, _, false, _, hl, _, _, _, LT, LH, CT, CH, rfl, iT, iH, rfl, rfl, Nat.le_of_lt hlt, rfl⟩
        | true =>
          rw [Bool.and_eq_true] at hmg
          obtain ⟨hm0, hg0⟩ := hmg
          rw [hg] at hg0
          have hg0 := of_decide_eq_true hg0
          refine Ex.br rfl (fun c => absurd c (show (1 : Int32) ≠ 0 by decide)) (fun _ => ?_)
          have s214 : ∀ lv9 : List (Nat × Value), (∀ q ∈ [(5, Value.int (b32 sl)), (0, .ref m)], q ∈ lv9) → Ex l mMo_readHit D R A (xQ D A Q) R.cells R.slots 214 lv9 [.int t9, .int f9, .long y2.toInt64, .long x2.toInt64, .long y.toInt64, .long x.toInt64, .int cu, .int 1, .ref m] [sMo m B th mn la (nI xs.length) (nI e) (nI p) (-1) true fi fe wa wn fo st hl rf rt cu, CT, CH, CX] 0 0 := by
            intro lv9 hlv
            refine Ex.lv hlv ?_
            refine Ex.p rfl ?_
            refine Ex.cv (Mc := mMo_addHit) (Rc := rm 0 0 0) (As := [.int (nI 1), .int cu, .long x.toInt64, .long y.toInt64, .long x2.toInt64, .long y2.toInt64, .int f9, .int t9, .int (b32 sl)]) (rest := []) (Sr := [CT, CX]) (ic := 0) (jc := 0) (ci := 10) [0, 2] [1, 3] (ct_Mo_addHit (h9 := (cu, x, y, x2, y2, f9, t9)) iH (by omega) hg0.2.2 rfl rfl rfl rfl (hsl hm0)) rfl lk_10_115 lcMo_addHit rfl rfl rfl rfl rfl (by decide) rfl rfl rfl (by decide) ⟨by dsimp only [rm]; omega, by show 8 + (15 + 11) + 0 ≤ R.locals; omega⟩ (Nat.le_of_ble_eq_true rfl) (by first | (dsimp only [rm]; omega) | omega) (by first | (dsimp only [rm]; omega) | omega) ?_
            rintro v S1 ⟨rfl, C', rfl, iH'⟩
            refine Ex.p rfl ?_
            refine Ex.sub (S' := [_, CT, C', CX]) [2, 0, 3, 1] rfl rfl ?_
            refine Ex.vret rfl rfl (by first | (dsimp only [rm]; omega) | omega) (by first | (dsimp only [rm]; omega) | omega) rfl ?_
            subst hQ
            rw [q2 rfl, if_pos ⟨hm0, hg0⟩]
            exact ⟨rfl, _, _, _, true, _, hl, _, _, _, LT, put2 LH 1 (cu, x, y, x2, y2, f9, t9), CT, C', rfl, iT, iH', rfl, put2_n LH _ (by decide), b5.2, rfl, rfl, hmono, (by rw [z1, h1]), z2, z3, z4, put2_s LH 1 _, z6, by dsimp only; omega, fun _ => z8 h1⟩
          refine Ex.p rfl ?_
          refine Ex.p rfl ?_
          refine Ex.p rfl ?_
          refine Ex.gf 0 0 rfl rfl rfl ?_
          refine Ex.p rfl ?_
          refine Ex.p rfl ?_
          refine Ex.p rfl ?_
          refine Ex.p rfl ?_
          refine Ex.p rfl ?_
          cases sl with
          | true =>
            obtain ⟨rfl, rfl⟩ := hst rfl
            refine Ex.br rfl (fun c => absurd c (show (1 : Int32) ≠ 0 by decide)) (fun _ => ?_)
            refine Ex.p rfl ?_
            refine Ex.p rfl ?_
            refine Ex.p rfl ?_
            refine Ex.br rfl (fun c => absurd c (show (1 : Int32) ≠ 0 by decide)) (fun _ => ?_)
            refine Ex.p rfl ?_
            refine Ex.p rfl ?_
            refine s214 _ (fun q h => ?_)
            simp only [List.mem_cons, List.not_mem_nil, or_false] at h
            rcases h with rfl | rfl <;> first | (simp [xs1, xs2, lv_args, Value.category, b32, nI]; done) | (simp [xs1, xs2, lv_args, Value.category, b32, nI]; decide) | (simp [xs1, xs2, lv_args, Value.category, b32, nI]; exact Or.inr (by decide)) | (simp [xs1, xs2, lv_args, Value.category, b32, nI]; exact Or.inl (by decide))
          | false =>
            obtain ⟨rfl, rfl⟩ := hsf rfl
            refine Ex.br rfl (fun _ => ?_) (fun c => absurd rfl c)
            refine Ex.p rfl ?_
            refine Ex.gf 0 0 rfl rfl rfl ?_
            refine Ex.p rfl ?_
            refine Ex.br rfl (fun _ => ?_) (fun c => absurd rfl c)
            refine Ex.p rfl ?_
            refine Ex.gf 0 0 rfl rfl rfl ?_
            refine s214 _ (fun q h => ?_)
            simp only [List.mem_cons, List.not_mem_nil, or_false] at h
            rcases h with rfl | rfl <;> first | (simp [xs1, xs2, lv_args, Value.category, b32, nI]; done) | (simp [xs1, xs2, lv_args, Value.category, b32, nI]; decide) | (simp [xs1, xs2, lv_args, Value.category, b32, nI]; exact Or.inr (by decide)) | (simp [xs1, xs2, lv_args, Value.category, b32, nI]; exact Or.inl (by decide))
    have s164 : ¬ (near2 x y ∧ near2 x2 y2 ∧ (LH 1).length < 60) → ∀ lv9 : List (Nat × Value), (∀ q ∈ [(8, Value.long y2.toInt64), (6, .long x2.toInt64), (5, .int (b32 sl)), (3, .long y.toInt64), (1, .long x.toInt64), (0, .ref m)], q ∈ lv9) → ∀ k8 n8 : Nat, k8 ≤ 0 → n8 ≤ 0 → Ex l mMo_readHit D R A (xQ D A Q) R.cells R.slots 164 lv9 [.ref m] [sMo m B th mn la (nI xs.length) (nI sE.2) (nI p) (wrF sE) me0 fi fe wa wn fo st hl rf rt cu, CT, CH, CX] k8 n8 := by
      intro g lv9 hlv k8 n8 hk8 hn8
      refine Ex.lv hlv ?_
      refine Ex.p rfl ?_
      refine s165 false (by rw [decide_eq_false g]) _ (fun q h => ?_) _ _ hk8 hn8
      simp only [List.mem_cons, List.not_mem_nil, or_false] at h
      rcases h with rfl | rfl | rfl | rfl | rfl | rfl <;> first | (simp [xs1, xs2, lv_args, Value.category, b32, nI]; done) | (simp [xs1, xs2, lv_args, Value.category, b32, nI]; decide) | (simp [xs1, xs2, lv_args, Value.category, b32, nI]; exact Or.inr (by decide)) | (simp [xs1, xs2, lv_args, Value.category, b32, nI]; exact Or.inl (by decide))
    refine Ex.p rfl ?_
    refine Ex.p rfl ?_
    refine Ex.p rfl ?_
    refine Ex.cs0 (Mc := mMo_isPlace) (Rc := rm 0 0 0) (As := [.long x.toInt64, .long y.toInt64]) (rest := [.ref m]) (ct_Mo_isPlace) rfl lk_10_111 lcMo_isPlace rfl ⟨by dsimp only [rm]; omega, by show 8 + (4 + 11) + 0 ≤ R.locals; omega⟩ (Nat.le_of_ble_eq_true rfl) (by first | (dsimp only [rm]; omega) | omega) (by first | (dsimp only [rm]; omega) | omega) ?_
    rintro v S1 ⟨rfl, rfl⟩
    by_cases g1 : near64 x.toInt64 y.toInt64
    · rw [decide_eq_true g1]
      refine Ex.br rfl (fun c => absurd c (show (1 : Int32) ≠ 0 by decide)) (fun _ => ?_)
      refine Ex.p rfl ?_
      refine Ex.p rfl ?_
      refine Ex.cs0 (Mc := mMo_isPlace) (Rc := rm 0 0 0) (As := [.long x2.toInt64, .long y2.toInt64]) (rest := [.ref m]) (ct_Mo_isPlace) rfl lk_10_111 lcMo_isPlace rfl ⟨by dsimp only [rm]; omega, by show 8 + (4 + 11) + 0 ≤ R.locals; omega⟩ (Nat.le_of_ble_eq_true rfl) (by first | (dsimp only [rm]; omega) | omega) (by first | (dsimp only [rm]; omega) | omega) ?_
      rintro v S1 ⟨rfl, rfl⟩
      by_cases g2 : near64 x2.toInt64 y2.toInt64
      · rw [decide_eq_true g2]
        refine Ex.br rfl (fun c => absurd c (show (1 : Int32) ≠ 0 by decide)) (fun _ => ?_)
        refine Ex.p rfl ?_
        refine Ex.gf 0 0 rfl rfl rfl ?_
        refine Ex.p rfl ?_
        refine Ex.ial 2 0 1 rfl (by rw [eH]; rfl) rfl rfl (by decide) ?_
        rw [t1]
        refine Ex.p rfl ?_
        refine Ex.br rfl (fun c => ?_) (fun c => ?_)
        · have c : nI 60 ≤ nI (LH 1).length := c
          rw [nI_leI (by omega) (by omega)] at c
          refine s164 (fun q => by omega) _ (fun q h => ?_) _ _ (by first | (dsimp only [rm]; omega) | omega) (by first | (dsimp only [rm]; omega) | omega)
          simp only [List.mem_cons, List.not_mem_nil, or_false] at h
          rcases h with rfl | rfl | rfl | rfl | rfl | rfl <;> first | (simp [xs1, xs2, lv_args, Value.category, b32, nI]; done) | (simp [xs1, xs2, lv_args, Value.category, b32, nI]; decide) | (simp [xs1, xs2, lv_args, Value.category, b32, nI]; exact Or.inr (by decide)) | (simp [xs1, xs2, lv_args, Value.category, b32, nI]; exact Or.inl (by decide))
        · have c : ¬ nI 60 ≤ nI (LH 1).length := c
          rw [nI_leI (by omega) (by omega)] at c
          refine Ex.p rfl ?_
          refine Ex.p rfl ?_
          refine s165 true (by rw [decide_eq_true]; exact ⟨near64_2.mp g1, near64_2.mp g2, by omega⟩) _ (fun q h => ?_) _ _ (by first | (dsimp only [rm]; omega) | omega) (by first | (dsimp only [rm]; omega) | omega)
          simp only [List.mem_cons, List.not_mem_nil, or_false] at h
          rcases h with rfl | rfl | rfl | rfl | rfl | rfl <;> first | (simp [xs1, xs2, lv_args, Value.category, b32, nI]; done) | (simp [xs1, xs2, lv_args, Value.category, b32, nI]; decide) | (simp [xs1, xs2, lv_args, Value.category, b32, nI]; exact Or.inr (by decide)) | (simp [xs1, xs2, lv_args, Value.category, b32, nI]; exact Or.inl (by decide))
      · rw [decide_eq_false g2]
        refine Ex.br rfl (fun _ => ?_) (fun c => absurd rfl c)
        refine s164 (fun q => g2 (near64_2.mpr q.2.1)) _ (fun q h => ?_) _ _ (by first | (dsimp only [rm]; omega) | omega) (by first | (dsimp only [rm]; omega) | omega)
        simp only [List.mem_cons, List.not_mem_nil, or_false] at h
        rcases h with rfl | rfl | rfl | rfl | rfl | rfl <;> first | (simp [xs1, xs2, lv_args, Value.category, b32, nI]; done) | (simp [xs1, xs2, lv_args, Value.category, b32, nI]; decide) | (simp [xs1, xs2, lv_args, Value.category, b32, nI]; exact Or.inr (by decide)) | (simp [xs1, xs2, lv_args, Value.category, b32, nI]; exact Or.inl (by decide))
    · rw [decide_eq_false g1]
      refine Ex.br rfl (fun _ => ?_) (fun c => absurd rfl c)
      refine s164 (fun q => g1 (near64_2.mpr q.1)) _ (fun q h => ?_) _ _ (by first | (dsimp only [rm]; omega) | omega) (by first | (dsimp only [rm]; omega) | omega)
      simp only [List.mem_cons, List.not_mem_nil, or_false] at h
      rcases h with rfl | rfl | rfl | rfl | rfl | rfl <;> first | (simp [xs1, xs2, lv_args, Value.category, b32, nI]; done) | (simp [xs1, xs2, lv_args, Value.category, b32, nI]; decide) | (simp [xs1, xs2, lv_args, Value.category, b32, nI]; exact Or.inr (by decide)) | (simp [xs1, xs2, lv_args, Value.category, b32, nI]; exact Or.inl (by decide))
  have s47 : (eX xs 71 s3).1 = false → ∀ lv9 : List (Nat × Value), (∀ q ∈ [(3, Value.long y.toInt64), (1, .long x.toInt64), (0, .ref m)], q ∈ lv9) → Ex l mMo_readHit D R A (xQ D A Q) R.cells R.slots 47 lv9 [] [sMo m B th mn la (nI xs.length) (nI s3.2) (nI p) (wrF s3) true fi fe wa wn fo st hl rf rt cu, CT, CH, CX] 0 0 := by
    intro g lv9 hlv
    obtain ⟨q1, q2⟩ := hole _ g rfl
    have hm9 := eX_le (u := 10) (by decide) b3.2
    refine Ex.lv hlv ?_
    refine Ex.p rfl ?_
    refine Ex.p rfl ?_
    refine Ex.p rfl ?_
    refine Ex.p rfl ?_
    refine Ex.p rfl ?_
    refine Ex.p rfl ?_
    refine Ex.p rfl ?_
    refine Ex.br rfl (fun _ => ?_) (fun c => absurd rfl c)
    refine s130 false true x y rf rt s3 b3.2 (by omega) (fun q => by cases q) (fun _ => ⟨rfl, rfl⟩) (fun _ => by simp [hslot]) q1 (fun q => ?_) _ (fun q h => ?_) 0 0 (Nat.le_refl _) (Nat.le_refl _)
    · rw [q2 q]
      by_cases g9 : near2 x y ∧ (LH 1).length < 60
      · rw [if_pos g9, if_pos ⟨rfl, g9.1, g9.1, g9.2⟩]
      · rw [if_neg g9, if_neg (fun q => g9 ⟨q.2.1, q.2.2.2⟩)]
    · simp only [List.mem_cons, List.not_mem_nil, or_false] at h
      rcases h with rfl | rfl | rfl | rfl | rfl | rfl <;> first | (simp [xs1, xs2, lv_args, Value.category, b32, nI]; done) | (simp [xs1, xs2, lv_args, Value.category, b32, nI]; decide) | (simp [xs1, xs2, lv_args, Value.category, b32, nI]; exact Or.inr (by decide)) | (simp [xs1, xs2, lv_args, Value.category, b32, nI]; exact Or.inl (by decide))
  refine Ex.p rfl ?_
  refine Ex.p rfl ?_
  refine Ex.gf 0 0 rfl rfl rfl ?_
  refine Ex.p rfl ?_
  refine Ex.p rfl ?_
  rw [i_add1]
  refine Ex.pf 0 0 rfl rfl rfl rfl rfl rfl ?_
  refine Ex.p rfl ?_
  refine Ex.num (s := (true, p + 1)) iX hlt rfl rfl (by omega) (by omega) (by omega) (by omega) (by decide) ?_
  rw [hvx]
  refine Ex.p rfl ?_
  refine Ex.p rfl ?_
  refine Ex.p rfl ?_
  refine Ex.xpc (u := 89) (s := nS xs (true, p + 1)) iX b1.2 rfl rfl (by omega) (by omega) (by omega) (by omega) (by decide) ?_
  rw [e2]
  refine Ex.p rfl ?_
  refine Ex.num (s := s2) iX b2.2 rfl rfl (by omega) (by omega) (by omega) (by omega) (by decide) ?_
  rw [hvy, e3']
  refine Ex.p rfl ?_
  refine Ex.p rfl ?_
  refine Ex.gf 0 0 rfl rfl rfl ?_
  refine Ex.p rfl ?_
  obtain ⟨b, e⟩ := s3
  cases b with
  | false =>
    refine Ex.br rfl (fun _ => ?_) (fun c => absurd (nI_ne1 (by dsimp only at b3 ⊢; omega)) c)
    refine s47 rfl _ (fun q h => ?_)
    simp only [List.mem_cons, List.not_mem_nil, or_false] at h
    rcases h with rfl | rfl | rfl <;> first | (simp [xs1, xs2, lv_args, Value.category, b32, nI]; done) | (simp [xs1, xs2, lv_args, Value.category, b32, nI]; decide) | (simp [xs1, xs2, lv_args, Value.category, b32, nI]; exact Or.inr (by decide)) | (simp [xs1, xs2, lv_args, Value.category, b32, nI]; exact Or.inl (by decide))
  | true =>
    refine Ex.br rfl (fun c => absurd rfl c) (fun _ => ?_)
    refine Ex.p rfl ?_
    refine Ex.now (p := e) iX b3.2 rfl rfl (by omega) (by omega) (by omega) (by omega) (by decide) ?_
    refine Ex.p rfl ?_
    refine Ex.br rfl (fun c => ?_) (fun c => ?_)
    · have c : ¬ gt xs e = 71 := c
      refine s47 (by rw [eX_no c]) _ (fun q h => ?_)
      simp only [List.mem_cons, List.not_mem_nil, or_false] at h
      rcases h with rfl | rfl | rfl <;> first | (simp [xs1, xs2, lv_args, Value.category, b32, nI]; done) | (simp [xs1, xs2, lv_args, Value.category, b32, nI]; decide) | (simp [xs1, xs2, lv_args, Value.category, b32, nI]; exact Or.inr (by decide)) | (simp [xs1, xs2, lv_args, Value.category, b32, nI]; exact Or.inl (by decide))
    · have c : ¬ ¬ gt xs e = 71 := c
      have c := Decidable.not_not.mp c
      have e4 := eX_yes c
      rw [e4] at slot
      have he : e < xs.length := gt_lt (by rw [c]; decide)
      have b5 := eX_le (u := 56) (s := (true, e + 1)) (by decide) he
      have b6 := eX_le (u := 53) (by decide) b5.2
      generalize e5 : eX xs 56 (true, e + 1) = s5 at b5 b6 slot
      generalize e6 : eX xs 53 s5 = s6 at b6 slot
      have b7 := eX_le (u := 88) (by decide) b6.2
      have b8 := nS_le b7.2
      have b9 := eX_le (u := 89) (by decide) b8.2
      have b10 := nS_le b9.2
      have b11 := eX_le (u := 10) (by decide) b10.2
      obtain ⟨q1, q2⟩ := slot s6 _ _ _ _ rfl rfl rfl rfl rfl rfl
      unfold plS at q1 q2
      generalize e7 : eX xs 88 s6 = s7 at b7 b8 b9 b10 b11 q1 q2
      generalize e8 : nS xs s7 = s8 at b8 b9 b10 b11 q1 q2
      generalize e9 : eX xs 89 s8 = s9 at b9 b10 b11 q1 q2
      generalize e10 : nS xs s9 = s10 at b10 b11 q1 q2
      refine Ex.p rfl ?_
      refine Ex.p rfl ?_
      refine Ex.p rfl ?_
      refine Ex.p rfl ?_
      refine Ex.p rfl ?_
      refine Ex.p rfl ?_
      refine Ex.p rfl ?_
      refine Ex.p rfl ?_
      refine Ex.br rfl (fun c => absurd c (show (1 : Int32) ≠ 0 by decide)) (fun _ => ?_)
      refine Ex.p rfl ?_
      refine Ex.p rfl ?_
      refine Ex.gf 0 0 rfl rfl rfl ?_
      refine Ex.p rfl ?_
      refine Ex.p rfl ?_
      rw [i_add1]
      refine Ex.pf 0 0 rfl rfl rfl rfl rfl rfl ?_
      refine Ex.p rfl ?_
      refine Ex.p rfl ?_
      refine Ex.xpc (u := 56) (s := (true, e + 1)) iX he rfl rfl (by omega) (by omega) (by omega) (by omega) (by decide) ?_
      rw [e5]
      refine Ex.p rfl ?_
      refine Ex.p rfl ?_
      refine Ex.xpc (u := 53) (s := s5) iX b5.2 rfl rfl (by omega) (by omega) (by omega) (by omega) (by decide) ?_
      rw [e6]
      refine Ex.p rfl ?_
      refine Ex.p rfl ?_
      refine Ex.xpc (u := 88) (s := s6) iX b6.2 rfl rfl (by omega) (by omega) (by omega) (by omega) (by decide) ?_
      rw [e7]
      refine Ex.p rfl ?_
      refine Ex.num (s := s7) iX b7.2 rfl rfl (by omega) (by omega) (by omega) (by omega) (by decide) ?_
      rw [e8]
      refine Ex.p rfl ?_
      refine Ex.p rfl ?_
      refine Ex.p rfl ?_
      refine Ex.xpc (u := 89) (s := s8) iX b8.2 rfl rfl (by omega) (by omega) (by omega) (by omega) (by decide) ?_
      rw [e9]
      refine Ex.p rfl ?_
      refine Ex.num (s := s9) iX b9.2 rfl rfl (by omega) (by omega) (by omega) (by omega) (by decide) ?_
      rw [e10]
      generalize nV xs s7 = x2 at q2
      generalize nV xs s9 = y2 at q2
      have hmono : p < (eX xs 10 s10).2 := by
        dsimp only at b5 hmono3
        omega
      have s127 : ∀ g : Bool, g = decide (¬ (x = x2 ∧ y = y2)) → ∀ lv9 : List (Nat × Value), (∀ q ∈ [(8, Value.long y2.toInt64), (6, .long x2.toInt64), (5, .int 1), (3, .long y.toInt64), (1, .long x.toInt64), (0, .ref m)], q ∈ lv9) → Ex l mMo_readHit D R A (xQ D A Q) R.cells R.slots 127 lv9 [.int (b32 g), .ref m] [sMo m B th mn la (nI xs.length) (nI s10.2) (nI p) (wrF s10) true fi fe wa wn fo st hl rf rt cu, CT, CH, CX] 0 0 := by
        intro g hg lv9 hlv
        refine Ex.lv hlv ?_
        refine Ex.must  rfl rfl (by omega) (by omega) (by omega) (by omega) (by decide) ?_
        refine s130 true (true && g) x2 y2 0 7 s10 b10.2 hmono (fun _ => ⟨rfl, rfl⟩) (fun q => by cases q) (fun q => ?_) q1 (fun q => ?_) _ (fun q h => ?_) 0 0 (Nat.le_refl _) (Nat.le_refl _)
        · rw [Bool.true_and, hg] at q
          have q := of_decide_eq_true q
          simp [hslot]
          exact Decidable.not_and_iff_not_or_not.mp q
        · rw [q2 q]
          by_cases g9 : (near2 x y ∧ near2 x2 y2) ∧ ¬ (x = x2 ∧ y = y2) ∧ (LH 1).length < 60
          · rw [if_pos g9, if_pos ⟨by rw [hg, decide_eq_true g9.2.1]; rfl, g9.1.1, g9.1.2, g9.2.2⟩]
          · rw [if_neg g9, if_neg (fun q => g9 ⟨⟨q.2.1, q.2.2.1⟩, of_decide_eq_true (by rw [← hg]; exact q.1), q.2.2.2⟩)]
        · simp only [List.mem_cons, List.not_mem_nil, or_false] at h
          rcases h with rfl | rfl | rfl | rfl | rfl | rfl <;> first | (simp [xs1, xs2, lv_args, Value.category, b32, nI]; done) | (simp [xs1, xs2, lv_args, Value.category, b32, nI]; decide) | (simp [xs1, xs2, lv_args, Value.category, b32, nI]; exact Or.inr (by decide)) | (simp [xs1, xs2, lv_args, Value.category, b32, nI]; exact Or.inl (by decide))
      have eq64 : ∀ {u w : Int32}, lg_cmp u.toInt64 w.toInt64 = 0 ↔ u = w := by
        intro u w
        rw [lg_cmp_eq]
        constructor
        · intro q
          have q := congrArg Int64.toInt32 q
          rw [Int32.toInt32_toInt64, Int32.toInt32_toInt64] at q
          exact q
        · intro q
          rw [q]
      refine Ex.p rfl ?_
      refine Ex.p rfl ?_
      refine Ex.p rfl ?_
      refine Ex.p rfl ?_
      refine Ex.p rfl ?_
      refine Ex.br rfl (fun c => ?_) (fun c => ?_)
      · have c : ¬ lg_cmp x.toInt64 x2.toInt64 = 0 := c
        rw [eq64] at c
        refine Ex.p rfl ?_
        refine Ex.p rfl ?_
        refine s127 true (decide_eq_true (p := ¬ (x = x2 ∧ y = y2)) (fun q => c q.1)).symm _ (fun q h => ?_)
        simp only [List.mem_cons, List.not_mem_nil, or_false] at h
        rcases h with rfl | rfl | rfl | rfl | rfl | rfl <;> first | (simp [xs1, xs2, lv_args, Value.category, b32, nI]; done) | (simp [xs1, xs2, lv_args, Value.category, b32, nI]; decide) | (simp [xs1, xs2, lv_args, Value.category, b32, nI]; exact Or.inr (by decide)) | (simp [xs1, xs2, lv_args, Value.category, b32, nI]; exact Or.inl (by decide))
      · have c : ¬ ¬ lg_cmp x.toInt64 x2.toInt64 = 0 := c
        have c := Decidable.not_not.mp c
        rw [eq64] at c
        refine Ex.p rfl ?_
        refine Ex.p rfl ?_
        refine Ex.p rfl ?_
        refine Ex.br rfl (fun c2 => ?_) (fun c2 => ?_)
        · have c2 : lg_cmp y.toInt64 y2.toInt64 = 0 := c2
          rw [eq64] at c2
          refine Ex.p rfl ?_
          refine s127 false (by rw [decide_eq_false (fun q => q ⟨c, c2⟩)]) _ (fun q h => ?_)
          simp only [List.mem_cons, List.not_mem_nil, or_false] at h
          rcases h with rfl | rfl | rfl | rfl | rfl | rfl <;> first | (simp [xs1, xs2, lv_args, Value.category, b32, nI]; done) | (simp [xs1, xs2, lv_args, Value.category, b32, nI]; decide) | (simp [xs1, xs2, lv_args, Value.category, b32, nI]; exact Or.inr (by decide)) | (simp [xs1, xs2, lv_args, Value.category, b32, nI]; exact Or.inl (by decide))
        · have c2 : ¬ lg_cmp y.toInt64 y2.toInt64 = 0 := c2
          rw [eq64] at c2
          refine Ex.p rfl ?_
          refine Ex.p rfl ?_
          refine s127 true (decide_eq_true (p := ¬ (x = x2 ∧ y = y2)) (fun q => c2 q.2)).symm _ (fun q h => ?_)
          simp only [List.mem_cons, List.not_mem_nil, or_false] at h
          rcases h with rfl | rfl | rfl | rfl | rfl | rfl <;> first | (simp [xs1, xs2, lv_args, Value.category, b32, nI]; done) | (simp [xs1, xs2, lv_args, Value.category, b32, nI]; decide) | (simp [xs1, xs2, lv_args, Value.category, b32, nI]; exact Or.inr (by decide)) | (simp [xs1, xs2, lv_args, Value.category, b32, nI]; exact Or.inl (by decide))
end MOM

/-! TextReader: readHitLine -/
theorem pPlace_le {xs : List Int32} {p : Nat} (hp : p ≤ xs.length) : p ≤ (pPlace xs p).2 ∧ (pPlace xs p).2 ≤ xs.length ∧ ((pPlace xs p).1 ≠ none → p < (pPlace xs p).2) := by
  have h1 := pPart_le (xs := xs) (c := 88) (sg := true) (by decide) hp
  unfold pPlace
  generalize pPart xs 88 true p = P1 at h1
  obtain ⟨o1, p1⟩ := P1
  cases o1 with
  | none => exact ⟨h1.1, h1.2.1, fun h => absurd rfl h⟩
  | some x =>
    have h2 := pPart_le (xs := xs) (c := 89) (sg := true) (by decide) h1.2.1
    dsimp only at h1 h2 ⊢
    generalize pPart xs 89 true p1 = P2 at h2
    obtain ⟨o2, p2⟩ := P2
    have h3 := h1.2.2 (by simp)
    cases o2 with
    | none => exact ⟨by dsimp only at h2 ⊢; omega, h2.2.1, fun h => absurd rfl h⟩
    | some y => exact ⟨by dsimp only at h2 ⊢; omega, h2.2.1, fun _ => by dsimp only at h2 ⊢; omega⟩
section R5
variable {l : Launch} {D : xD} {R : Room}
theorem ct_Tr_readHitLine {a tx d p cp L c : Nat} {f t ch nu px py : Int32} {xs : List Int32} {ts : List TV} {hs : List (Nat × HV)} {t0 : TV} {Cx Cd T Hs : va_W} (hx : IsRow D tx L cp xs Cx) (hd : IsDr D d ts hs Cd T Hs) (hp : p ≤ xs.length) (hch : ch.toInt = c) (ht0 : ts[c]? = some t0) (hlt : hs.length < 60 → t0.2.2.2.1.length < 60) (hr : rmOk R 5 8 127) : Ct l mTr_readHitLine D R [.ref a] [sTr a tx d p f t ch nu px py, Cx, Cd, T, Hs] (fun v S => v = some (.int (b32 (pHitLine xs hs.length ch f t p).1.isSome)) ∧ ∃ nu' px' py' Cd' T' ts' hs', S = [sTr a tx d (pHitLine xs hs.length ch f t p).2 f t ch nu' px' py', Cx, Cd', T', sHs hs'] ∧ IsDr D d ts' hs' Cd' T' (sHs hs') ∧ (∀ x, (pHitLine xs hs.length ch f t p).1 = some x → ∃ q, ts' = ts.set c (tadd t0 (nI hs.length)) ∧ hs' = hs ++ [(q, x)]) ∧ ((pHitLine xs hs.length ch f t p).1 = none → ts' = ts ∧ hs' = hs)) := by
  obtain ⟨r1, r2, r3, r4⟩ := hr
  obtain ⟨ta, ha, ft, fh, eCd, hTs, hHs, -, -, h3, h4⟩ := id hd
  obtain ⟨arr, fx, eCx, x1, x2, x3, x4, x5, x6⟩ := id hx
  have hgrow : rcap t0.2.2.2.2.2.2.2.1 t0.2.2.2.1.length - t0.2.2.2.2.2.2.2.1 ≤ 60 := by
    obtain ⟨X, C, Y, -, ⟨rh, ro, Ch, Co, -, ⟨_, _, _, g1, g2, _⟩, -⟩, -⟩ := IsTs.at hTs ht0
    unfold rcap
    split <;> omega
  generalize hP : pHitLine xs hs.length ch f t p = P
  unfold pHitLine at hP
  refine Ct.of rfl (by decide) tkTr_readHitLine (Nat.le_of_ble_eq_true rfl) (fun A => ?_)
  generalize hQ : (fun (v : Option Value) S => v = some (.int (b32 P.1.isSome)) ∧ ∃ nu' px' py' Cd' T' ts' hs', S = [sTr a tx d P.2 f t ch nu' px' py', Cx, Cd', T', sHs hs'] ∧ IsDr D d ts' hs' Cd' T' (sHs hs') ∧ (∀ x, P.1 = some x → ∃ q, ts' = ts.set c (tadd t0 (nI hs.length)) ∧ hs' = hs ++ [(q, x)]) ∧ (P.1 = none → ts' = ts ∧ hs' = hs)) = Q
  have failed : ∀ (q : Nat) (nu' px' py' : Int32) (lv9 : List (Nat × Value)) (pc k n : Nat), P = (none, q) → xfe mTr_readHitLine.2.2.2.2.2 pc = some .ireturn → k ≤ R.cells → n ≤ R.slots → Ex l mTr_readHitLine D R A (xQ D A Q) R.cells R.slots pc lv9 [.int 0] [sTr a tx d q f t ch nu' px' py', Cx, Cd, T, Hs] k n := by
    intro q nu' px' py' lv9 pc k n e hf hk hn
    refine Ex.zret hf rfl (Or.inl rfl) hk hn rfl ?_
    subst hQ
    rw [e, hHs]
    exact ⟨rfl, _, _, _, _, _, ts, hs, rfl, hHs ▸ hd, (fun x h => by cases h), (fun _ => ⟨rfl, rfl⟩)⟩
  have tail : ∀ (sl : Bool) (x y x2 y2 nu' : Int32) (q : Nat), P = (if (near2 x y ∧ near2 x2 y2) ∧ decide (¬ (x = x2 ∧ y = y2)) = sl ∧ hs.length < 60 then (some (ch, x, y, x2, y2, if sl then 0 else f, if sl then 7 else t), q) else (none, p)) → ∀ lv9 : List (Nat × Value), (∀ z ∈ [(4, Value.int (b32 sl)), (3, .int y), (2, .int x), (1, .int (nI p)), (0, .ref a)], z ∈ lv9) →
      Ex l mTr_readHitLine D R A (xQ D A Q) R.cells R.slots 81 lv9 [] [sTr a tx d q f t ch nu' x2 y2, Cx, Cd, T, Hs] 0 0 := by
    intro sl x y x2 y2 nu' q hPt lv9 hlv
    refine Ex.lv hlv ?_
    have s221 : ¬ ((near2 x y ∧ near2 x2 y2) ∧ decide (¬ (x = x2 ∧ y = y2)) = sl ∧ hs.length < 60) → ∀ (k n : Nat), k ≤ R.cells → n ≤ R.slots → ∀ lv9 : List (Nat × Value), (∀ z ∈ [(1, Value.int (nI p)), (0, .ref a)], z ∈ lv9) → Ex l mTr_readHitLine D R A (xQ D A Q) R.cells R.slots 221 lv9 [.ref a] [sTr a tx d q f t ch nu' x2 y2, Cx, Cd, T, Hs] k n := by
      intro hne k n hk hn lv9 hlv
      refine Ex.lv hlv ?_
      rw [if_neg hne] at hPt
      refine Ex.p rfl ?_
      refine Ex.p rfl ?_
      refine Ex.cv (Mc := mTr_can) (Rc := rm 0 0 0) (As := [.int (b32 false), .int (nI p)]) (rest := []) (Sr := [Cx, Cd, T, Hs]) (ic := 0) (jc := 0) (ci := 7) [0] [1, 2, 3, 4] (ct_Tr_can) rfl lk_7_86 lcTr_can rfl rfl rfl rfl rfl (by decide) rfl rfl rfl (by decide) ⟨by dsimp only [rm]; omega, by show 8 + (3 + 11) + 0 ≤ R.locals; omega⟩ (Nat.le_of_ble_eq_true rfl) (by dsimp only [rm]; omega) (by dsimp only [rm]; omega) ?_
      rintro w S1 ⟨rfl, rfl⟩
      refine Ex.sub (S' := [sTr a tx d p f t ch nu' x2 y2, Cx, Cd, T, Hs]) [4, 0, 1, 2, 3] rfl rfl ?_
      exact failed p _ _ _ _ _ _ _ hPt rfl (by dsimp only [rm]; omega) (by dsimp only [rm]; omega)
    have s168 : ∀ (pb ap : Bool) (lo hi : Int32), pb = decide (near2 x y ∧ near2 x2 y2) → ap = decide (¬ (x = x2 ∧ y = y2)) → lo = (if sl then 0 else f) → hi = (if sl then 7 else t) → ∀ lv9 : List (Nat × Value), (∀ z ∈ [(8, Value.int hi), (7, .int lo), (6, .int (b32 ap)), (5, .int (b32 pb)), (4, .int (b32 sl)), (3, .int y), (2, .int x), (1, .int (nI p)), (0, .ref a)], z ∈ lv9) → Ex l mTr_readHitLine D R A (xQ D A Q) R.cells R.slots 168 lv9 [] [sTr a tx d q f t ch nu' x2 y2, Cx, Cd, T, Hs] 0 0 := by
      intro pb ap lo hi hpb hap hlo hhi lv9 hlv
      refine Ex.lv hlv ?_
      refine Ex.p rfl ?_
      refine Ex.p rfl ?_
      cases pb with
      | false =>
        refine Ex.br rfl (fun _ => ?_) (fun c => absurd rfl c)
        refine s221 (fun q => of_decide_eq_false hpb.symm q.1) _ _ (Nat.zero_le _) (Nat.zero_le _) _ (fun z h => ?_)
        simp only [List.mem_cons, List.not_mem_nil, or_false] at h
        rcases h with rfl | rfl <;> first | (simp [xs1, lv_args, Value.category, b32, nI]; done) | (simp [xs1, lv_args, Value.category, b32, nI]; decide) | (simp [xs1, lv_args, Value.category, b32, nI]; exact Or.inr (by decide))
      | true =>
        have hpb := of_decide_eq_true hpb.symm
        refine Ex.br rfl (fun c => absurd c (show (1 : Int32) ≠ 0 by decide)) (fun _ => ?_)
        refine Ex.p rfl ?_
        refine Ex.p rfl ?_
        refine Ex.br rfl (fun c => ?_) (fun c => ?_)
        · refine s221 (fun q => ?_) _ _ (Nat.zero_le _) (Nat.zero_le _) _ (fun z h => ?_)
          · rw [q.2.1] at hap
            subst hap
            exact c rfl
          · simp only [List.mem_cons, List.not_mem_nil, or_false] at h
            rcases h with rfl | rfl <;> first | (simp [xs1, lv_args, Value.category, b32, nI]; done) | (simp [xs1, lv_args, Value.category, b32, nI]; decide) | (simp [xs1, lv_args, Value.category, b32, nI]; exact Or.inr (by decide))
        · have c : b32 ap = b32 sl := Decidable.byContradiction c
          have hsl : ap = sl := by cases ap <;> cases sl <;> first | rfl | exact absurd c (by decide)
          refine Ex.p rfl ?_
          refine Ex.gf 0 0 rfl rfl rfl ?_
          refine Ex.new (ci := 3) (N := 7) rfl rfl (by omega) (by omega) (fun q9 => ?_)
          refine Ex.p rfl ?_
          refine Ex.p rfl ?_
          refine Ex.gf 0 0 rfl rfl rfl ?_
          refine Ex.p rfl ?_
          refine Ex.p rfl ?_
          refine Ex.p rfl ?_
          refine Ex.gf 0 0 rfl rfl rfl ?_
          refine Ex.p rfl ?_
          refine Ex.gf 0 0 rfl rfl rfl ?_
          refine Ex.p rfl ?_
          refine Ex.p rfl ?_
          refine Ex.ci (Mc := mHi_init) (Rc := rm 1 0 0) (As := [.int ch, .int x, .int y, .int x2, .int y2, .int lo, .int hi]) (rest := [.ref q9, .ref d, .ref a]) (Sr := [sTr a tx d q f t ch nu' x2 y2, Cx, Cd, T, Hs]) [5] [0, 1, 2, 3, 4] (ct_Hi_init (h := (ch, x, y, x2, y2, lo, hi)) (rm_ok _ _ _)) rfl lk_7_128 lcHi_init rfl rfl rfl rfl rfl (by decide) ⟨by dsimp only [rm]; omega, by show 8 + (8 + 11) + 40 ≤ R.locals; omega⟩ (Nat.le_of_ble_eq_true rfl) (by dsimp only [rm]; omega) (by dsimp only [rm]; omega) ?_
          rintro w S1 ⟨rfl, rfl⟩
          refine Ex.cv (Mc := mDr_addHit) (Rc := rm 4 ((rcap t0.2.2.2.2.2.2.2.1 t0.2.2.2.1.length - t0.2.2.2.2.2.2.2.1) / 8) (2 * (rcap t0.2.2.2.2.2.2.2.1 t0.2.2.2.1.length - t0.2.2.2.2.2.2.2.1))) (As := [.ref q9]) (rest := [.ref a]) (Sr := [sTr a tx d q f t ch nu' x2 y2, Cx]) (ic := 2) (jc := 0) (ci := 1) [2, 3, 4, 5] [0, 1] (ct_Dr_addHit (h9 := (ch, x, y, x2, y2, lo, hi)) hd hch ht0 hlt (rm_ok _ _ _)) rfl lk_7_131 lcDr_addHit rfl rfl rfl rfl rfl (by decide) rfl (by rw [eCd]; rfl) rfl (by decide) ⟨by dsimp only [rm]; omega, by show 8 + (3 + 11) + 160 ≤ R.locals; omega⟩ (Nat.le_of_ble_eq_true rfl) (by dsimp only [rm]; omega) (by dsimp only [rm]; omega) ?_
          rintro w S1 h9
          rcases h9 with ⟨h10, rfl, rfl⟩ | ⟨h10, rfl, Cd', T', rfl, hd'⟩
          · refine Ex.p rfl ?_
            refine Ex.br rfl (fun _ => ?_) (fun c => absurd rfl c)
            refine Ex.sub (S' := [sTr a tx d q f t ch nu' x2 y2, Cx, Cd, T, Hs]) [0, 1, 2, 3, 4] rfl rfl ?_
            refine s221 (fun q => by omega) _ _ (by dsimp only [rm]; omega) (by dsimp only [rm]; omega) _ (fun z h => ?_)
            simp only [List.mem_cons, List.not_mem_nil, or_false] at h
            rcases h with rfl | rfl <;> first | (simp [xs1, lv_args, Value.category, b32, nI]; done) | (simp [xs1, lv_args, Value.category, b32, nI]; decide) | (simp [xs1, lv_args, Value.category, b32, nI]; exact Or.inr (by decide))
          · refine Ex.p rfl ?_
            refine Ex.br rfl (fun c => ?_) (fun _ => ?_)
            · have c := congrArg Int32.toInt c
              rw [nI_toInt (by omega), show (Int32.ofInt (-1)).toInt = -1 from rfl] at c
              omega
            · rw [if_pos ⟨hpb, by rw [← hap]; exact hsl, h10⟩, ← hlo, ← hhi] at hPt
              refine Ex.p rfl ?_
              refine Ex.p rfl ?_
              refine Ex.p rfl ?_
              refine Ex.cv (Mc := mTr_can) (Rc := rm 0 0 0) (As := [.int (b32 true), .int (nI p)]) (rest := []) (Sr := [Cx, Cd', T', sHs (hs ++ [(q9, (ch, x, y, x2, y2, lo, hi))])]) (ic := 0) (jc := 0) (ci := 7) [0] [1, 2, 3, 4] (ct_Tr_can) rfl lk_7_86 lcTr_can rfl rfl rfl rfl rfl (by decide) rfl rfl rfl (by decide) ⟨by dsimp only [rm]; omega, by show 8 + (3 + 11) + 0 ≤ R.locals; omega⟩ (Nat.le_of_ble_eq_true rfl) (by dsimp only [rm]; omega) (by dsimp only [rm]; omega) ?_
              rintro w S1 ⟨rfl, rfl⟩
              refine Ex.sub (S' := [sTr a tx d q f t ch nu' x2 y2, Cx, Cd', T', sHs (hs ++ [(q9, (ch, x, y, x2, y2, lo, hi))])]) [4, 0, 1, 2, 3] rfl rfl ?_
              refine Ex.zret rfl rfl (Or.inr rfl) (by dsimp only [rm]; omega) (by dsimp only [rm]; omega) rfl ?_
              subst hQ
              rw [hPt]
              exact ⟨rfl, _, _, _, _, _, _, _, rfl, hd', (fun x h => by cases h; exact ⟨q9, rfl, rfl⟩), (fun h => by cases h)⟩
    have s135 : ∀ (pb ap : Bool), pb = decide (near2 x y ∧ near2 x2 y2) → ap = decide (¬ (x = x2 ∧ y = y2)) → ∀ lv9 : List (Nat × Value), (∀ z ∈ [(5, .int (b32 pb)), (4, Value.int (b32 sl)), (3, .int y), (2, .int x), (1, .int (nI p)), (0, .ref a)], z ∈ lv9) → Ex l mTr_readHitLine D R A (xQ D A Q) R.cells R.slots 135 lv9 [.int (b32 ap)] [sTr a tx d q f t ch nu' x2 y2, Cx, Cd, T, Hs] 0 0 := by
      intro pb ap hpb hap lv9 hlv
      refine Ex.lv hlv ?_
      refine Ex.p rfl ?_
      refine Ex.p rfl ?_
      cases sl with
      | false =>
        refine Ex.br rfl (fun _ => ?_) (fun c => absurd rfl c)
        refine Ex.p rfl ?_
        refine Ex.gf 0 0 rfl rfl rfl ?_
        refine Ex.p rfl ?_
        refine Ex.p rfl ?_
        refine Ex.br rfl (fun _ => ?_) (fun c => absurd rfl c)
        refine Ex.p rfl ?_
        refine Ex.gf 0 0 rfl rfl rfl ?_
        refine Ex.p rfl ?_
        refine s168 pb ap f t hpb hap rfl rfl _ (fun z h => ?_)
        simp only [List.mem_cons, List.not_mem_nil, or_false] at h
        rcases h with rfl | rfl | rfl | rfl | rfl | rfl | rfl | rfl | rfl <;> first | (simp [xs1, lv_args, Value.category, b32, nI]; done) | (simp [xs1, lv_args, Value.category, b32, nI]; decide) | (simp [xs1, lv_args, Value.category, b32, nI]; exact Or.inr (by decide))
      | true =>
        refine Ex.br rfl (fun c => absurd c (show (1 : Int32) ≠ 0 by decide)) (fun _ => ?_)
        refine Ex.p rfl ?_
        refine Ex.p rfl ?_
        refine Ex.p rfl ?_
        refine Ex.p rfl ?_
        refine Ex.br rfl (fun c => absurd c (show (1 : Int32) ≠ 0 by decide)) (fun _ => ?_)
        refine Ex.p rfl ?_
        refine Ex.p rfl ?_
        refine Ex.p rfl ?_
        refine s168 pb ap 0 7 hpb hap rfl rfl _ (fun z h => ?_)
        simp only [List.mem_cons, List.not_mem_nil, or_false] at h
        rcases h with rfl | rfl | rfl | rfl | rfl | rfl | rfl | rfl | rfl <;> first | (simp [xs1, lv_args, Value.category, b32, nI]; done) | (simp [xs1, lv_args, Value.category, b32, nI]; decide) | (simp [xs1, lv_args, Value.category, b32, nI]; exact Or.inr (by decide))
    have s112 : ∀ (pb : Bool), pb = decide (near2 x y ∧ near2 x2 y2) → Ex l mTr_readHitLine D R A (xQ D A Q) R.cells R.slots 112 [(4, Value.int (b32 sl)), (3, .int y), (2, .int x), (1, .int (nI p)), (0, .ref a)] [.int (b32 pb)] [sTr a tx d q f t ch nu' x2 y2, Cx, Cd, T, Hs] 0 0 := by
      intro pb hpb
      refine Ex.p rfl ?_
      refine Ex.p rfl ?_
      refine Ex.p rfl ?_
      refine Ex.gf 0 0 rfl rfl rfl ?_
      refine Ex.br rfl (fun c => ?_) (fun c => ?_)
      · have c : ¬ x = x2 := c
        refine Ex.p rfl ?_
        refine Ex.p rfl ?_
        refine s135 pb true hpb (decide_eq_true (p := ¬ (x = x2 ∧ y = y2)) (fun q => c q.1)).symm _ (fun z h => ?_)
        simp only [List.mem_cons, List.not_mem_nil, or_false] at h
        rcases h with rfl | rfl | rfl | rfl | rfl | rfl <;> first | (simp [xs1, lv_args, Value.category, b32, nI]; done) | (simp [xs1, lv_args, Value.category, b32, nI]; decide) | (simp [xs1, lv_args, Value.category, b32, nI]; exact Or.inr (by decide))
      · have c : x = x2 := Decidable.byContradiction c
        refine Ex.p rfl ?_
        refine Ex.p rfl ?_
        refine Ex.gf 0 0 rfl rfl rfl ?_
        refine Ex.br rfl (fun c2 => ?_) (fun c2 => ?_)
        · have c2 : y = y2 := c2
          refine Ex.p rfl ?_
          refine s135 pb false hpb (by rw [decide_eq_false (fun q => q ⟨c, c2⟩)]) _ (fun z h => ?_)
          simp only [List.mem_cons, List.not_mem_nil, or_false] at h
          rcases h with rfl | rfl | rfl | rfl | rfl | rfl <;> first | (simp [xs1, lv_args, Value.category, b32, nI]; done) | (simp [xs1, lv_args, Value.category, b32, nI]; decide) | (simp [xs1, lv_args, Value.category, b32, nI]; exact Or.inr (by decide))
        · have c2 : ¬ y = y2 := c2
          refine Ex.p rfl ?_
          refine Ex.p rfl ?_
          refine s135 pb true hpb (decide_eq_true (p := ¬ (x = x2 ∧ y = y2)) (fun q => c2 q.2)).symm _ (fun z h => ?_)
          simp only [List.mem_cons, List.not_mem_nil, or_false] at h
          rcases h with rfl | rfl | rfl | rfl | rfl | rfl <;> first | (simp [xs1, lv_args, Value.category, b32, nI]; done) | (simp [xs1, lv_args, Value.category, b32, nI]; decide) | (simp [xs1, lv_args, Value.category, b32, nI]; exact Or.inr (by decide))
    refine Ex.p rfl ?_
    refine Ex.p rfl ?_
    refine Ex.p rfl ?_
    refine Ex.p rfl ?_
    refine Ex.cs0N (Mc := mDa_isPlace) (Rc := rm 0 0 0) (As := [.long x.toInt64, .long y.toInt64]) (rest := []) ct_isPlace rfl ln_7_122 lcDa_isPlace rfl ⟨by dsimp only [rm]; omega, by show 8 + (4 + 11) + 0 ≤ R.locals; omega⟩ (Nat.le_of_ble_eq_true rfl) (Nat.zero_le _) (Nat.zero_le _) ?_
    rintro w S1 ⟨rfl, rfl⟩
    rw [Int32.toInt_toInt64, Int32.toInt_toInt64]
    by_cases g1 : near2 x y
    · rw [decide_eq_true g1]
      refine Ex.br rfl (fun c => absurd c (show (1 : Int32) ≠ 0 by decide)) (fun _ => ?_)
      refine Ex.p rfl ?_
      refine Ex.gf 0 0 rfl rfl rfl ?_
      refine Ex.p rfl ?_
      refine Ex.p rfl ?_
      refine Ex.gf 0 0 rfl rfl rfl ?_
      refine Ex.p rfl ?_
      refine Ex.cs0N (Mc := mDa_isPlace) (Rc := rm 0 0 0) (As := [.long x2.toInt64, .long y2.toInt64]) (rest := []) ct_isPlace rfl ln_7_122 lcDa_isPlace rfl ⟨by dsimp only [rm]; omega, by show 8 + (4 + 11) + 0 ≤ R.locals; omega⟩ (Nat.le_of_ble_eq_true rfl) (Nat.zero_le _) (Nat.zero_le _) ?_
      rintro w S1 ⟨rfl, rfl⟩
      rw [Int32.toInt_toInt64, Int32.toInt_toInt64]
      by_cases g2 : near2 x2 y2
      · rw [decide_eq_true g2]
        refine Ex.br rfl (fun c => absurd c (show (1 : Int32) ≠ 0 by decide)) (fun _ => ?_)
        refine Ex.p rfl ?_
        refine Ex.p rfl ?_
        exact s112 true (by rw [decide_eq_true ⟨g1, g2⟩])
      · rw [decide_eq_false g2]
        refine Ex.br rfl (fun _ => ?_) (fun c => absurd rfl c)
        refine Ex.p rfl ?_
        exact s112 false (by rw [decide_eq_false (fun q => g2 q.2)])
    · rw [decide_eq_false g1]
      refine Ex.br rfl (fun _ => ?_) (fun c => absurd rfl c)
      refine Ex.p rfl ?_
      exact s112 false (by rw [decide_eq_false (fun q => g1 q.1)])
  have nl : ∀ (sl : Bool) (x y x2 y2 nu' : Int32) (q : Nat), q ≤ xs.length → P = (match pLit xs [10] q with
      | (false, p4) => (none, p4)
      | (true, p4) => (if (near2 x y ∧ near2 x2 y2) ∧ decide (¬ (x = x2 ∧ y = y2)) = sl ∧ hs.length < 60 then (some (ch, x, y, x2, y2, if sl then 0 else f, if sl then 7 else t), p4) else (none, p))) → ∀ lv9 : List (Nat × Value), (∀ z ∈ [(4, Value.int (b32 sl)), (3, .int y), (2, .int x), (1, .int (nI p)), (0, .ref a)], z ∈ lv9) →
      Ex l mTr_readHitLine D R A (xQ D A Q) R.cells R.slots 70 lv9 [] [sTr a tx d q f t ch nu' x2 y2, Cx, Cd, T, Hs] 0 0 := by
    intro sl x y x2 y2 nu' q hq hPq lv9 hlv
    refine Ex.lv hlv ?_
    refine Ex.p rfl ?_
    refine Ex.ldcS rfl ?_
    refine Ex.cv (Mc := mTr_passes) (Rc := rm 4 0 0) (As := [.ref (D.2.2.2.1 1)]) (rest := []) (Sr := [Cd, T, Hs]) (ic := 0) (jc := 0) (ci := 7) [0, 1] [2, 3, 4] (ct_Tr_passes hx (by decide) hq (rm_ok _ _ _)) rfl lk_7_43 lcTr_passes rfl rfl rfl rfl rfl (by decide) rfl rfl rfl (by decide) ⟨by dsimp only [rm]; omega, by show 8 + (3 + 11) + 160 ≤ R.locals; omega⟩ (Nat.le_of_ble_eq_true rfl) (by dsimp only [rm]; omega) (by dsimp only [rm]; omega) ?_
    rintro w S1 ⟨rfl, rfl⟩
    rw [show txt 1 = [10] from rfl]
    generalize pLit xs [10] q = P3 at hPq
    obtain ⟨o3, p3⟩ := P3
    refine Ex.sub (S' := [sTr a tx d p3 f t ch nu' x2 y2, Cx, Cd, T, Hs]) [3, 4, 0, 1, 2] rfl rfl ?_
    cases o3 with
    | false =>
      refine Ex.br rfl (fun c => absurd rfl c) (fun _ => ?_)
      refine Ex.p rfl ?_
      exact failed p3 _ _ _ _ _ _ _ hPq rfl (Nat.zero_le _) (Nat.zero_le _)
    | true =>
      refine Ex.br rfl (fun _ => ?_) (fun c => absurd (show (1 : Int32) ≠ 0 by decide) c)
      exact tail sl x y x2 y2 nu' p3 hPq _ (fun z h => h)
  refine Ex.p rfl ?_
  refine Ex.gf 0 0 rfl rfl rfl ?_
  refine Ex.p rfl ?_
  refine Ex.p rfl ?_
  refine Ex.cv (Mc := mTr_readPlace) (Rc := rm 2 0 0) (As := []) (rest := []) (Sr := [Cd, T, Hs]) (ic := 0) (jc := 0) (ci := 7) [0, 1] [2, 3, 4] (ct_Tr_readPlace hx hp (rm_ok _ _ _)) rfl lk_7_111 lcTr_readPlace rfl rfl rfl rfl rfl (by decide) rfl rfl rfl (by decide) ⟨by dsimp only [rm]; omega, by show 8 + (1 + 11) + 80 ≤ R.locals; omega⟩ (Nat.le_of_ble_eq_true rfl) (by dsimp only [rm]; omega) (by dsimp only [rm]; omega) ?_
  rintro w S1 ⟨rfl, nu1, px1, py1, rfl, hv1⟩
  have hle := pPlace_le (xs := xs) hp
  generalize pPlace xs p = P1 at hv1 hle hP
  obtain ⟨o1, p1⟩ := P1
  refine Ex.sub (S' := [sTr a tx d p1 f t ch nu1 px1 py1, Cx, Cd, T, Hs]) [3, 4, 0, 1, 2] rfl rfl ?_
  cases o1 with
  | none =>
    refine Ex.br rfl (fun c => absurd rfl c) (fun _ => ?_)
    refine Ex.p rfl ?_
    exact failed p1 _ _ _ _ _ _ _ hP.symm rfl (Nat.zero_le _) (Nat.zero_le _)
  | some xy =>
    obtain ⟨x, y⟩ := xy
    obtain ⟨e1, e2⟩ := hv1 _ rfl
    subst e1
    subst e2
    dsimp only at hP
    have hp1 : p1 ≤ xs.length := hle.2.1
    refine Ex.br rfl (fun _ => ?_) (fun c => absurd (show (1 : Int32) ≠ 0 by decide) c)
    refine Ex.p rfl ?_
    refine Ex.gf 0 0 rfl rfl rfl ?_
    refine Ex.p rfl ?_
    refine Ex.p rfl ?_
    refine Ex.gf 0 0 rfl rfl rfl ?_
    refine Ex.p rfl ?_
    refine Ex.p rfl ?_
    refine Ex.gf 0 0 rfl rfl rfl ?_
    refine Ex.p rfl ?_
    refine Ex.gf 0 0 rfl rfl rfl ?_
    refine Ex.cv (Mc := mRo_get) (Rc := rm 0 0 0) (As := [.int (nI p1)]) (rest := []) (Sr := [sTr a tx d p1 f t ch nu1 px1 py1, Cd, T, Hs]) (ic := 1) (jc := 0) (ci := 5) [1] [0, 2, 3, 4] (ct_Ro_get hx) rfl lk_7_50 lcRo_get rfl rfl rfl rfl rfl (by decide) rfl (by rw [eCx]; rfl) rfl (by decide) ⟨by dsimp only [rm]; omega, by show 8 + (2 + 11) + 0 ≤ R.locals; omega⟩ (Nat.le_of_ble_eq_true rfl) (by dsimp only [rm]; omega) (by dsimp only [rm]; omega) ?_
    rintro w S1 ⟨rfl, rfl⟩
    rw [rget_gt (by omega)]
    refine Ex.sub (S' := [sTr a tx d p1 f t ch nu1 px1 py1, Cx, Cd, T, Hs]) [0, 4, 1, 2, 3] rfl rfl ?_
    refine Ex.p rfl ?_
    refine Ex.br rfl (fun c => ?_) (fun c => ?_)
    · have c : ¬ gt xs p1 = 71 := c
      rw [if_neg c] at hP
      refine Ex.p rfl ?_
      refine Ex.p rfl ?_
      refine Ex.p rfl ?_
      refine Ex.br rfl (fun _ => ?_) (fun c => absurd rfl c)
      refine nl false px1 py1 px1 py1 nu1 p1 hp1 ?_ _ (fun z h => ?_)
      · rw [← hP]
        generalize pLit xs [10] p1 = P3
        obtain ⟨o3, p3⟩ := P3
        cases o3 with
        | false => rfl
        | true =>
          dsimp only
          by_cases g : near2 px1 py1 ∧ hs.length < 60
          · rw [if_pos g, if_pos ⟨⟨g.1, g.1⟩, by simp, g.2⟩]
            rfl
          · rw [if_neg g, if_neg (fun q => g ⟨q.1.1, q.2.2⟩)]
      · simp only [List.mem_cons, List.not_mem_nil, or_false] at h
        rcases h with rfl | rfl | rfl | rfl | rfl <;> first | (simp [xs1, lv_args, Value.category, b32, nI]; done) | (simp [xs1, lv_args, Value.category, b32, nI]; decide) | (simp [xs1, lv_args, Value.category, b32, nI]; exact Or.inr (by decide))
    · have c : gt xs p1 = 71 := Decidable.byContradiction c
      rw [if_pos c] at hP
      refine Ex.p rfl ?_
      refine Ex.p rfl ?_
      refine Ex.p rfl ?_
      refine Ex.p rfl ?_
      refine Ex.br rfl (fun c => absurd c (show (1 : Int32) ≠ 0 by decide)) (fun _ => ?_)
      refine Ex.p rfl ?_
      refine Ex.ldcS rfl ?_
      have hle2 := pLit_le (xs := xs) (cs := [71, 56, 53]) (by decide) hp1
      refine Ex.cv (Mc := mTr_passes) (Rc := rm 4 0 0) (As := [.ref (D.2.2.2.1 5)]) (rest := []) (Sr := [Cd, T, Hs]) (ic := 0) (jc := 0) (ci := 7) [0, 1] [2, 3, 4] (ct_Tr_passes hx (by decide) hp1 (rm_ok _ _ _)) rfl lk_7_43 lcTr_passes rfl rfl rfl rfl rfl (by decide) rfl rfl rfl (by decide) ⟨by dsimp only [rm]; omega, by show 8 + (3 + 11) + 160 ≤ R.locals; omega⟩ (Nat.le_of_ble_eq_true rfl) (by dsimp only [rm]; omega) (by dsimp only [rm]; omega) ?_
      rintro w S1 ⟨rfl, rfl⟩
      rw [show txt 5 = [71, 56, 53] from rfl]
      generalize pLit xs [71, 56, 53] p1 = P2 at hP hle2
      obtain ⟨o2, p2⟩ := P2
      refine Ex.sub (S' := [sTr a tx d p2 f t ch nu1 px1 py1, Cx, Cd, T, Hs]) [3, 4, 0, 1, 2] rfl rfl ?_
      cases o2 with
      | false =>
        refine Ex.br rfl (fun _ => ?_) (fun c => absurd rfl c)
        refine Ex.p rfl ?_
        exact failed p2 _ _ _ _ _ _ _ hP.symm rfl (Nat.zero_le _) (Nat.zero_le _)
      | true =>
        dsimp only at hP
        have hp2 : p2 ≤ xs.length := hle2.2
        refine Ex.br rfl (fun c => absurd c (show (1 : Int32) ≠ 0 by decide)) (fun _ => ?_)
        refine Ex.p rfl ?_
        refine Ex.cv (Mc := mTr_readPlace) (Rc := rm 2 0 0) (As := []) (rest := []) (Sr := [Cd, T, Hs]) (ic := 0) (jc := 0) (ci := 7) [0, 1] [2, 3, 4] (ct_Tr_readPlace hx hp2 (rm_ok _ _ _)) rfl lk_7_111 lcTr_readPlace rfl rfl rfl rfl rfl (by decide) rfl rfl rfl (by decide) ⟨by dsimp only [rm]; omega, by show 8 + (1 + 11) + 80 ≤ R.locals; omega⟩ (Nat.le_of_ble_eq_true rfl) (by dsimp only [rm]; omega) (by dsimp only [rm]; omega) ?_
        rintro w S1 ⟨rfl, nu2, px2, py2, rfl, hv2⟩
        have hle3 := pPlace_le (xs := xs) hp2
        generalize pPlace xs p2 = P3 at hv2 hle3 hP
        obtain ⟨o3, p3⟩ := P3
        refine Ex.sub (S' := [sTr a tx d p3 f t ch nu2 px2 py2, Cx, Cd, T, Hs]) [3, 4, 0, 1, 2] rfl rfl ?_
        cases o3 with
        | none =>
          refine Ex.br rfl (fun c => absurd rfl c) (fun _ => ?_)
          refine Ex.p rfl ?_
          exact failed p3 _ _ _ _ _ _ _ hP.symm rfl (Nat.zero_le _) (Nat.zero_le _)
        | some xy =>
          obtain ⟨x, y⟩ := xy
          obtain ⟨e1, e2⟩ := hv2 _ rfl
          subst e1
          subst e2
          dsimp only at hP
          refine Ex.br rfl (fun _ => ?_) (fun c => absurd (show (1 : Int32) ≠ 0 by decide) c)
          refine nl true px1 py1 px2 py2 nu2 p3 hle3.2.1 ?_ _ (fun z h => ?_)
          · rw [← hP]
            generalize pLit xs [10] p3 = P4
            obtain ⟨o4, p4⟩ := P4
            cases o4 with
            | false => rfl
            | true =>
              dsimp only
              by_cases g : (near2 px1 py1 ∧ near2 px2 py2) ∧ ¬ (px1 = px2 ∧ py1 = py2) ∧ hs.length < 60
              · rw [if_pos g, if_pos ⟨g.1, decide_eq_true g.2.1, g.2.2⟩]
                rfl
              · rw [if_neg g, if_neg (fun q => g ⟨q.1, of_decide_eq_true q.2.1, q.2.2⟩)]
          · simp only [List.mem_cons, List.not_mem_nil, or_false] at h
            rcases h with rfl | rfl | rfl | rfl | rfl <;> first | (simp [xs1, lv_args, Value.category, b32, nI]; done) | (simp [xs1, lv_args, Value.category, b32, nI]; decide) | (simp [xs1, lv_args, Value.category, b32, nI]; exact Or.inr (by decide))
end R5

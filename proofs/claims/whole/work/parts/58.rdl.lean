/-! TextReader: readLayers, readTools, readHits, firstWrong -/
theorem i2000 {i : Nat} (h : i < 2 ^ 31) : ((2000 : Int32) ≤ nI i) ↔ 2000 ≤ i := by
  rw [show (2000 : Int32) = nI 2000 from rfl, nI_leI (by omega) h]
abbrev RR : Type := Nat ⊕ (List (Int32 × Bool) × List HV)
section R6
variable {l : Launch} {D : xD} {R : Room}
theorem ct_Tr_readLayers {a tx dr cp : Nat} {xs : List Int32} {Cx : va_W} {G : RR → Prop} (hx : IsRow D tx 2000 cp xs Cx) (hG : ∀ r, Rn xs rs0 0 r → G r) (hr : rmOk R 6 0 0) : Ct l mTr_readLayers D R [.ref a] [sTr a tx dr 0 0 0 (-1) 0 0 0, Cx] (fun v S => (v = some (.int 1) ∧ ∃ p f t nu, S = [sTr a tx dr p f t (-1) nu 0 0, Cx] ∧ p ≤ xs.length ∧ gt xs p ≠ 76 ∧ layOK f ∧ layOK t ∧ ∀ r, Rn xs (1, true, f, t, [], [], -1) p r → G r) ∨ (v = some (.int 0) ∧ ∃ p f t nu, S = [sTr a tx dr p f t (-1) nu 0 0, Cx] ∧ p ≤ xs.length ∧ G (.inl p))) := by
  obtain ⟨r1, r2, r3, r4⟩ := hr
  obtain ⟨arr, fx, eCx, x1, x2, x3, x4, x5, x6⟩ := id hx
  refine Ct.of rfl (by decide) tkTr_readLayers (Nat.le_of_ble_eq_true rfl) (fun A => ?_)
  generalize hQ : (fun (v : Option Value) S => (v = some (.int 1) ∧ ∃ p f t nu, S = [sTr a tx dr p f t (-1) nu 0 0, Cx] ∧ p ≤ xs.length ∧ gt xs p ≠ 76 ∧ layOK f ∧ layOK t ∧ ∀ r, Rn xs (1, true, f, t, [], [], -1) p r → G r) ∨ (v = some (.int 0) ∧ ∃ p f t nu, S = [sTr a tx dr p f t (-1) nu 0 0, Cx] ∧ p ≤ xs.length ∧ G (.inl p))) = Q
  have failed : ∀ (p : Nat) (f t nu : Int32) (i : Nat) (lv9 : List (Nat × Value)), (∀ q ∈ [(2, Value.int (nI i)), (1, .int 0), (0, .ref a)], q ∈ lv9) → p ≤ xs.length → G (.inl p) → Ex l mTr_readLayers D R A (xQ D A Q) R.cells R.slots 24 lv9 [] [sTr a tx dr p f t (-1) nu 0 0, Cx] 0 0 := by
    intro p f t nu i lv9 hlv hp hg
    refine Ex.lv hlv ?_
    have s62 : Ex l mTr_readLayers D R A (xQ D A Q) R.cells R.slots 62 [(2, Value.int (nI i)), (1, .int 0), (0, .ref a)] [] [sTr a tx dr p f t (-1) nu 0 0, Cx] 0 0 := by
      refine Ex.p rfl ?_
      refine Ex.zret rfl rfl (Or.inl rfl) (Nat.zero_le _) (Nat.zero_le _) rfl ?_
      subst hQ
      exact Or.inr ⟨rfl, _, _, _, _, rfl, hp, hg⟩
    refine Ex.p rfl ?_
    refine Ex.p rfl ?_
    refine Ex.br rfl (fun _ => s62) (fun _ => ?_)
    refine Ex.p rfl ?_
    exact Ex.br rfl (fun _ => s62) (fun c => absurd rfl c)
  have loop : ∀ (m i p : Nat) (f t nu : Int32), 2000 - i < m → i ≤ p → p ≤ xs.length → layOK f → layOK t → (∀ r, Rn xs (1, true, f, t, [], [], -1) p r → G r) → ∀ lv9 : List (Nat × Value), (∀ q ∈ [(2, Value.int (nI i)), (1, .int 1), (0, .ref a)], q ∈ lv9) →
      Ex l mTr_readLayers D R A (xQ D A Q) R.cells R.slots 24 lv9 [] [sTr a tx dr p f t (-1) nu 0 0, Cx] 0 0 := by
    intro m
    induction m with
    | zero => intro i p f t nu h; omega
    | succ m ih =>
      intro i p f t nu hm hip hp hf ht hGp lv9 hlv
      refine Ex.lv hlv ?_
      have s62 : gt xs p ≠ 76 → Ex l mTr_readLayers D R A (xQ D A Q) R.cells R.slots 62 [(2, Value.int (nI i)), (1, .int 1), (0, .ref a)] [] [sTr a tx dr p f t (-1) nu 0 0, Cx] 0 0 := by
        intro hg
        refine Ex.p rfl ?_
        refine Ex.zret rfl rfl (Or.inr rfl) (Nat.zero_le _) (Nat.zero_le _) rfl ?_
        subst hQ
        exact Or.inl ⟨rfl, _, _, _, _, rfl, hp, hg, hf, ht, hGp⟩
      refine Ex.p rfl ?_
      refine Ex.p rfl ?_
      refine Ex.br rfl (fun c => ?_) (fun c => ?_)
      · have c := (i2000 (by omega)).mp c
        exact s62 (by rw [gt_end (by omega)]; decide)
      · have c : ¬ 2000 ≤ i := fun q => c ((i2000 (by omega)).mpr q)
        refine Ex.p rfl ?_
        refine Ex.br rfl (fun c => absurd c (show (1 : Int32) ≠ 0 by decide)) (fun _ => ?_)
        refine Ex.p rfl ?_
        refine Ex.gf 0 0 rfl rfl rfl ?_
        refine Ex.p rfl ?_
        refine Ex.gf 0 0 rfl rfl rfl ?_
        refine Ex.cv (Mc := mRo_get) (Rc := rm 0 0 0) (As := [.int (nI p)]) (rest := []) (Sr := [sTr a tx dr p f t (-1) nu 0 0]) (ic := 1) (jc := 0) (ci := 5) [1] [0] (ct_Ro_get hx) rfl lk_7_50 lcRo_get rfl rfl rfl rfl rfl (by decide) rfl (by rw [eCx]; rfl) rfl (by decide) ⟨by dsimp only [rm]; omega, by show 8 + (2 + 11) + 0 ≤ R.locals; omega⟩ (Nat.le_of_ble_eq_true rfl) (by dsimp only [rm]; omega) (by dsimp only [rm]; omega) ?_
        rintro w S1 ⟨rfl, rfl⟩
        rw [rget_gt (by omega)]
        refine Ex.sub (S' := [sTr a tx dr p f t (-1) nu 0 0, Cx]) [0, 1] rfl rfl ?_
        refine Ex.p rfl ?_
        refine Ex.br rfl (fun c => s62 c) (fun c => ?_)
        have c : gt xs p = 76 := Decidable.byContradiction c
        refine Ex.p rfl ?_
        refine Ex.cv (Mc := mTr_readLayerLine) (Rc := rm 5 0 0) (As := []) (rest := []) (Sr := []) (ic := 0) (jc := 0) (ci := 7) [0, 1] [] (ct_Tr_readLayerLine hx hp (rm_ok _ _ _)) rfl lk_7_47 lcTr_readLayerLine rfl rfl rfl rfl rfl (by decide) rfl rfl rfl (by decide) ⟨by dsimp only [rm]; omega, by show 8 + (2 + 11) + 200 ≤ R.locals; omega⟩ (Nat.le_of_ble_eq_true rfl) (by dsimp only [rm]; omega) (by dsimp only [rm]; omega) ?_
        rintro w S1 ⟨rfl, f', t', nu', rfl, hft⟩
        have hle := pLayerLine_le (xs := xs) hp
        generalize hP : pLayerLine xs p = P at hle hft
        obtain ⟨o, q⟩ := P
        refine Ex.p rfl ?_
        refine Ex.p rfl ?_
        refine Ex.p rfl ?_
        rw [i_add1]
        cases o with
        | none => exact failed q f' t' nu' (i + 1) _ (fun z h => by
            simp only [List.mem_cons, List.not_mem_nil, or_false] at h
            rcases h with rfl | rfl | rfl <;> first | (simp [xs1, lv_args, Value.category, b32, nI]; done) | (simp [xs1, lv_args, Value.category, b32, nI]; decide) | (simp [xs1, lv_args, Value.category, b32, nI]; exact Or.inr (by decide))) hle.1 (hGp _ (Rn.lay_bad hP (Or.inr c)))
        | some x =>
          obtain ⟨rfl, rfl⟩ := hft _ rfl
          have hok := pLayerLine_ok hP
          have hlt : p < q := hle.2 (by simp)
          refine ih (i + 1) q _ _ nu' (by omega) (by omega) hle.1 hok.2.1 hok.2.2 (fun r hr => hGp r (Rn.lay_ok hP hr)) _ (fun z h => ?_)
          simp only [List.mem_cons, List.not_mem_nil, or_false] at h
          rcases h with rfl | rfl | rfl <;> first | (simp [xs1, lv_args, Value.category, b32, nI]; done) | (simp [xs1, lv_args, Value.category, b32, nI]; decide) | (simp [xs1, lv_args, Value.category, b32, nI]; exact Or.inr (by decide))
  refine Ex.p rfl ?_
  refine Ex.ldcS rfl ?_
  have hle := pLit_le (xs := xs) (cs := [77, 52, 56, 10]) (by decide) (Nat.zero_le _)
  refine Ex.cv (Mc := mTr_passes) (Rc := rm 4 0 0) (As := [.ref (D.2.2.2.1 0)]) (rest := []) (Sr := []) (ic := 0) (jc := 0) (ci := 7) [0, 1] [] (ct_Tr_passes hx (by decide) (Nat.zero_le _) (rm_ok _ _ _)) rfl lk_7_43 lcTr_passes rfl rfl rfl rfl rfl (by decide) rfl rfl rfl (by decide) ⟨by dsimp only [rm]; omega, by show 8 + (3 + 11) + 160 ≤ R.locals; omega⟩ (Nat.le_of_ble_eq_true rfl) (by dsimp only [rm]; omega) (by dsimp only [rm]; omega) ?_
  rintro w S1 ⟨rfl, rfl⟩
  rw [show txt 0 = [77, 52, 56, 10] from rfl]
  generalize hP : pLit xs [77, 52, 56, 10] 0 = P at hle
  obtain ⟨o, p⟩ := P
  cases o with
  | false =>
    refine Ex.br rfl (fun _ => ?_) (fun c => absurd rfl c)
    refine Ex.p rfl ?_
    refine Ex.p rfl ?_
    refine Ex.p rfl ?_
    refine Ex.p rfl ?_
    exact failed p 0 0 0 0 _ (fun z h => by
      simp only [List.mem_cons, List.not_mem_nil, or_false] at h
      rcases h with rfl | rfl | rfl <;> first | (simp [xs1, lv_args, Value.category, b32, nI]; done) | (simp [xs1, lv_args, Value.category, b32, nI]; decide) | (simp [xs1, lv_args, Value.category, b32, nI]; exact Or.inr (by decide))) hle.2 (hG _ (Rn.m48_bad hP))
  | true =>
    refine Ex.br rfl (fun c => absurd c (show (1 : Int32) ≠ 0 by decide)) (fun _ => ?_)
    have hp : p ≤ xs.length := hle.2
    refine Ex.p rfl ?_
    refine Ex.cv (Mc := mTr_readLayerLine) (Rc := rm 5 0 0) (As := []) (rest := []) (Sr := []) (ic := 0) (jc := 0) (ci := 7) [0, 1] [] (ct_Tr_readLayerLine hx hp (rm_ok _ _ _)) rfl lk_7_47 lcTr_readLayerLine rfl rfl rfl rfl rfl (by decide) rfl rfl rfl (by decide) ⟨by dsimp only [rm]; omega, by show 8 + (2 + 11) + 200 ≤ R.locals; omega⟩ (Nat.le_of_ble_eq_true rfl) (by dsimp only [rm]; omega) (by dsimp only [rm]; omega) ?_
    rintro w S1 ⟨rfl, f', t', nu', rfl, hft⟩
    have hle := pLayerLine_le (xs := xs) hp
    generalize hP2 : pLayerLine xs p = P at hle hft
    obtain ⟨o, q⟩ := P
    cases o with
    | none =>
      refine Ex.br rfl (fun _ => ?_) (fun c => absurd rfl c)
      refine Ex.p rfl ?_
      refine Ex.p rfl ?_
      refine Ex.p rfl ?_
      refine Ex.p rfl ?_
      exact failed q f' t' nu' 0 _ (fun z h => by
        simp only [List.mem_cons, List.not_mem_nil, or_false] at h
        rcases h with rfl | rfl | rfl <;> first | (simp [xs1, lv_args, Value.category, b32, nI]; done) | (simp [xs1, lv_args, Value.category, b32, nI]; decide) | (simp [xs1, lv_args, Value.category, b32, nI]; exact Or.inr (by decide))) hle.1 (hG _ (Rn.m48_ok hP (Rn.lay_bad hP2 (Or.inl rfl))))
    | some x =>
      obtain ⟨rfl, rfl⟩ := hft _ rfl
      have hok := pLayerLine_ok hP2
      refine Ex.br rfl (fun c => absurd c (show (1 : Int32) ≠ 0 by decide)) (fun _ => ?_)
      refine Ex.p rfl ?_
      refine Ex.p rfl ?_
      refine Ex.p rfl ?_
      refine Ex.p rfl ?_
      refine Ex.p rfl ?_
      refine loop 2001 0 q _ _ nu' (by omega) (by omega) hle.1 hok.2.1 hok.2.2 (fun r hr => hG r (Rn.m48_ok hP (Rn.lay_ok hP2 hr))) _ (fun z h => ?_)
      simp only [List.mem_cons, List.not_mem_nil, or_false] at h
      rcases h with rfl | rfl | rfl <;> first | (simp [xs1, lv_args, Value.category, b32, nI]; done) | (simp [xs1, lv_args, Value.category, b32, nI]; decide) | (simp [xs1, lv_args, Value.category, b32, nI]; exact Or.inr (by decide))
theorem ct_Tr_readTools {a tx d p0 cp : Nat} {f t nu : Int32} {xs : List Int32} {Cx Cd : va_W} {G : RR → Prop} (hx : IsRow D tx 2000 cp xs Cx) (hd : IsDr D d [] [] Cd [] []) (hp0 : p0 ≤ xs.length) (h76 : gt xs p0 ≠ 76) (hG : ∀ r, Rn xs (1, true, f, t, [], [], -1) p0 r → G r) (hr : rmOk R 6 55 308) : Ct l mTr_readTools D R [.ref a] [sTr a tx d p0 f t (-1) nu 0 0, Cx, Cd, []] (fun v S => (v = some (.int 1) ∧ ∃ p nu ts Cd T, S = [sTr a tx d p f t (-1) nu 0 0, Cx, Cd, T] ∧ p ≤ xs.length ∧ IsDr D d ts [] Cd T [] ∧ DrOK ts [] ∧ ∀ r, Rn xs (2, true, f, t, ts.map tvo, [], -1) p r → G r) ∨ (v = some (.int 0) ∧ ∃ p nu ts Cd T, S = [sTr a tx d p f t (-1) nu 0 0, Cx, Cd, T] ∧ p ≤ xs.length ∧ IsDr D d ts [] Cd T [] ∧ G (.inl p))) := by
  obtain ⟨r1, r2, r3, r4⟩ := hr
  obtain ⟨arr, fx, eCx, x1, x2, x3, x4, x5, x6⟩ := id hx
  refine Ct.of rfl (by decide) tkTr_readTools (Nat.le_of_ble_eq_true rfl) (fun A => ?_)
  generalize hQ : (fun (v : Option Value) S => (v = some (.int 1) ∧ ∃ p nu ts Cd T, S = [sTr a tx d p f t (-1) nu 0 0, Cx, Cd, T] ∧ p ≤ xs.length ∧ IsDr D d ts [] Cd T [] ∧ DrOK ts [] ∧ ∀ r, Rn xs (2, true, f, t, ts.map tvo, [], -1) p r → G r) ∨ (v = some (.int 0) ∧ ∃ p nu ts Cd T, S = [sTr a tx d p f t (-1) nu 0 0, Cx, Cd, T] ∧ p ≤ xs.length ∧ IsDr D d ts [] Cd T [] ∧ G (.inl p))) = Q
  have failed : ∀ (p : Nat) (nu : Int32) (i k n : Nat) (ts : List TV) (Cd T : va_W) (lv9 : List (Nat × Value)), (∀ q ∈ [(2, Value.int (nI i)), (1, .int 0), (0, .ref a)], q ∈ lv9) → p ≤ xs.length → IsDr D d ts [] Cd T [] → G (.inl p) → k ≤ R.cells → n ≤ R.slots → Ex l mTr_readTools D R A (xQ D A Q) R.cells R.slots 4 lv9 [] [sTr a tx d p f t (-1) nu 0 0, Cx, Cd, T] k n := by
    intro p nu i k n ts Cd T lv9 hlv hp hd hg hk hn
    refine Ex.lv hlv ?_
    have s42 : Ex l mTr_readTools D R A (xQ D A Q) R.cells R.slots 42 [(2, Value.int (nI i)), (1, .int 0), (0, .ref a)] [] [sTr a tx d p f t (-1) nu 0 0, Cx, Cd, T] k n := by
      refine Ex.p rfl ?_
      refine Ex.br rfl (fun _ => ?_) (fun c => absurd rfl c)
      refine Ex.p rfl ?_
      refine Ex.zret rfl rfl (Or.inl rfl) hk hn rfl ?_
      subst hQ
      exact Or.inr ⟨rfl, _, _, _, _, _, rfl, hp, hd, hg⟩
    refine Ex.p rfl ?_
    refine Ex.p rfl ?_
    refine Ex.br rfl (fun _ => s42) (fun _ => ?_)
    refine Ex.p rfl ?_
    exact Ex.br rfl (fun _ => s42) (fun c => absurd rfl c)
  have loop : ∀ (m i p : Nat) (nu : Int32) (ts : List TV) (Cd T : va_W), 2000 - i < m → i ≤ p → p ≤ xs.length → IsDr D d ts [] Cd T [] → DrOK ts [] → (ts = [] → gt xs p ≠ 76) → (∀ r, Rn xs (1, true, f, t, ts.map tvo, [], -1) p r → G r) → ∀ lv9 : List (Nat × Value), (∀ q ∈ [(2, Value.int (nI i)), (1, .int 1), (0, .ref a)], q ∈ lv9) →
      Ex l mTr_readTools D R A (xQ D A Q) R.cells R.slots 4 lv9 [] [sTr a tx d p f t (-1) nu 0 0, Cx, Cd, T] (5 * ts.length) (28 * ts.length) := by
    intro m
    induction m with
    | zero => intro i p nu ts Cd T h; omega
    | succ m ih =>
      intro i p nu ts Cd T hm hip hp hd hok hts hGp lv9 hlv
      obtain ⟨ta, ha, ft, fh, eCd, -, -, -, -, h3, h4⟩ := id hd
      refine Ex.lv hlv ?_
      have s42 : gt xs p ≠ 84 → Ex l mTr_readTools D R A (xQ D A Q) R.cells R.slots 42 [(2, Value.int (nI i)), (1, .int 1), (0, .ref a)] [] [sTr a tx d p f t (-1) nu 0 0, Cx, Cd, T] (5 * ts.length) (28 * ts.length) := by
        intro hg
        refine Ex.p rfl ?_
        refine Ex.br rfl (fun c => absurd c (show (1 : Int32) ≠ 0 by decide)) (fun _ => ?_)
        refine Ex.p rfl ?_
        refine Ex.ldcS rfl ?_
        have hle := pLit_le (xs := xs) (cs := [37, 10]) (by decide) hp
        refine Ex.cv (Mc := mTr_passes) (Rc := rm 4 0 0) (As := [.ref (D.2.2.2.1 4)]) (rest := []) (Sr := [Cd, T]) (ic := 0) (jc := 0) (ci := 7) [0, 1] [2, 3] (ct_Tr_passes hx (by decide) hp (rm_ok _ _ _)) rfl lk_7_43 lcTr_passes rfl rfl rfl rfl rfl (by decide) rfl rfl rfl (by decide) ⟨by dsimp only [rm]; omega, by show 8 + (3 + 11) + 160 ≤ R.locals; omega⟩ (Nat.le_of_ble_eq_true rfl) (by dsimp only [rm]; omega) (by dsimp only [rm]; omega) ?_
        rintro w S1 ⟨rfl, rfl⟩
        rw [show txt 4 = [37, 10] from rfl]
        generalize hP : pLit xs [37, 10] p = P at hle
        obtain ⟨o, q⟩ := P
        refine Ex.sub (S' := [sTr a tx d q f t (-1) nu 0 0, Cx, Cd, T]) [2, 3, 0, 1] rfl rfl ?_
        cases o with
        | false =>
          refine Ex.br rfl (fun _ => ?_) (fun c => absurd rfl c)
          refine Ex.p rfl ?_
          refine Ex.zret rfl rfl (Or.inl rfl) (by dsimp only [rm]; omega) (by dsimp only [rm]; omega) rfl ?_
          subst hQ
          exact Or.inr ⟨rfl, _, _, _, _, _, rfl, hle.2, hd, hGp _ (Rn.pct_bad hP (fun e => hts (List.map_eq_nil_iff.mp e)) hg)⟩
        | true =>
          refine Ex.br rfl (fun c => absurd c (show (1 : Int32) ≠ 0 by decide)) (fun _ => ?_)
          refine Ex.p rfl ?_
          refine Ex.p rfl ?_
          refine Ex.zret rfl rfl (Or.inr rfl) (by dsimp only [rm]; omega) (by dsimp only [rm]; omega) rfl ?_
          subst hQ
          exact Or.inl ⟨rfl, _, _, _, _, _, rfl, hle.2, hd, hok, fun r hr => hGp r (Rn.pct_ok hP hr)⟩
      refine Ex.p rfl ?_
      refine Ex.p rfl ?_
      refine Ex.br rfl (fun c => ?_) (fun c => ?_)
      · have c := (i2000 (by omega)).mp c
        exact s42 (by rw [gt_end (by omega)]; decide)
      · have c : ¬ 2000 ≤ i := fun q => c ((i2000 (by omega)).mpr q)
        refine Ex.p rfl ?_
        refine Ex.br rfl (fun c => absurd c (show (1 : Int32) ≠ 0 by decide)) (fun _ => ?_)
        refine Ex.p rfl ?_
        refine Ex.gf 0 0 rfl rfl rfl ?_
        refine Ex.p rfl ?_
        refine Ex.gf 0 0 rfl rfl rfl ?_
        refine Ex.cv (Mc := mRo_get) (Rc := rm 0 0 0) (As := [.int (nI p)]) (rest := []) (Sr := [sTr a tx d p f t (-1) nu 0 0, Cd, T]) (ic := 1) (jc := 0) (ci := 5) [1] [0, 2, 3] (ct_Ro_get hx) rfl lk_7_50 lcRo_get rfl rfl rfl rfl rfl (by decide) rfl (by rw [eCx]; rfl) rfl (by decide) ⟨by dsimp only [rm]; omega, by show 8 + (2 + 11) + 0 ≤ R.locals; omega⟩ (Nat.le_of_ble_eq_true rfl) (by dsimp only [rm]; omega) (by dsimp only [rm]; omega) ?_
        rintro w S1 ⟨rfl, rfl⟩
        rw [rget_gt (by omega)]
        refine Ex.sub (S' := [sTr a tx d p f t (-1) nu 0 0, Cx, Cd, T]) [0, 3, 1, 2] rfl rfl ?_
        refine Ex.p rfl ?_
        refine Ex.br rfl (fun c => s42 c) (fun c => ?_)
        have c : gt xs p = 84 := Decidable.byContradiction c
        refine Ex.p rfl ?_
        refine Ex.cv (Mc := mTr_readToolLine) (Rc := rm 5 5 28) (As := []) (rest := []) (Sr := []) (ic := 0) (jc := 0) (ci := 7) [0, 1, 2, 3] [] (ct_Tr_readToolLine hx hd hp (rm_ok _ _ _)) rfl lk_7_54 lcTr_readToolLine rfl rfl rfl rfl rfl (by decide) rfl rfl rfl (by decide) ⟨by dsimp only [rm]; omega, by show 8 + (4 + 11) + 200 ≤ R.locals; omega⟩ (Nat.le_of_ble_eq_true rfl) (by dsimp only [rm]; omega) (by dsimp only [rm]; omega) ?_
        rintro w S1 ⟨rfl, nu', Cd', T', ts', rfl, hd', hs1, hs2⟩
        have hle := pToolLine_le (xs := xs) (n := ts.length) hp
        generalize hP : pToolLine xs ts.length p = P at hle hs1 hs2
        obtain ⟨o, q⟩ := P
        refine Ex.p rfl ?_
        refine Ex.p rfl ?_
        refine Ex.p rfl ?_
        rw [i_add1]
        have eP : pToolLine xs (ts.map tvo).length p = (o, q) := by rw [List.length_map]; exact hP
        cases o with
        | none => exact failed q nu' (i + 1) _ _ ts' Cd' T' _ (fun z h => by
            simp only [List.mem_cons, List.not_mem_nil, or_false] at h
            rcases h with rfl | rfl | rfl <;> first | (simp [xs1, lv_args, Value.category, b32, nI]; done) | (simp [xs1, lv_args, Value.category, b32, nI]; decide) | (simp [xs1, lv_args, Value.category, b32, nI]; exact Or.inr (by decide))) hle.1 hd' (hGp _ (Rn.tool_bad eP c)) (by dsimp only [rm]; omega) (by dsimp only [rm]; omega)
        | some x =>
          obtain ⟨k, rfl⟩ := hs1 _ rfl
          have hok' := pToolLine_ok hP
          have hlt : p < q := hle.2 (by simp)
          refine Ex.more (k' := 5 * (ts ++ [(k, x.1, x.2, [], [], 0, false, 8, 8)]).length) (n' := 28 * (ts ++ [(k, x.1, x.2, [], [], 0, false, 8, 8)]).length) ?_ ?_ (ih (i + 1) q nu' _ Cd' T' (by omega) (by omega) hle.1 hd' (hok.tool (fun h hh => by cases hh) (by omega) hok'.2) (fun e => by simp at e) (fun r hr => hGp r (Rn.tool_ok eP c (by rw [List.map_append] at hr; exact hr))) _ (fun z h => ?_))
          · rw [List.length_append, List.length_singleton]; dsimp only [rm]; omega
          · rw [List.length_append, List.length_singleton]; dsimp only [rm]; omega
          · simp only [List.mem_cons, List.not_mem_nil, or_false] at h
            rcases h with rfl | rfl | rfl <;> first | (simp [xs1, lv_args, Value.category, b32, nI]; done) | (simp [xs1, lv_args, Value.category, b32, nI]; decide) | (simp [xs1, lv_args, Value.category, b32, nI]; exact Or.inr (by decide))
  refine Ex.p rfl ?_
  refine Ex.p rfl ?_
  refine Ex.p rfl ?_
  refine Ex.p rfl ?_
  refine loop 2001 0 p0 nu [] Cd [] (by omega) (by omega) hp0 hd ⟨fun i t h => by simp at h, fun h hh => by cases hh⟩ (fun _ => h76) hG _ (fun z h => ?_)
  simp only [List.mem_cons, List.not_mem_nil, or_false] at h
  rcases h with rfl | rfl | rfl <;> first | (simp [xs1, lv_args, Value.category, b32, nI]; done) | (simp [xs1, lv_args, Value.category, b32, nI]; decide) | (simp [xs1, lv_args, Value.category, b32, nI]; exact Or.inr (by decide))
end R6

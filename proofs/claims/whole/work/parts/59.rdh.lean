/-! TextReader: readHits -/
theorem tvo_tadd {t : TV} {x : Int32} : tvo (tadd t x) = tvo t := rfl
theorem map_set_tvo {ts : List TV} {i : Nat} {t u : TV} (h : ts[i]? = some t) (e : tvo u = tvo t) : (ts.set i u).map tvo = ts.map tvo := by
  apply List.ext_getElem?
  intro j
  rw [List.getElem?_map, List.getElem?_map]
  by_cases hij : i = j
  · subst hij
    rw [List.getElem?_set_self (List.getElem?_eq_some_iff.mp h).1, h]
    simp [e]
  · rw [List.getElem?_set_ne hij]
theorem DrOK.hitsLen {ts : List TV} {hs : List (Nat × HV)} {i : Nat} {t : TV} (h : DrOK ts hs) (hi : ts[i]? = some t) : t.2.2.2.1.length ≤ hs.length := by
  obtain ⟨k1, -⟩ := h.1 i t hi
  rw [k1, List.length_map]
  have := tnsA_len (nI i) (hs.map (fun h => h.2)) 0
  rw [List.length_map] at this
  exact this
section R7
variable {l : Launch} {D : xD} {R : Room}
theorem ct_Tr_readHits {a tx d p0 cp : Nat} {f t nu : Int32} {xs : List Int32} {ts0 : List TV} {Cx Cd T : va_W} {G : RR → Prop} (hx : IsRow D tx 2000 cp xs Cx) (hd : IsDr D d ts0 [] Cd T []) (hok : DrOK ts0 []) (hp0 : p0 ≤ xs.length) (hf : layOK f) (ht : layOK t) (hG : ∀ r, Rn xs (2, true, f, t, ts0.map tvo, [], -1) p0 r → G r) (hr : rmOk R 6 488 7747) : Ct l mTr_readHits D R [.ref a] [sTr a tx d p0 f t (-1) nu 0 0, Cx, Cd, T, []] (fun v S => (v = some (.int 1) ∧ ∃ p ch nu px py ts hs Cd T, S = [sTr a tx d p f t ch nu px py, Cx, Cd, T, sHs hs] ∧ p ≤ xs.length ∧ IsDr D d ts hs Cd T (sHs hs) ∧ DrOK ts hs ∧ HvT ts.length (hs.map (fun h => h.2)) ∧ ∀ r, Rn xs (3, true, f, t, ts.map tvo, hs.map (fun h => h.2), ch) p r → G r) ∨ (v = some (.int 0) ∧ ∃ p ch nu px py Cd T Hs, S = [sTr a tx d p f t ch nu px py, Cx, Cd, T, Hs] ∧ p ≤ xs.length ∧ G (.inl p))) := by
  obtain ⟨r1, r2, r3, r4⟩ := hr
  obtain ⟨arr, fx, eCx, x1, x2, x3, x4, x5, x6⟩ := id hx
  refine Ct.of rfl (by decide) tkTr_readHits (Nat.le_of_ble_eq_true rfl) (fun A => ?_)
  generalize hQ : (fun (v : Option Value) S => (v = some (.int 1) ∧ ∃ p ch nu px py ts hs Cd T, S = [sTr a tx d p f t ch nu px py, Cx, Cd, T, sHs hs] ∧ p ≤ xs.length ∧ IsDr D d ts hs Cd T (sHs hs) ∧ DrOK ts hs ∧ HvT ts.length (hs.map (fun h => h.2)) ∧ ∀ r, Rn xs (3, true, f, t, ts.map tvo, hs.map (fun h => h.2), ch) p r → G r) ∨ (v = some (.int 0) ∧ ∃ p ch nu px py Cd T Hs, S = [sTr a tx d p f t ch nu px py, Cx, Cd, T, Hs] ∧ p ≤ xs.length ∧ G (.inl p))) = Q
  have failed : ∀ (p : Nat) (ch nu px py : Int32) (i k n : Nat) (Cd T Hs : va_W) (lv9 : List (Nat × Value)), (∀ q ∈ [(2, Value.int (nI i)), (1, .int 0), (0, .ref a)], q ∈ lv9) → p ≤ xs.length → G (.inl p) → k ≤ R.cells → n ≤ R.slots → Ex l mTr_readHits D R A (xQ D A Q) R.cells R.slots 4 lv9 [] [sTr a tx d p f t ch nu px py, Cx, Cd, T, Hs] k n := by
    intro p ch nu px py i k n Cd T Hs lv9 hlv hp hg hk hn
    refine Ex.lv hlv ?_
    have s74 : Ex l mTr_readHits D R A (xQ D A Q) R.cells R.slots 74 [(2, Value.int (nI i)), (1, .int 0), (0, .ref a)] [] [sTr a tx d p f t ch nu px py, Cx, Cd, T, Hs] k n := by
      refine Ex.p rfl ?_
      refine Ex.br rfl (fun _ => ?_) (fun c => absurd rfl c)
      refine Ex.p rfl ?_
      refine Ex.zret rfl rfl (Or.inl rfl) hk hn rfl ?_
      subst hQ
      exact Or.inr ⟨rfl, _, _, _, _, _, _, _, _, rfl, hp, hg⟩
    refine Ex.p rfl ?_
    refine Ex.p rfl ?_
    refine Ex.br rfl (fun _ => s74) (fun _ => ?_)
    refine Ex.p rfl ?_
    exact Ex.br rfl (fun _ => s74) (fun c => absurd rfl c)
  have loop : ∀ (m i p : Nat) (ch nu px py : Int32) (ts : List TV) (hs : List (Nat × HV)) (Cd T : va_W), 2000 - i < m → i ≤ p → p ≤ xs.length → IsDr D d ts hs Cd T (sHs hs) → DrOK ts hs → HvT ts.length (hs.map (fun h => h.2)) → (ch ≠ -1 → 0 ≤ ch.toInt ∧ ch.toInt < ts.length) → (∀ r, Rn xs (2, true, f, t, ts.map tvo, hs.map (fun h => h.2), ch) p r → G r) → ∀ lv9 : List (Nat × Value), (∀ q ∈ [(2, Value.int (nI i)), (1, .int 1), (0, .ref a)], q ∈ lv9) →
      Ex l mTr_readHits D R A (xQ D A Q) R.cells R.slots 4 lv9 [] [sTr a tx d p f t ch nu px py, Cx, Cd, T, sHs hs] (8 * hs.length) (127 * hs.length) := by
    intro m
    induction m with
    | zero => intro i p ch nu px py ts hs Cd T h; omega
    | succ m ih =>
      intro i p ch nu px py ts hs Cd T hm hip hp hd hok hv hch hGp lv9 hlv
      obtain ⟨ta, ha, ft, fh, eCd, -, -, -, -, h3, h4⟩ := id hd
      refine Ex.lv hlv ?_
      have s74 : gt xs p = 77 ∨ gt xs p = -1 → Ex l mTr_readHits D R A (xQ D A Q) R.cells R.slots 74 [(2, Value.int (nI i)), (1, .int 1), (0, .ref a)] [] [sTr a tx d p f t ch nu px py, Cx, Cd, T, sHs hs] (8 * hs.length) (127 * hs.length) := by
        intro hg
        refine Ex.p rfl ?_
        refine Ex.br rfl (fun c => absurd c (show (1 : Int32) ≠ 0 by decide)) (fun _ => ?_)
        refine Ex.p rfl ?_
        refine Ex.ldcS rfl ?_
        have hle := pLit_le (xs := xs) (cs := [77, 51, 48, 10]) (by decide) hp
        refine Ex.cv (Mc := mTr_passes) (Rc := rm 4 0 0) (As := [.ref (D.2.2.2.1 6)]) (rest := []) (Sr := [Cd, T, sHs hs]) (ic := 0) (jc := 0) (ci := 7) [0, 1] [2, 3, 4] (ct_Tr_passes hx (by decide) hp (rm_ok _ _ _)) rfl lk_7_43 lcTr_passes rfl rfl rfl rfl rfl (by decide) rfl rfl rfl (by decide) ⟨by dsimp only [rm]; omega, by show 8 + (3 + 11) + 160 ≤ R.locals; omega⟩ (Nat.le_of_ble_eq_true rfl) (by dsimp only [rm]; omega) (by dsimp only [rm]; omega) ?_
        rintro w S1 ⟨rfl, rfl⟩
        rw [show txt 6 = [77, 51, 48, 10] from rfl]
        generalize hP : pLit xs [77, 51, 48, 10] p = P at hle
        obtain ⟨o, q⟩ := P
        refine Ex.sub (S' := [sTr a tx d q f t ch nu px py, Cx, Cd, T, sHs hs]) [3, 4, 0, 1, 2] rfl rfl ?_
        cases o with
        | false =>
          refine Ex.br rfl (fun _ => ?_) (fun c => absurd rfl c)
          refine Ex.p rfl ?_
          refine Ex.zret rfl rfl (Or.inl rfl) (by dsimp only [rm]; omega) (by dsimp only [rm]; omega) rfl ?_
          subst hQ
          exact Or.inr ⟨rfl, _, _, _, _, _, _, _, _, rfl, hle.2, hGp _ (Rn.m30_bad hP hg)⟩
        | true =>
          refine Ex.br rfl (fun c => absurd c (show (1 : Int32) ≠ 0 by decide)) (fun _ => ?_)
          refine Ex.p rfl ?_
          refine Ex.p rfl ?_
          refine Ex.zret rfl rfl (Or.inr rfl) (by dsimp only [rm]; omega) (by dsimp only [rm]; omega) rfl ?_
          subst hQ
          exact Or.inl ⟨rfl, _, _, _, _, _, ts, hs, _, _, rfl, hle.2, hd, hok, hv, fun r hr => hGp r (Rn.m30_ok hP hr)⟩
      refine Ex.p rfl ?_
      refine Ex.p rfl ?_
      refine Ex.br rfl (fun c => ?_) (fun c => ?_)
      · have c := (i2000 (by omega)).mp c
        exact s74 (Or.inr (gt_end (by omega)))
      · have ci : ¬ 2000 ≤ i := fun q => c ((i2000 (by omega)).mpr q)
        refine Ex.p rfl ?_
        refine Ex.br rfl (fun c => absurd c (show (1 : Int32) ≠ 0 by decide)) (fun _ => ?_)
        refine Ex.p rfl ?_
        refine Ex.gf 0 0 rfl rfl rfl ?_
        refine Ex.p rfl ?_
        refine Ex.gf 0 0 rfl rfl rfl ?_
        refine Ex.cv (Mc := mRo_get) (Rc := rm 0 0 0) (As := [.int (nI p)]) (rest := []) (Sr := [sTr a tx d p f t ch nu px py, Cd, T, sHs hs]) (ic := 1) (jc := 0) (ci := 5) [1] [0, 2, 3, 4] (ct_Ro_get hx) rfl lk_7_50 lcRo_get rfl rfl rfl rfl rfl (by decide) rfl (by rw [eCx]; rfl) rfl (by decide) ⟨by dsimp only [rm]; omega, by show 8 + (2 + 11) + 0 ≤ R.locals; omega⟩ (Nat.le_of_ble_eq_true rfl) (by dsimp only [rm]; omega) (by dsimp only [rm]; omega) ?_
        rintro w S1 ⟨rfl, rfl⟩
        rw [rget_gt (by omega)]
        refine Ex.sub (S' := [sTr a tx d p f t ch nu px py, Cx, Cd, T, sHs hs]) [0, 4, 1, 2, 3] rfl rfl ?_
        refine Ex.p rfl ?_
        refine Ex.br rfl (fun c => s74 (Or.inl c)) (fun c => ?_)
        have c77 : ¬ gt xs p = 77 := c
        have s63 : ¬ (gt xs p = 88 ∧ ch ≠ -1) → Ex l mTr_readHits D R A (xQ D A Q) R.cells R.slots 63 [(2, Value.int (nI i)), (1, .int 1), (0, .ref a)] [] [sTr a tx d p f t ch nu px py, Cx, Cd, T, sHs hs] (8 * hs.length) (127 * hs.length) := by
          intro hnh
          refine Ex.p rfl ?_
          refine Ex.cv (Mc := mTr_readChoiceLine) (Rc := rm 5 0 0) (As := []) (rest := []) (Sr := [T, sHs hs]) (ic := 0) (jc := 0) (ci := 7) [0, 1, 2] [3, 4] (ct_Tr_readChoiceLine hx hd hp (rm_ok _ _ _)) rfl lk_7_62 lcTr_readChoiceLine rfl rfl rfl rfl rfl (by decide) rfl rfl rfl (by decide) ⟨by dsimp only [rm]; omega, by show 8 + (2 + 11) + 200 ≤ R.locals; omega⟩ (Nat.le_of_ble_eq_true rfl) (by dsimp only [rm]; omega) (by dsimp only [rm]; omega) ?_
          rintro w S1 ⟨rfl, ch', nu', rfl, hc'⟩
          have hle := pChoice_le (xs := xs) (n := ts.length) hp
          generalize hP : pChoice xs ts.length p = P at hle hc'
          obtain ⟨o, q⟩ := P
          refine Ex.sub (S' := [sTr a tx d q f t ch' nu' px py, Cx, Cd, T, sHs hs]) [2, 3, 4, 0, 1] rfl rfl ?_
          refine Ex.p rfl ?_
          refine Ex.p rfl ?_
          refine Ex.p rfl ?_
          rw [i_add1]
          have eP : pChoice xs (ts.map tvo).length p = (o, q) := by rw [List.length_map]; exact hP
          cases o with
          | none => exact failed q ch' nu' px py (i + 1) _ _ Cd T (sHs hs) _ (fun z h => by
              simp only [List.mem_cons, List.not_mem_nil, or_false] at h
              rcases h with rfl | rfl | rfl <;> first | (simp [xs1, lv_args, Value.category, b32, nI]; done) | (simp [xs1, lv_args, Value.category, b32, nI]; decide) | (simp [xs1, lv_args, Value.category, b32, nI]; exact Or.inr (by decide))) hle.1 (hGp _ (Rn.cho_bad eP c77 hnh)) (by dsimp only [rm]; omega) (by dsimp only [rm]; omega)
          | some x =>
            have e9 := hc' _ rfl
            subst e9
            have hok' := pChoice_ok hP
            have hlt : p < q := hle.2 (by simp)
            refine Ex.more (k' := 8 * hs.length) (n' := 127 * hs.length) (by dsimp only [rm]; omega) (by dsimp only [rm]; omega) (ih (i + 1) q ch' nu' px py ts hs Cd T (by omega) (by omega) hle.1 hd hok hv (fun _ => hok'.2) (fun r hr => hGp r (Rn.cho_ok eP hr)) _ (fun z h => ?_))
            simp only [List.mem_cons, List.not_mem_nil, or_false] at h
            rcases h with rfl | rfl | rfl <;> first | (simp [xs1, lv_args, Value.category, b32, nI]; done) | (simp [xs1, lv_args, Value.category, b32, nI]; decide) | (simp [xs1, lv_args, Value.category, b32, nI]; exact Or.inr (by decide))
        refine Ex.p rfl ?_
        refine Ex.gf 0 0 rfl rfl rfl ?_
        refine Ex.p rfl ?_
        refine Ex.gf 0 0 rfl rfl rfl ?_
        refine Ex.cv (Mc := mRo_get) (Rc := rm 0 0 0) (As := [.int (nI p)]) (rest := []) (Sr := [sTr a tx d p f t ch nu px py, Cd, T, sHs hs]) (ic := 1) (jc := 0) (ci := 5) [1] [0, 2, 3, 4] (ct_Ro_get hx) rfl lk_7_50 lcRo_get rfl rfl rfl rfl rfl (by decide) rfl (by rw [eCx]; rfl) rfl (by decide) ⟨by dsimp only [rm]; omega, by show 8 + (2 + 11) + 0 ≤ R.locals; omega⟩ (Nat.le_of_ble_eq_true rfl) (by dsimp only [rm]; omega) (by dsimp only [rm]; omega) ?_
        rintro w S1 ⟨rfl, rfl⟩
        rw [rget_gt (by omega)]
        refine Ex.sub (S' := [sTr a tx d p f t ch nu px py, Cx, Cd, T, sHs hs]) [0, 4, 1, 2, 3] rfl rfl ?_
        refine Ex.p rfl ?_
        refine Ex.br rfl (fun c => s63 (fun q => absurd q.1 c)) (fun c => ?_)
        have c88 : gt xs p = 88 := Decidable.byContradiction c
        refine Ex.p rfl ?_
        refine Ex.gf 0 0 rfl rfl rfl ?_
        refine Ex.p rfl ?_
        refine Ex.br rfl (fun c => s63 (fun q => absurd c q.2)) (fun c => ?_)
        have cch : ¬ ch = -1 := c
        obtain ⟨hc0, hc1⟩ := hch cch
        have hcl : ch.toInt.toNat < ts.length := by omega
        have ht0 : ts[ch.toInt.toNat]? = some ts[ch.toInt.toNat] := List.getElem?_eq_getElem hcl
        generalize ts[ch.toInt.toNat] = t0 at ht0
        have ech : ch = nI ch.toInt.toNat := by
          apply Int32.toInt_inj.mp
          rw [nI_toInt (by omega)]
          omega
        refine Ex.p rfl ?_
        refine Ex.cv (Mc := mTr_readHitLine) (Rc := rm 5 8 127) (As := []) (rest := []) (Sr := []) (ic := 0) (jc := 0) (ci := 7) [0, 1, 2, 3, 4] [] (ct_Tr_readHitLine (c := ch.toInt.toNat) hx hd hp (by omega) ht0 (fun h9 => by have := hok.hitsLen ht0; omega) (rm_ok _ _ _)) rfl lk_7_59 lcTr_readHitLine rfl rfl rfl rfl rfl (by decide) rfl rfl rfl (by decide) ⟨by dsimp only [rm]; omega, by show 8 + (9 + 11) + 200 ≤ R.locals; omega⟩ (Nat.le_of_ble_eq_true rfl) (by dsimp only [rm]; omega) (by dsimp only [rm]; omega) ?_
        rintro w S1 ⟨rfl, nu', px', py', Cd', T', ts', hs', rfl, hd', hs1, hs2⟩
        have hle := pHitLine_le (xs := xs) (nh := hs.length) (ch := ch) (f := f) (t := t) hp
        generalize hP : pHitLine xs hs.length ch f t p = P at hle hs1 hs2
        obtain ⟨o, q⟩ := P
        refine Ex.p rfl ?_
        refine Ex.p rfl ?_
        refine Ex.p rfl ?_
        refine Ex.p rfl ?_
        rw [i_add1]
        have eP : pHitLine xs (hs.map (fun h => h.2)).length ch f t p = (o, q) := by rw [List.length_map]; exact hP
        cases o with
        | none => exact failed q ch nu' px' py' (i + 1) _ _ Cd' T' (sHs hs') _ (fun z h => by
            simp only [List.mem_cons, List.not_mem_nil, or_false] at h
            rcases h with rfl | rfl | rfl <;> first | (simp [xs1, lv_args, Value.category, b32, nI]; done) | (simp [xs1, lv_args, Value.category, b32, nI]; decide) | (simp [xs1, lv_args, Value.category, b32, nI]; exact Or.inr (by decide))) hle.1 (hGp _ (Rn.hit_bad eP c88 cch)) (by dsimp only [rm]; omega) (by dsimp only [rm]; omega)
        | some x =>
          obtain ⟨k, rfl, rfl⟩ := hs1 _ rfl
          have hok' := pHitLine_ok hf ht hP
          have hlt : p < q := hle.2 (by simp)
          have em : (hs ++ [(k, x)]).map (fun h => h.2) = hs.map (fun h => h.2) ++ [x] := by simp
          refine Ex.more (k' := 8 * (hs ++ [(k, x)]).length) (n' := 127 * (hs ++ [(k, x)]).length) ?_ ?_ (ih (i + 1) q ch nu' px' py' _ _ Cd' T' (by omega) (by omega) hle.1 hd' (hok.hit ht0 (by rw [hok'.2.1]; exact ech) hok'.2.2 (by omega) hok'.1) ?_ ?_ (fun r hr => hGp r (Rn.hit_ok eP c88 cch ?_)) _ (fun z h => ?_))
          · rw [List.length_append, List.length_singleton]; dsimp only [rm]; omega
          · rw [List.length_append, List.length_singleton]; dsimp only [rm]; omega
          · rw [em, List.length_set]
            exact hv.add hcl (by rw [hok'.2.1]; exact ech)
          · rw [List.length_set]
            exact hch
          · rw [em, map_set_tvo ht0 tvo_tadd] at hr
            exact hr
          · simp only [List.mem_cons, List.not_mem_nil, or_false] at h
            rcases h with rfl | rfl | rfl <;> first | (simp [xs1, lv_args, Value.category, b32, nI]; done) | (simp [xs1, lv_args, Value.category, b32, nI]; decide) | (simp [xs1, lv_args, Value.category, b32, nI]; exact Or.inr (by decide))
  refine Ex.p rfl ?_
  refine Ex.p rfl ?_
  refine Ex.p rfl ?_
  refine Ex.p rfl ?_
  refine loop 2001 0 p0 (-1) nu 0 0 ts0 [] Cd T (by omega) (by omega) hp0 hd hok (fun h hh => by cases hh) (fun c => absurd rfl c) hG _ (fun z h => ?_)
  simp only [List.mem_cons, List.not_mem_nil, or_false] at h
  rcases h with rfl | rfl | rfl <;> first | (simp [xs1, lv_args, Value.category, b32, nI]; done) | (simp [xs1, lv_args, Value.category, b32, nI]; decide) | (simp [xs1, lv_args, Value.category, b32, nI]; exact Or.inr (by decide))
theorem ct_Tr_firstWrong {a tx d cp : Nat} {xs : List Int32} {Cx Cd : va_W} (hx : IsRow D tx 2000 cp xs Cx) (hd : IsDr D d [] [] Cd [] []) (hr : rmOk R 7 543 8055) : Ct l mTr_firstWrong D R [.ref a] [sTr a tx d 0 0 0 (-1) 0 0 0, Cx, Cd, [], []] (fun v S => (v = some (.int (-1)) ∧ ∃ C0 ts hs Cd T, S = [C0, Cx, Cd, T, sHs hs] ∧ IsDr D d ts hs Cd T (sHs hs) ∧ DrOK ts hs ∧ HvT ts.length (hs.map (fun h => h.2)) ∧ Rn xs rs0 0 (.inr (ts.map tvo, hs.map (fun h => h.2)))) ∨ (∃ p C0 C1 C2 C3, v = some (.int (nI p)) ∧ S = [C0, Cx, C1, C2, C3] ∧ p ≤ xs.length ∧ Rn xs rs0 0 (.inl p))) := by
  obtain ⟨r1, r2, r3, r4⟩ := hr
  obtain ⟨arr, fx, eCx, x1, x2, x3, x4, x5, x6⟩ := id hx
  refine Ct.of rfl (by decide) tkTr_firstWrong (Nat.le_of_ble_eq_true rfl) (fun A => ?_)
  generalize hQ : (fun (v : Option Value) S => (v = some (.int (-1)) ∧ ∃ C0 ts hs Cd T, S = [C0, Cx, Cd, T, sHs hs] ∧ IsDr D d ts hs Cd T (sHs hs) ∧ DrOK ts hs ∧ HvT ts.length (hs.map (fun h => h.2)) ∧ Rn xs rs0 0 (.inr (ts.map tvo, hs.map (fun h => h.2)))) ∨ (∃ p C0 C1 C2 C3, v = some (.int (nI p)) ∧ S = [C0, Cx, C1, C2, C3] ∧ p ≤ xs.length ∧ Rn xs rs0 0 (.inl p))) = Q
  have failed : ∀ (p : Nat) (f t ch nu px py : Int32) (Cd T Hs : va_W) (k n : Nat), p ≤ xs.length → Rn xs rs0 0 (.inl p) → k ≤ R.cells → n ≤ R.slots → Ex l mTr_firstWrong D R A (xQ D A Q) R.cells R.slots 39 [(0, .ref a)] [] [sTr a tx d p f t ch nu px py, Cx, Cd, T, Hs] k n := by
    intro p f t ch nu px py Cd T Hs k n hp hg hk hn
    refine Ex.p rfl ?_
    refine Ex.p rfl ?_
    refine Ex.p rfl ?_
    refine Ex.br rfl (fun _ => ?_) (fun c => absurd rfl c)
    refine Ex.p rfl ?_
    refine Ex.gf 0 0 rfl rfl rfl ?_
    refine Ex.iret rfl rfl hk hn rfl ?_
    subst hQ
    exact Or.inr ⟨p, _, _, _, _, rfl, rfl, hp, hg⟩
  refine Ex.p rfl ?_
  refine Ex.cv (Mc := mTr_readLayers) (Rc := rm 6 0 0) (As := []) (rest := []) (Sr := [Cd, [], []]) (ic := 0) (jc := 0) (ci := 7) [0, 1] [2, 3, 4] (ct_Tr_readLayers (G := fun r => Rn xs rs0 0 r) hx (fun _ h => h) (rm_ok _ _ _)) rfl lk_7_23 lcTr_readLayers rfl rfl rfl rfl rfl (by decide) rfl rfl rfl (by decide) ⟨by dsimp only [rm]; omega, by show 8 + (3 + 11) + 240 ≤ R.locals; omega⟩ (Nat.le_of_ble_eq_true rfl) (by dsimp only [rm]; omega) (by dsimp only [rm]; omega) ?_
  rintro w S1 h9
  rcases h9 with ⟨rfl, p, f, t, nu, rfl, hp, h76, hf, ht, hG⟩ | ⟨rfl, p, f, t, nu, rfl, hp, hg⟩
  · refine Ex.sub (S' := [sTr a tx d p f t (-1) nu 0 0, Cx, Cd, [], []]) [3, 4, 0, 1, 2] rfl rfl ?_
    refine Ex.br rfl (fun c => absurd c (show (1 : Int32) ≠ 0 by decide)) (fun _ => ?_)
    refine Ex.p rfl ?_
    refine Ex.cv (Mc := mTr_readTools) (Rc := rm 6 55 308) (As := []) (rest := []) (Sr := [[]]) (ic := 0) (jc := 0) (ci := 7) [0, 1, 2, 3] [4] (ct_Tr_readTools hx hd hp h76 hG (rm_ok _ _ _)) rfl lk_7_27 lcTr_readTools rfl rfl rfl rfl rfl (by decide) rfl rfl rfl (by decide) ⟨by dsimp only [rm]; omega, by show 8 + (3 + 11) + 240 ≤ R.locals; omega⟩ (Nat.le_of_ble_eq_true rfl) (by dsimp only [rm]; omega) (by dsimp only [rm]; omega) ?_
    rintro w S1 h9
    rcases h9 with ⟨rfl, p, nu, ts, Cd, T, rfl, hp, hd, hok, hG⟩ | ⟨rfl, p, nu, ts, Cd, T, rfl, hp, -, hg⟩
    · refine Ex.sub (S' := [sTr a tx d p f t (-1) nu 0 0, Cx, Cd, T, []]) [1, 2, 3, 4, 0] rfl rfl ?_
      refine Ex.br rfl (fun c => absurd c (show (1 : Int32) ≠ 0 by decide)) (fun _ => ?_)
      refine Ex.p rfl ?_
      refine Ex.cv (Mc := mTr_readHits) (Rc := rm 6 488 7747) (As := []) (rest := []) (Sr := []) (ic := 0) (jc := 0) (ci := 7) [0, 1, 2, 3, 4] [] (ct_Tr_readHits hx hd hok hp hf ht hG (rm_ok _ _ _)) rfl lk_7_30 lcTr_readHits rfl rfl rfl rfl rfl (by decide) rfl rfl rfl (by decide) ⟨by dsimp only [rm]; omega, by show 8 + (3 + 11) + 240 ≤ R.locals; omega⟩ (Nat.le_of_ble_eq_true rfl) (by dsimp only [rm]; omega) (by dsimp only [rm]; omega) ?_
      rintro w S1 h9
      rcases h9 with ⟨rfl, p, ch, nu, px, py, ts, hs, Cd, T, rfl, hp, hd, hok, hv, hG⟩ | ⟨rfl, p, ch, nu, px, py, Cd, T, Hs, rfl, hp, hg⟩
      · refine Ex.br rfl (fun c => absurd c (show (1 : Int32) ≠ 0 by decide)) (fun _ => ?_)
        refine Ex.p rfl ?_
        refine Ex.gf 0 0 rfl rfl rfl ?_
        refine Ex.p rfl ?_
        refine Ex.gf 0 0 rfl rfl rfl ?_
        refine Ex.gf 1 0 rfl (by rw [eCx]; rfl) rfl ?_
        refine Ex.br rfl (fun c => ?_) (fun c => ?_)
        · have hne : p ≠ xs.length := fun e => c (by rw [e])
          exact failed p f t ch nu px py Cd T _ _ _ hp (hG _ (Rn.trail rfl hne)) (by dsimp only [rm]; omega) (by dsimp only [rm]; omega)
        · have he : nI p = nI xs.length := Decidable.byContradiction c
          rw [nI_eq (by omega) (by omega)] at he
          subst he
          refine Ex.p rfl ?_
          refine Ex.p rfl ?_
          refine Ex.p rfl ?_
          refine Ex.p rfl ?_
          refine Ex.br rfl (fun c => absurd c (show (1 : Int32) ≠ 0 by decide)) (fun _ => ?_)
          refine Ex.p rfl ?_
          refine Ex.p rfl ?_
          refine Ex.iret rfl rfl (by dsimp only [rm]; omega) (by dsimp only [rm]; omega) rfl ?_
          subst hQ
          exact Or.inl ⟨rfl, _, ts, hs, _, _, rfl, hd, hok, hv, hG _ (Rn.fin rfl)⟩
      · refine Ex.br rfl (fun _ => ?_) (fun c => absurd rfl c)
        exact failed p f t ch nu px py Cd T Hs _ _ hp hg (by dsimp only [rm]; omega) (by dsimp only [rm]; omega)
    · refine Ex.sub (S' := [sTr a tx d p f t (-1) nu 0 0, Cx, Cd, T, []]) [1, 2, 3, 4, 0] rfl rfl ?_
      refine Ex.br rfl (fun _ => ?_) (fun c => absurd rfl c)
      exact failed p f t _ nu _ _ Cd T _ _ _ hp hg (by dsimp only [rm]; omega) (by dsimp only [rm]; omega)
  · refine Ex.sub (S' := [sTr a tx d p f t (-1) nu 0 0, Cx, Cd, [], []]) [3, 4, 0, 1, 2] rfl rfl ?_
    refine Ex.br rfl (fun _ => ?_) (fun c => absurd rfl c)
    exact failed p f t _ nu _ _ Cd _ _ _ _ hp hg (by dsimp only [rm]; omega) (by dsimp only [rm]; omega)
end R7

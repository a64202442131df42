/-! DrillArchive: slot, at, proved -/
def aAt (z : SD) (k w : Int32) : AR := match ixo z.2.1 k with
  | some h => if 0 ≤ w.toInt ∧ w.toInt ≤ 7 then (.inr (.long (hpart h w)), z) else (.inl 1, z)
  | none => (.inl 1, z)
def aProved (z : SD) (i : Int32) : AR := if isTl z i then (.inr (.int (b32 (decide ((tns z.2.1 i.toInt.toNat).length ≤ 8)))), z) else (.inl 1, z)
theorem DrOK.set {ts : List TV} {hs : List (Nat × HV)} {i : Nat} {t : TV} (h : DrOK ts hs) (ht : tOK (hs.map (fun h => h.2)) i t) : DrOK (ts.set i t) hs := by
  refine ⟨fun j u hj => ?_, h.2⟩
  by_cases hij : i = j
  · subst hij
    by_cases hl : i < ts.length
    · rw [List.getElem?_set_self hl] at hj
      cases hj
      exact ht
    · rw [List.set_eq_of_length_le (by omega)] at hj
      exact h.1 i u hj
  · rw [List.getElem?_set_ne hij] at hj
    exact h.1 j u hj
theorem ixo_map {α β : Type} {xs : List α} {i : Int32} {g : α → β} : ixo (xs.map g) i = (ixo xs i).map g := by
  unfold ixo
  split
  · rw [List.getElem?_map]
  · rfl
section DA3
variable {l : Launch} {D : xD} {R : Room}
theorem ct_Da_slot {a : Nat} {z : SD} {i : Int32} {x y x2 y2 : Int64} {S : List va_W} (hfl : l.flags = pinnedFlags ++ [noTraceFlag]) (h : IsDa D a z S) (hr : rmOk R 7 9 133) : CtT l mDa_slot none D R [.ref a, .int i, .long x, .long y, .long x2, .long y2] S (QR D a (aSlot z i x y x2 y2)) (ER D a f12 (aSlot z i x y x2 y2)) := by
  obtain ⟨r1, r2, r3, r4⟩ := hr
  have hz := id h
  obtain ⟨pl, w, un, fe, dr, f, r, kp, kf, kt, c0, c1, c2, xs, ts, hs, fs, Cp, Co, Cu, Cf, Cd, T, Cs, F, rfl, hpl, ho, hk, hu, hfe, hb, hd, hok, hv, htv, hhv, hfs, hff⟩ := h
  obtain ⟨ta, ha, ft, fh, eCd, hTs, -, -, -, h3, h4⟩ := id hd
  have hlen : z.1.length = ts.length := by rw [← htv, List.length_map]
  have hhl : z.2.1.length = hs.length := by rw [← hhv, List.length_map]
  generalize hP : aSlot z i x y x2 y2 = P
  unfold aSlot at hP
  refine CtT.of rfl (by decide) tkDa_slot (Nat.le_of_ble_eq_true rfl) (fun A => ?_)
  refine Ex.p rfl ?_
  refine Ex.p rfl ?_
  refine Ex.cvT (Mc := mDa_knownTool) (Rc := rm 6 1 6) (As := [.int i]) (rest := []) (Sr := [Cp, sTw w pl r kp kf kt, Co, Cu, Cf, T, sHs hs, Cs, F]) (ic := 0) (jc := 0) (ci := 0) [0, 6] [1, 2, 3, 4, 5, 7, 8, 9, 10] (ct_Da_knownTool hfl hd (rm_ok _ _ _)) rfl lk_0_69 lcDa_knownTool rfl rfl rfl rfl rfl (by decide) rfl rfl rfl (by decide) ⟨by dsimp only [rm]; omega, by show 8 + (3 + 11) + 240 ≤ R.locals; omega⟩ (Nat.le_of_ble_eq_true rfl) (by dsimp only [rm]; omega) (by dsimp only [rm]; omega) ?_ ?_
  · rintro v S1 ⟨t, hi, rfl, rfl⟩
    obtain ⟨hi1, hi2⟩ := ixo_some hi
    refine Ex.sub (S' := [sDa a pl w un fe dr f, Cp, sTw w pl r kp kf kt, Co, Cu, Cf, Cd, T, sHs hs, Cs, F]) [9, 0, 1, 2, 3, 4, 10, 5, 6, 7, 8] rfl rfl ?_
    have ilt : isTl z i := ⟨hi1.1, by rw [hlen]; exact hi1.2⟩
    rw [if_pos ilt] at hP
    have s40 : ¬ (near64 x y ∧ near64 x2 y2 ∧ ¬ (x = x2 ∧ y = y2)) → Ex l mDa_slot D R A (xQT D A (QR D a P) (ER D a f12 P)) R.cells R.slots 40 (lv_args 0 [.ref a, .int i, .long x, .long y, .long x2, .long y2]) [] [sDa a pl w un fe dr f, Cp, sTw w pl r kp kf kt, Co, Cu, Cf, Cd, T, sHs hs, Cs, F] (0 + (rm 6 1 6).cells) (0 + (rm 6 1 6).slots) := by
      intro g
      rw [if_neg g] at hP
      refine Ex.thr hfl rfl rfl rfl rfl rfl rfl rfl thrIA (by decide +kernel) lcDa_slot.1.2.1 (by first | omega | (dsimp only [rm]; omega)) (by first | omega | (dsimp only [rm]; omega)) (by first | omega | (dsimp only [rm]; omega)) (by first | omega | (dsimp only [rm]; omega)) (by omega) (by simp [Value.category]; omega) ?_
      subst hP
      exact ⟨2, rfl, rfl, hz⟩
    have s50 : near64 x y → near64 x2 y2 → ¬ (x = x2 ∧ y = y2) → Ex l mDa_slot D R A (xQT D A (QR D a P) (ER D a f12 P)) R.cells R.slots 50 (lv_args 0 [.ref a, .int i, .long x, .long y, .long x2, .long y2]) [] [sDa a pl w un fe dr f, Cp, sTw w pl r kp kf kt, Co, Cu, Cf, Cd, T, sHs hs, Cs, F] (0 + (rm 6 1 6).cells) (0 + (rm 6 1 6).slots) := by
      intro g1 g2 g3
      rw [if_pos ⟨g1, g2, g3⟩] at hP
      unfold aHit at hP
      have hgrow : rcap t.2.2.2.2.2.2.2.1 t.2.2.2.1.length - t.2.2.2.2.2.2.2.1 ≤ 60 := by
        obtain ⟨X, C, Y, -, ⟨rh, ro, Ch, Co, -, ⟨_, _, _, q1, q2, _⟩, -⟩, -⟩ := IsTs.at hTs hi2
        unfold rcap
        split <;> omega
      refine Ex.p rfl ?_
      refine Ex.gf 0 0 rfl rfl rfl ?_
      refine Ex.cv (Mc := mTw_forget) (Rc := rm 0 0 0) (As := []) (rest := []) (Sr := [sDa a pl w un fe dr f, Cp, Co, Cu, Cf, Cd, T, sHs hs, Cs, F]) (ic := 2) (jc := 0) (ci := 8) [2] [0, 1, 3, 4, 5, 6, 7, 8, 9, 10] (ct_Tw_forget) rfl lk_0_62 lcTw_forget rfl rfl rfl rfl rfl (by decide) rfl rfl rfl (by decide) ⟨by dsimp only [rm]; omega, by show 8 + (1 + 11) + 0 ≤ R.locals; omega⟩ (Nat.le_of_ble_eq_true rfl) (by dsimp only [rm]; omega) (by dsimp only [rm]; omega) ?_
      rintro v S1 ⟨rfl, rfl⟩
      refine Ex.sub (S' := [sDa a pl w un fe dr f, Cp, sTw w pl r false kf kt, Co, Cu, Cf, Cd, T, sHs hs, Cs, F]) [0, 1, 10, 2, 3, 4, 5, 6, 7, 8, 9] rfl rfl ?_
      refine Ex.p rfl ?_
      refine Ex.gf 0 0 rfl rfl rfl ?_
      refine Ex.new (ci := 3) (N := 7) rfl rfl (by dsimp only [rm]; omega) (by dsimp only [rm]; omega) (fun q9 => ?_)
      repeat (first | refine Ex.p rfl ?_ | refine Ex.ldc rfl ?_ | refine Ex.ldc2 rfl ?_)
      refine Ex.ci (Mc := mHi_init) (Rc := rm 1 0 0) (As := [.int i, .int x.toInt32, .int y.toInt32, .int x2.toInt32, .int y2.toInt32, .int 0, .int 7]) (rest := [.ref q9, .ref dr]) (Sr := [sDa a pl w un fe dr f, Cp, sTw w pl r false kf kt, Co, Cu, Cf, Cd, T, sHs hs, Cs, F]) [11] [0, 1, 2, 3, 4, 5, 6, 7, 8, 9, 10] (ct_Hi_init (h := (i, x.toInt32, y.toInt32, x2.toInt32, y2.toInt32, 0, 7)) (rm_ok _ _ _)) rfl lk_0_90 lcHi_init rfl rfl rfl rfl rfl (by decide) ⟨by dsimp only [rm]; omega, by show 8 + (8 + 11) + 40 ≤ R.locals; omega⟩ (Nat.le_of_ble_eq_true rfl) (by dsimp only [rm]; omega) (by dsimp only [rm]; omega) ?_
      rintro v S1 ⟨rfl, rfl⟩
      refine Ex.cv (Mc := mDr_addHit) (Rc := rm 4 ((rcap t.2.2.2.2.2.2.2.1 t.2.2.2.1.length - t.2.2.2.2.2.2.2.1) / 8) (2 * (rcap t.2.2.2.2.2.2.2.1 t.2.2.2.1.length - t.2.2.2.2.2.2.2.1))) (As := [.ref q9]) (rest := []) (Sr := [sDa a pl w un fe dr f, Cp, sTw w pl r false kf kt, Co, Cu, Cf, Cs, F]) (ic := 6) (jc := 0) (ci := 1) [6, 7, 8, 11] [0, 1, 2, 3, 4, 5, 9, 10] (ct_Dr_addHit (i := i.toInt.toNat) (h9 := (i, x.toInt32, y.toInt32, x2.toInt32, y2.toInt32, 0, 7)) hd (by show i.toInt = _; omega) hi2 (fun h9 => by have := hok.hitsLen hi2; omega) (rm_ok _ _ _)) rfl lk_0_93 lcDr_addHit rfl rfl rfl rfl rfl (by decide) rfl (by rw [eCd]; rfl) rfl (by decide) ⟨by dsimp only [rm]; omega, by show 8 + (3 + 11) + 160 ≤ R.locals; omega⟩ (Nat.le_of_ble_eq_true rfl) (by dsimp only [rm]; omega) (by dsimp only [rm]; omega) ?_
      rintro v S1 h9
      rcases h9 with ⟨h10, rfl, rfl⟩ | ⟨h10, rfl, Cd', T', rfl, hd'⟩
      · rw [if_neg (by omega)] at hP
        refine Ex.sub (S' := [sDa a pl w un fe dr f, Cp, sTw w pl r false kf kt, Co, Cu, Cf, Cd, T, sHs hs, Cs, F]) [0, 1, 2, 3, 4, 5, 8, 9, 10, 6, 7] rfl rfl ?_
        refine Ex.rt (Ex.iret rfl rfl (by dsimp only [rm]; omega) (by dsimp only [rm]; omega) rfl ?_)
        subst hP
        exact ⟨_, rfl, rfl, pl, w, un, fe, dr, f, r, false, kf, kt, c0, c1, c2, xs, ts, hs, fs, Cp, Co, Cu, Cf, Cd, T, Cs, F, rfl, hpl, ho, (fun c => by cases c), hu, hfe, hb, hd, hok, hv, htv, hhv, hfs, hff⟩
      · rw [if_pos (by omega)] at hP
        refine Ex.sub (S' := [sDa a pl w un fe dr f, Cp, sTw w pl r false kf kt, Co, Cu, Cf, Cd', T', sHs (hs ++ [(q9, (i, x.toInt32, y.toInt32, x2.toInt32, y2.toInt32, 0, 7))]), Cs, F]) [0, 1, 2, 3, 4, 5, 8, 9, 10, 6, 7] rfl rfl ?_
        refine Ex.rt (Ex.iret rfl rfl (by dsimp only [rm]; omega) (by dsimp only [rm]; omega) rfl ?_)
        subst hP
        exact ⟨_, rfl, by rw [hhl], pl, w, un, fe, dr, f, r, false, kf, kt, c0, c1, c2, xs, _, _, fs, Cp, Co, Cu, Cf, Cd', T', Cs, F, rfl, hpl, ho, (fun c => by cases c), hu, hfe, hb, hd', hok.hit hi2 (nI_nat hi1.1).symm (near_ok g1 g2 (show layOK 0 from ⟨by decide, by decide⟩) (show layOK 7 from ⟨by decide, by decide⟩)) (by omega) h10, (by rw [List.length_set, List.map_append]; exact hv.add (by omega) (nI_nat hi1.1).symm), (by rw [map_set_tvo hi2 tvo_tadd, htv]), (by rw [List.map_append, hhv]; rfl), hfs, hff⟩
    refine Ex.p rfl ?_
    refine Ex.p rfl ?_
    refine Ex.p rfl ?_
    refine Ex.cs0 (Mc := mDa_isPlace) (Rc := rm 0 0 0) (As := [.long x, .long y]) (rest := []) (ct_isPlace) rfl lk_0_82 lcDa_isPlace rfl ⟨by dsimp only [rm]; omega, by show 8 + (4 + 11) + 0 ≤ R.locals; omega⟩ (Nat.le_of_ble_eq_true rfl) (by dsimp only [rm]; omega) (by dsimp only [rm]; omega) ?_
    rintro v S1 ⟨rfl, rfl⟩
    by_cases g1 : near64 x y
    · rw [decide_eq_true g1]
      refine Ex.br rfl (fun c => absurd c (show (1 : Int32) ≠ 0 by decide)) (fun _ => ?_)
      refine Ex.p rfl ?_
      refine Ex.p rfl ?_
      refine Ex.cs0 (Mc := mDa_isPlace) (Rc := rm 0 0 0) (As := [.long x2, .long y2]) (rest := []) (ct_isPlace) rfl lk_0_82 lcDa_isPlace rfl ⟨by dsimp only [rm]; omega, by show 8 + (4 + 11) + 0 ≤ R.locals; omega⟩ (Nat.le_of_ble_eq_true rfl) (by dsimp only [rm]; omega) (by dsimp only [rm]; omega) ?_
      rintro v S1 ⟨rfl, rfl⟩
      by_cases g2 : near64 x2 y2
      · rw [decide_eq_true g2]
        refine Ex.br rfl (fun c => absurd c (show (1 : Int32) ≠ 0 by decide)) (fun _ => ?_)
        refine Ex.p rfl ?_
        refine Ex.p rfl ?_
        refine Ex.p rfl ?_
        refine Ex.br rfl (fun c => ?_) (fun c => ?_)
        · have c : ¬ lg_cmp x x2 = 0 := c
          rw [lg_cmp_eq] at c
          exact s50 g1 g2 (fun q => c q.1)
        · have c : ¬ ¬ lg_cmp x x2 = 0 := c
          rw [lg_cmp_eq] at c
          have c := Decidable.not_not.mp c
          refine Ex.p rfl ?_
          refine Ex.p rfl ?_
          refine Ex.p rfl ?_
          refine Ex.br rfl (fun c2 => ?_) (fun c2 => ?_)
          · have c2 : ¬ lg_cmp y y2 = 0 := c2
            rw [lg_cmp_eq] at c2
            exact s50 g1 g2 (fun q => c2 q.2)
          · have c2 : ¬ ¬ lg_cmp y y2 = 0 := c2
            rw [lg_cmp_eq] at c2
            have c2 := Decidable.not_not.mp c2
            exact s40 (fun q => q.2.2 ⟨c, c2⟩)
      · rw [decide_eq_false g2]
        exact Ex.br rfl (fun _ => s40 (fun q => g2 q.2.1)) (fun c => absurd rfl c)
    · rw [decide_eq_false g1]
      exact Ex.br rfl (fun _ => s40 (fun q => g1 q.1)) (fun c => absurd rfl c)
  · rintro x9 cc S1 ⟨rfl, hno, rfl⟩
    refine Et.sub (S' := [sDa a pl w un fe dr f, Cp, sTw w pl r kp kf kt, Co, Cu, Cf, Cd, T, sHs hs, Cs, F]) [9, 0, 1, 2, 3, 4, 10, 5, 6, 7, 8] rfl rfl ?_
    refine Et.leave lcDa_slot.1.2.1 (by dsimp only [rm]; omega) (by dsimp only [rm]; omega) ?_
    rw [if_neg (fun q => ixo_no hno ⟨q.1, by rw [← hlen]; exact q.2⟩)] at hP
    subst hP
    exact ⟨1, rfl, rfl, hz⟩
theorem ct_Da_at {a : Nat} {z : SD} {k9 w9 : Int32} {S : List va_W} (hfl : l.flags = pinnedFlags ++ [noTraceFlag]) (h : IsDa D a z S) (hr : rmOk R 6 1 6) : CtT l mDa_at none D R [.ref a, .int k9, .int w9] S (QR D a (aAt z k9 w9)) (ER D a (fun _ => 12) (aAt z k9 w9)) := by
  obtain ⟨r1, r2, r3, r4⟩ := hr
  have hz := id h
  obtain ⟨pl, w, un, fe, dr, f, r, kp, kf, kt, c0, c1, c2, xs, ts, hs, fs, Cp, Co, Cu, Cf, Cd, T, Cs, F, rfl, hpl, ho, hk, hu, hfe, hb, hd, hok, hv, htv, hhv, hfs, hff⟩ := h
  obtain ⟨ta, ha, ft, fh, eCd, hTs, -, -, -, h3, h4⟩ := id hd
  generalize hP : aAt z k9 w9 = P
  unfold aAt at hP
  rw [← hhv, ixo_map] at hP
  refine CtT.of rfl (by decide) tkDa_at (Nat.le_of_ble_eq_true rfl) (fun A => ?_)
  have s23 : P = (.inl 1, z) → ∀ lv9 : List (Nat × Value), Ex l mDa_at D R A (xQT D A (QR D a P) (ER D a (fun _ => 12) P)) R.cells R.slots 23 lv9 [] [sDa a pl w un fe dr f, Cp, sTw w pl r kp kf kt, Co, Cu, Cf, Cd, T, sHs hs, Cs, F] 0 0 := by
    intro e lv9
    refine Ex.thr hfl rfl rfl rfl rfl rfl rfl rfl thrIO (by decide +kernel) lcDa_at.1.2.1 (by first | omega | (dsimp only [rm]; omega)) (by first | omega | (dsimp only [rm]; omega)) (by first | omega | (dsimp only [rm]; omega)) (by first | omega | (dsimp only [rm]; omega)) (by omega) (by simp [Value.category]; omega) ?_
    subst e
    exact ⟨1, rfl, rfl, hz⟩
  refine Ex.p rfl ?_
  refine Ex.gf 0 0 rfl rfl rfl ?_
  refine Ex.p rfl ?_
  refine Ex.cv (Mc := mDr_hitAt) (Rc := rm 0 0 0) (As := [.int k9]) (rest := []) (Sr := [sDa a pl w un fe dr f, Cp, sTw w pl r kp kf kt, Co, Cu, Cf, T, sHs hs, Cs, F]) (ic := 6) (jc := 0) (ci := 1) [6] [0, 1, 2, 3, 4, 5, 7, 8, 9, 10] (ct_Dr_hitAt hd) rfl lk_0_128 lcDr_hitAt rfl rfl rfl rfl rfl (by decide) rfl (by rw [eCd]; rfl) rfl (by decide) ⟨by dsimp only [rm]; omega, by show 8 + (2 + 11) + 0 ≤ R.locals; omega⟩ (Nat.le_of_ble_eq_true rfl) (by dsimp only [rm]; omega) (by dsimp only [rm]; omega) ?_
  rintro v S1 ⟨rfl, rfl⟩
  refine Ex.sub (S' := [sDa a pl w un fe dr f, Cp, sTw w pl r kp kf kt, Co, Cu, Cf, Cd, T, sHs hs, Cs, F]) [0, 1, 2, 3, 4, 5, 10, 6, 7, 8, 9] rfl rfl ?_
  cases hi : ixo hs k9 with
  | none =>
    rw [hi] at hP
    refine Ex.p rfl ?_
    refine Ex.p rfl ?_
    refine Ex.nuN rfl rfl ?_
    exact s23 hP.symm _
  | some q =>
    obtain ⟨q, hh⟩ := q
    rw [hi] at hP
    have hP : (if 0 ≤ w9.toInt ∧ w9.toInt ≤ 7 then ((Sum.inr (.long (hpart hh w9)), z) : AR) else (.inl 1, z)) = P := hP
    refine Ex.p rfl ?_
    refine Ex.p rfl ?_
    refine Ex.nuR rfl ?_
    refine Ex.p rfl ?_
    refine Ex.br rfl (fun c => ?_) (fun c => ?_)
    · have c : w9 < 0 := c
      rw [Int32.lt_iff_toInt_lt] at c
      have c : w9.toInt < 0 := c
      rw [if_neg (by omega)] at hP
      exact s23 hP.symm _
    · have c : ¬ w9 < 0 := c
      rw [Int32.lt_iff_toInt_lt] at c
      have c : ¬ w9.toInt < 0 := c
      refine Ex.p rfl ?_
      refine Ex.p rfl ?_
      refine Ex.br rfl (fun c2 => ?_) (fun c2 => ?_)
      · have c2 : w9 ≤ 7 := c2
        rw [Int32.le_iff_toInt_le] at c2
        have c2 : w9.toInt ≤ 7 := c2
        rw [if_pos (by omega)] at hP
        obtain ⟨-, hi2⟩ := ixo_some hi
        obtain ⟨hi3, hi4⟩ := List.getElem?_eq_some_iff.mp hi2
        have eH : sHs hs = (sHs hs).take k9.toInt.toNat ++ ([cHit q hh] ++ (sHs hs).drop (k9.toInt.toNat + 1)) := by
          have e0 : (sHs hs)[k9.toInt.toNat]? = some (cHit q hh) := by
            unfold sHs
            rw [List.getElem?_map, hi2]
            rfl
          obtain ⟨hlt, e1⟩ := List.getElem?_eq_some_iff.mp e0
          rw [← e1, List.singleton_append, ← List.drop_eq_getElem_cons hlt, List.take_append_drop]
        refine Ex.p rfl ?_
        refine Ex.p rfl ?_
        refine Ex.seg (S' := [sDa a pl w un fe dr f, Cp, sTw w pl r kp kf kt, Co, Cu, Cf, Cd, T, (sHs hs).take k9.toInt.toNat, [cHit q hh], (sHs hs).drop (k9.toInt.toNat + 1), Cs, F]) (by
          show _ = _
          conv => lhs; rw [eH]
          simp) ?_
        refine Ex.cv (Mc := mHi_part) (Rc := rm 1 0 0) (As := [.int w9]) (rest := []) (Sr := [sDa a pl w un fe dr f, Cp, sTw w pl r kp kf kt, Co, Cu, Cf, Cd, T, (sHs hs).take k9.toInt.toNat, (sHs hs).drop (k9.toInt.toNat + 1), Cs, F]) (ic := 9) (jc := 0) (ci := 3) [9] [0, 1, 2, 3, 4, 5, 6, 7, 8, 10, 11, 12] (ct_Hi_part (by omega) c2 (rm_ok _ _ _)) rfl lk_0_134 lcHi_part rfl rfl rfl rfl rfl (by decide) rfl rfl rfl (by decide) ⟨by dsimp only [rm]; omega, by show 8 + (2 + 11) + 40 ≤ R.locals; omega⟩ (Nat.le_of_ble_eq_true rfl) (by dsimp only [rm]; omega) (by dsimp only [rm]; omega) ?_
        rintro v S1 ⟨rfl, rfl⟩
        refine Ex.sub (S' := [sDa a pl w un fe dr f, Cp, sTw w pl r kp kf kt, Co, Cu, Cf, Cd, T, (sHs hs).take k9.toInt.toNat, [cHit q hh], (sHs hs).drop (k9.toInt.toNat + 1), Cs, F]) [0, 1, 2, 3, 4, 5, 6, 7, 8, 12, 9, 10, 11] rfl rfl ?_
        refine Ex.rt (Ex.lret (S' := [sDa a pl w un fe dr f, Cp, sTw w pl r kp kf kt, Co, Cu, Cf, Cd, T, sHs hs, Cs, F]) rfl rfl (by dsimp only [rm]; omega) (by dsimp only [rm]; omega) ?_ ?_)
        · show _ = _
          conv => rhs; rw [eH]
          simp
        · subst hP
          exact ⟨_, rfl, rfl, hz⟩
      · have c2 : ¬ w9 ≤ 7 := c2
        rw [Int32.le_iff_toInt_le] at c2
        have c2 : ¬ w9.toInt ≤ 7 := c2
        rw [if_neg (by omega)] at hP
        exact s23 hP.symm _
theorem ct_Da_proved {a : Nat} {z : SD} {i : Int32} {S : List va_W} (hfl : l.flags = pinnedFlags ++ [noTraceFlag]) (h : IsDa D a z S) (hr : rmOk R 7 1 6) : CtT l mDa_proved none D R [.ref a, .int i] S (QR D a (aProved z i)) (ER D a (fun _ => 12) (aProved z i)) := by
  obtain ⟨r1, r2, r3, r4⟩ := hr
  have hz := id h
  obtain ⟨pl, w, un, fe, dr, f, r, kp, kf, kt, c0, c1, c2, xs, ts, hs, fs, Cp, Co, Cu, Cf, Cd, T, Cs, F, rfl, hpl, ho, hk, hu, hfe, hb, hd, hok, hv, htv, hhv, hfs, hff⟩ := h
  obtain ⟨ta, ha, ft, fh, eCd, hTs, -, -, -, h3, h4⟩ := id hd
  have hlen : z.1.length = ts.length := by rw [← htv, List.length_map]
  generalize hP : aProved z i = P
  unfold aProved at hP
  refine CtT.of rfl (by decide) tkDa_proved (Nat.le_of_ble_eq_true rfl) (fun A => ?_)
  refine Ex.p rfl ?_
  refine Ex.p rfl ?_
  refine Ex.cvT (Mc := mDa_knownTool) (Rc := rm 6 1 6) (As := [.int i]) (rest := []) (Sr := [Cp, sTw w pl r kp kf kt, Co, Cu, Cf, T, sHs hs, Cs, F]) (ic := 0) (jc := 0) (ci := 0) [0, 6] [1, 2, 3, 4, 5, 7, 8, 9, 10] (ct_Da_knownTool hfl hd (rm_ok _ _ _)) rfl lk_0_69 lcDa_knownTool rfl rfl rfl rfl rfl (by decide) rfl rfl rfl (by decide) ⟨by dsimp only [rm]; omega, by show 8 + (3 + 11) + 240 ≤ R.locals; omega⟩ (Nat.le_of_ble_eq_true rfl) (by dsimp only [rm]; omega) (by dsimp only [rm]; omega) ?_ ?_
  · rintro v S1 ⟨t, hi, rfl, rfl⟩
    obtain ⟨hi1, hi2⟩ := ixo_some hi
    refine Ex.sub (S' := [sDa a pl w un fe dr f, Cp, sTw w pl r kp kf kt, Co, Cu, Cf, Cd, T, sHs hs, Cs, F]) [9, 0, 1, 2, 3, 4, 10, 5, 6, 7, 8] rfl rfl ?_
    have ilt : isTl z i := ⟨hi1.1, by rw [hlen]; exact hi1.2⟩
    rw [if_pos ilt] at hP
    obtain ⟨X, C, Y, eT, hC, -⟩ := hd.at hi2
    obtain ⟨rh, ro, Ch, Cr, rfl, ⟨ar, fr, rfl, y1, y2, y3, y4, y5, y6⟩, hro⟩ := hC
    obtain ⟨k1, -⟩ := hok.1 _ _ hi2
    have hcnt : t.2.2.2.1.length = (tns z.2.1 i.toInt.toNat).length := by rw [k1, hhv, List.length_map]
    refine Ex.seg (S' := [sDa a pl w un fe dr f, Cp, sTw w pl r kp kf kt, Co, Cu, Cf, Cd, X, [(t.1, .inr (9, [.int t.2.1, .int (b32 t.2.2.1), .ref rh, .ref ro, .long t.2.2.2.2.2.1, .int (b32 t.2.2.2.2.2.2.1)]))], sRow D rh ar t.2.2.2.2.2.2.2.1 fr 60 t.2.2.2.1.length, Cr ++ Y, sHs hs, Cs, F]) (by rw [eT]; simp) ?_
    refine Ex.gf 8 0 rfl rfl rfl ?_
    refine Ex.gf 9 0 rfl rfl rfl ?_
    refine Ex.p rfl ?_
    refine Ex.br rfl (fun c => ?_) (fun c => ?_)
    · have c : nI 8 < nI t.2.2.2.1.length := c
      rw [nI_ltI (by omega) (by omega)] at c
      refine Ex.p rfl ?_
      refine Ex.rt (Ex.zret (S' := [sDa a pl w un fe dr f, Cp, sTw w pl r kp kf kt, Co, Cu, Cf, Cd, T, sHs hs, Cs, F]) rfl rfl (Or.inl rfl) (by dsimp only [rm]; omega) (by dsimp only [rm]; omega) (by rw [eT]; simp) ?_)
      subst hP
      exact ⟨_, rfl, by rw [decide_eq_false (by omega)]; rfl, hz⟩
    · have c : ¬ nI 8 < nI t.2.2.2.1.length := c
      rw [nI_ltI (by omega) (by omega)] at c
      refine Ex.p rfl ?_
      refine Ex.p rfl ?_
      refine Ex.rt (Ex.zret (S' := [sDa a pl w un fe dr f, Cp, sTw w pl r kp kf kt, Co, Cu, Cf, Cd, T, sHs hs, Cs, F]) rfl rfl (Or.inr rfl) (by dsimp only [rm]; omega) (by dsimp only [rm]; omega) (by rw [eT]; simp) ?_)
      subst hP
      exact ⟨_, rfl, by rw [decide_eq_true (by omega)]; rfl, hz⟩
  · rintro x9 cc S1 ⟨rfl, hno, rfl⟩
    refine Et.sub (S' := [sDa a pl w un fe dr f, Cp, sTw w pl r kp kf kt, Co, Cu, Cf, Cd, T, sHs hs, Cs, F]) [9, 0, 1, 2, 3, 4, 10, 5, 6, 7, 8] rfl rfl ?_
    refine Et.leave lcDa_proved.1.2.1 (by dsimp only [rm]; omega) (by dsimp only [rm]; omega) ?_
    rw [if_neg (fun q => ixo_no hno ⟨q.1, by rw [← hlen]; exact q.2⟩)] at hP
    subst hP
    exact ⟨1, rfl, rfl, hz⟩
end DA3

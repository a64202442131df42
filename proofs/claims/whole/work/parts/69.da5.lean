/-! DrillArchive: write, read -/
noncomputable def aWrite (z : SD) (L i : Int32) : AR := if 0 ≤ i.toInt ∧ (0 ≤ (L / 10).toInt ∧ (L / 10).toInt ≤ 7) ∧ (0 ≤ (L - L / 10 * 10).toInt ∧ (L - L / 10 * 10).toInt ≤ 7) ∧ L / 10 ≤ L - L / 10 * 10 then (.inr (.int (rget (textD (L / 10) (L - L / 10 * 10) z.1 z.2.1) i)), z) else (.inl 1, z)

section DA5
variable {l : Launch} {D : xD} {R : Room}
theorem text_grow {kf kt : Int32} {ts : List TV} {hs : List (Nat × HV)} {c0 : Nat} (hf : layOK kf) (ht : layOK kt) (hok : DrOK ts hs) (hl : ts.length ≤ 10) (hh : hs.length ≤ 60) (hc : c0 ≤ 10000) : (textD kf kt (ts.map tvo) (hs.map (fun h => h.2))).length ≤ 2545 ∧ capN c0 0 (textD kf kt (ts.map tvo) (hs.map (fun h => h.2))).length ≤ max c0 5090 := by
  have h1 : (textD kf kt (ts.map tvo) (hs.map (fun h => h.2))).length ≤ 2545 := textD_len hf ht (by rw [List.length_map]; exact hl) (fun t h9 => by
    obtain ⟨u, hu, rfl⟩ := List.mem_map.mp h9
    obtain ⟨i, hi⟩ := List.mem_iff_getElem?.mp hu
    exact (hok.1 i u hi).2.2.2.1) (by rw [List.length_map]; exact hh)
  exact ⟨h1, capN_le _ _ _ _ (by omega) (by omega)⟩
theorem ct_Da_write {a : Nat} {z : SD} {L i : Int32} {S : List va_W} (hfl : l.flags = pinnedFlags ++ [noTraceFlag]) (h : IsDa D a z S) (hr : rmOk R 8 786 12580) : CtT l mDa_write none D R [.ref a, .int L, .int i] S (QR D a (aWrite z L i)) (ER D a (fun _ => 12) (aWrite z L i)) := by
  obtain ⟨r1, r2, r3, r4⟩ := hr
  have hz := id h
  obtain ⟨pl, w, un, fe, dr, f, r, kp, kf, kt, c0, c1, c2, xs, ts, hs, fs, Cp, Co, Cu, Cf, Cd, T, Cs, F, rfl, hpl, ho, hk, hu, hfe, hb, hd, hok, hv, htv, hhv, hfs, hff⟩ := h
  obtain ⟨ta, ha, ft, fh, eCd, hTs, -, -, -, h3, h4⟩ := id hd
  obtain ⟨ar, fx, eCo, w1, w2, w3, w4, w5, w6⟩ := id ho
  generalize hP : aWrite z L i = P
  unfold aWrite at hP
  refine CtT.of rfl (by decide) tkDa_write (Nat.le_of_ble_eq_true rfl) (fun A => ?_)
  refine Ex.p rfl ?_
  refine Ex.p rfl ?_
  refine Ex.idiv rfl (by decide) ?_
  refine Ex.p rfl ?_
  refine Ex.p rfl ?_
  refine Ex.p rfl ?_
  refine Ex.irem rfl (by decide) ?_
  generalize ed : L / (Int8.ofInt 10).toInt32 = q
  have ed : L / 10 = q := ed
  generalize em : L - q * (Int8.ofInt 10).toInt32 = m
  have em : L - q * 10 = m := em
  rw [ed, em] at hP
  refine Ex.p rfl ?_
  refine Ex.p rfl ?_
  have s36 : ¬ (0 ≤ i.toInt ∧ (0 ≤ q.toInt ∧ q.toInt ≤ 7) ∧ (0 ≤ m.toInt ∧ m.toInt ≤ 7) ∧ q ≤ m) → ∀ lv9 : List (Nat × Value), Ex l mDa_write D R A (xQT D A (QR D a P) (ER D a (fun _ => 12) P)) R.cells R.slots 36 lv9 [] [sDa a pl w un fe dr f, Cp, sTw w pl r kp kf kt, Co, Cu, Cf, Cd, T, sHs hs, Cs, F] 0 0 := by
    intro g lv9
    rw [if_neg g] at hP
    refine Ex.thr hfl rfl rfl rfl rfl rfl rfl rfl thrIO (by decide +kernel) lcDa_write.1.2.1 (by first | omega | (dsimp only [rm]; omega)) (by first | omega | (dsimp only [rm]; omega)) (by first | omega | (dsimp only [rm]; omega)) (by first | omega | (dsimp only [rm]; omega)) (by omega) (by simp [Value.category]; omega) ?_
    subst hP
    exact ⟨1, rfl, rfl, hz⟩
  refine Ex.br rfl (fun c => ?_) (fun c => ?_)
  · have c : i < 0 := c
    rw [Int32.lt_iff_toInt_lt] at c
    have c : i.toInt < 0 := c
    exact s36 (fun q => by omega) _
  · have c : ¬ i < 0 := c
    rw [Int32.lt_iff_toInt_lt] at c
    have c : ¬ i.toInt < 0 := c
    refine Ex.p rfl ?_
    refine Ex.cs0 (Mc := mDa_isLayer) (Rc := rm 0 0 0) (As := [.int q]) (rest := []) (ct_isLayer) rfl lk_0_73 lcDa_isLayer rfl ⟨by dsimp only [rm]; omega, by show 8 + (1 + 11) + 0 ≤ R.locals; omega⟩ (Nat.le_of_ble_eq_true rfl) (by dsimp only [rm]; omega) (by dsimp only [rm]; omega) ?_
    rintro v S1 ⟨rfl, rfl⟩
    by_cases g1 : 0 ≤ q.toInt ∧ q.toInt ≤ 7
    · rw [decide_eq_true (show 0 ≤ q.toInt ∧ q.toInt ≤ 7 from g1)]
      refine Ex.br rfl (fun c => absurd c (show (1 : Int32) ≠ 0 by decide)) (fun _ => ?_)
      refine Ex.p rfl ?_
      refine Ex.cs0 (Mc := mDa_isLayer) (Rc := rm 0 0 0) (As := [.int m]) (rest := []) (ct_isLayer) rfl lk_0_73 lcDa_isLayer rfl ⟨by dsimp only [rm]; omega, by show 8 + (1 + 11) + 0 ≤ R.locals; omega⟩ (Nat.le_of_ble_eq_true rfl) (by dsimp only [rm]; omega) (by dsimp only [rm]; omega) ?_
      rintro v S1 ⟨rfl, rfl⟩
      by_cases g2 : 0 ≤ m.toInt ∧ m.toInt ≤ 7
      · rw [decide_eq_true (show 0 ≤ m.toInt ∧ m.toInt ≤ 7 from g2)]
        refine Ex.br rfl (fun c => absurd c (show (1 : Int32) ≠ 0 by decide)) (fun _ => ?_)
        refine Ex.p rfl ?_
        refine Ex.p rfl ?_
        refine Ex.br rfl (fun c3 => ?_) (fun c3 => ?_)
        · have c3 : q ≤ m := c3
          rw [if_pos ⟨by omega, g1, g2, c3⟩] at hP
          refine Ex.p rfl ?_
          refine Ex.gf 0 0 rfl rfl rfl ?_
          refine Ex.p rfl ?_
          refine Ex.gf 0 0 rfl rfl rfl ?_
          refine Ex.p rfl ?_
          refine Ex.p rfl ?_
          by_cases hkk : kp = true ∧ kf = q ∧ kt = m
          · obtain ⟨rfl, rfl, rfl⟩ := hkk
            refine Ex.cv (Mc := mTw_textOf) (Rc := rm 0 0 0) (As := [.ref dr, .int kf, .int kt]) (rest := []) (Sr := [sDa a pl w un fe dr f, Cu, Cf, Cs, F]) (ic := 2) (jc := 0) (ci := 8) [2, 3, 1, 6, 7, 8] [0, 4, 5, 9, 10] (ct_Tw_textOf_kept (c := 0) (p := pl) (r := r) (S0 := [Co, Cp, Cd, T, sHs hs])) rfl lk_0_101 lcTw_textOf rfl rfl rfl rfl rfl (by decide) rfl rfl rfl (by decide) ⟨by dsimp only [rm]; omega, by show 8 + (6 + 11) + 0 ≤ R.locals; omega⟩ (Nat.le_of_ble_eq_true rfl) (by dsimp only [rm]; omega) (by dsimp only [rm]; omega) ?_
            rintro v S1 ⟨rfl, rfl⟩
            refine Ex.sub (S' := [sDa a pl w un fe dr f, Cp, sTw w pl r true kf kt, Co, Cu, Cf, Cd, T, sHs hs, Cs, F]) [0, 7, 5, 6, 1, 2, 8, 9, 10, 3, 4] rfl rfl ?_
            refine Ex.p rfl ?_
            refine Ex.cv (Mc := mRo_get) (Rc := rm 0 0 0) (As := [.int i]) (rest := []) (Sr := [sDa a pl w un fe dr f, Cp, sTw w pl r true kf kt, Cu, Cf, Cd, T, sHs hs, Cs, F]) (ic := 3) (jc := 0) (ci := 5) [3] [0, 1, 2, 4, 5, 6, 7, 8, 9, 10] (ct_Ro_get ho) rfl lk_0_105 lcRo_get rfl rfl rfl rfl rfl (by decide) rfl (by rw [eCo]; rfl) rfl (by decide) ⟨by dsimp only [rm]; omega, by show 8 + (2 + 11) + 0 ≤ R.locals; omega⟩ (Nat.le_of_ble_eq_true rfl) (by dsimp only [rm]; omega) (by dsimp only [rm]; omega) ?_
            rintro v S1 ⟨rfl, rfl⟩
            refine Ex.sub (S' := [sDa a pl w un fe dr f, Cp, sTw w pl r true kf kt, Co, Cu, Cf, Cd, T, sHs hs, Cs, F]) [0, 1, 2, 10, 3, 4, 5, 6, 7, 8, 9] rfl rfl ?_
            refine Ex.rt (Ex.iret rfl rfl (by dsimp only [rm]; omega) (by dsimp only [rm]; omega) rfl ?_)
            subst hP
            exact ⟨_, rfl, by rw [hk rfl], hz⟩
          · obtain ⟨tg1, tg2⟩ := text_grow (c0 := c0) g1 g2 hok h3 h4 w4
            have hup := upl_len ts
            have hge := capN_ge (textD q m (ts.map tvo) (hs.map (fun h => h.2))).length c0 0
            refine Ex.cv (Mc := mTw_textOf) (Rc := rm 7 (15 * upl ts + (capN c0 0 (textD q m (ts.map tvo) (hs.map (fun h => h.2))).length - c0) / 8) (240 * upl ts + 2 * (capN c0 0 (textD q m (ts.map tvo) (hs.map (fun h => h.2))).length - c0))) (As := [.ref dr, .int q, .int m]) (rest := []) (Sr := [sDa a pl w un fe dr f, Cu, Cf, Cs, F]) (ic := 2) (jc := 0) (ci := 8) [2, 3, 1, 6, 7, 8] [0, 4, 5, 9, 10] (ct_Tw_textOf ho hpl hd hok g1 g2 hkk (rm_ok _ _ _)) rfl lk_0_101 lcTw_textOf rfl rfl rfl rfl rfl (by decide) rfl rfl rfl (by decide) ⟨by dsimp only [rm]; omega, by show 8 + (6 + 11) + 280 ≤ R.locals; omega⟩ (Nat.le_of_ble_eq_true rfl) (by dsimp only [rm]; omega) (by dsimp only [rm]; omega) ?_
            rintro v S1 ⟨rfl, Co', Cp', T', ts', rfl, ho', hpl', hd', hok', etv, eup⟩
            obtain ⟨ar', fx', eCo', -⟩ := id ho'
            refine Ex.sub (S' := [sDa a pl w un fe dr f, Cp', sTw w pl r true q m, Co', Cu, Cf, Cd, T', sHs hs, Cs, F]) [0, 7, 5, 6, 1, 2, 8, 9, 10, 3, 4] rfl rfl ?_
            refine Ex.p rfl ?_
            refine Ex.cv (Mc := mRo_get) (Rc := rm 0 0 0) (As := [.int i]) (rest := []) (Sr := [sDa a pl w un fe dr f, Cp', sTw w pl r true q m, Cu, Cf, Cd, T', sHs hs, Cs, F]) (ic := 3) (jc := 0) (ci := 5) [3] [0, 1, 2, 4, 5, 6, 7, 8, 9, 10] (ct_Ro_get ho') rfl lk_0_105 lcRo_get rfl rfl rfl rfl rfl (by decide) rfl (by rw [eCo']; rfl) rfl (by decide) ⟨by dsimp only [rm]; omega, by show 8 + (2 + 11) + 0 ≤ R.locals; omega⟩ (Nat.le_of_ble_eq_true rfl) (by dsimp only [rm]; omega) (by dsimp only [rm]; omega) ?_
            rintro v S1 ⟨rfl, rfl⟩
            refine Ex.sub (S' := [sDa a pl w un fe dr f, Cp', sTw w pl r true q m, Co', Cu, Cf, Cd, T', sHs hs, Cs, F]) [0, 1, 2, 10, 3, 4, 5, 6, 7, 8, 9] rfl rfl ?_
            refine Ex.rt (Ex.iret rfl rfl (by dsimp only [rm]; omega) (by dsimp only [rm]; omega) rfl ?_)
            subst hP
            exact ⟨_, rfl, by rw [htv, hhv], pl, w, un, fe, dr, f, r, true, q, m, _, c1, c2, _, ts', hs, fs, Cp', Co', Cu, Cf, Cd, T', Cs, F, rfl, hpl', ho', (fun _ => by rw [htv, hhv]), hu, hfe, hb, hd', hok', (by have := congrArg List.length etv; rw [List.length_map, List.length_map] at this; rw [this]; exact hv), (by rw [etv, htv]), hhv, hfs, hff⟩
        · have c3 : ¬ q ≤ m := c3
          exact s36 (fun g => c3 g.2.2.2) _
      · rw [decide_eq_false (show ¬ (0 ≤ m.toInt ∧ m.toInt ≤ 7) from g2)]
        exact Ex.br rfl (fun _ => s36 (fun g => g2 g.2.2.1) _) (fun c => absurd rfl c)
    · rw [decide_eq_false (show ¬ (0 ≤ q.toInt ∧ q.toInt ≤ 7) from g1)]
      exact Ex.br rfl (fun _ => s36 (fun g => g1 g.2.1) _) (fun c => absurd rfl c)
end DA5

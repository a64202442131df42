/-! DrillArchive: read, open_, clear, its start -/
def rdQ (D : xD) (a : Nat) (z : SD) (v : Option Value) (S : List va_W) : Prop := ∃ r, Rn z.2.2.1 rs0 0 r ∧ match r with
  | .inl p => v = some (.int (-1 - nI p)) ∧ IsDa D a z S
  | .inr q => v = some (.int (nI q.2.length)) ∧ IsDa D a (q.1, q.2, [], z.2.2.2) S
def aOpn (z : SD) : AR := match tkArch z.2.2.2.1 with
  | some fl => (.inr (.int (nI fl.length)), z.1, z.2.1, z.2.2.1, [], fl)
  | none => (.inr (.int (-1)), z.1, z.2.1, z.2.2.1, [], z.2.2.2.2)
section DA6
variable {l : Launch} {D : xD} {R : Room}
theorem ct_Da_read {a : Nat} {z : SD} {S : List va_W} (h : IsDa D a z S) (hr : rmOk R 8 547 8138) : Ct l mDa_read D R [.ref a] S (rdQ D a z) := by
  obtain ⟨r1, r2, r3, r4⟩ := hr
  have hz := id h
  obtain ⟨pl, w, un, fe, dr, f, r, kp, kf, kt, c0, c1, c2, xs, ts, hs, fs, Cp, Co, Cu, Cf, Cd, T, Cs, F, rfl, hpl, ho, hk, hu, hfe, hb, hd, hok, hv, htv, hhv, hfs, hff⟩ := h
  obtain ⟨ar, fx, eCu, w1, w2, w3, w4, w5, w6⟩ := id hu
  refine Ct.of rfl (by decide) tkDa_read (Nat.le_of_ble_eq_true rfl) (fun A => ?_)
  refine Ex.new (ci := 1) (N := 4) rfl rfl (by omega) (by omega) (fun d => ?_)
  refine Ex.p rfl ?_
  refine Ex.ciN (Mc := mDr_init) (Rc := rm 1 2 70) (As := []) (rest := [.ref d]) (Sr := [sDa a pl w un fe dr f, Cp, sTw w pl r kp kf kt, Co, Cu, Cf, Cd, T, sHs hs, Cs, F]) [11] [0, 1, 2, 3, 4, 5, 6, 7, 8, 9, 10] (ct_Dr_init (rm_ok _ _ _)) rfl ln_0_39 lcDr_init rfl rfl rfl rfl rfl (by decide) ⟨by dsimp only [rm]; omega, by show 8 + (1 + 11) + 40 ≤ R.locals; omega⟩ (Nat.le_of_ble_eq_true rfl) (by dsimp only [rm]; omega) (by dsimp only [rm]; omega) ?_
  rintro v S1 ⟨rfl, Cn, rfl, hdn⟩
  refine Ex.p rfl ?_
  refine Ex.new (ci := 7) (N := 9) rfl rfl (by dsimp only [rm]; omega) (by dsimp only [rm]; omega) (fun b => ?_)
  refine Ex.p rfl ?_
  refine Ex.p rfl ?_
  refine Ex.gf 0 0 rfl rfl rfl ?_
  refine Ex.p rfl ?_
  refine Ex.ci (Mc := mTr_init) (Rc := rm 1 0 0) (As := [.ref un, .ref d]) (rest := [.ref b]) (Sr := [sDa a pl w un fe dr f, Cp, sTw w pl r kp kf kt, Co, Cu, Cf, Cd, T, sHs hs, Cs, F, Cn]) [12] [0, 1, 2, 3, 4, 5, 6, 7, 8, 9, 10, 11] (ct_Tr_init (rm_ok _ _ _)) rfl lk_0_114 lcTr_init rfl rfl rfl rfl rfl (by decide) ⟨by dsimp only [rm]; omega, by show 8 + (3 + 11) + 40 ≤ R.locals; omega⟩ (Nat.le_of_ble_eq_true rfl) (by dsimp only [rm]; omega) (by dsimp only [rm]; omega) ?_
  rintro v S1 ⟨rfl, rfl⟩
  refine Ex.seg (S' := [sDa a pl w un fe dr f, Cp, sTw w pl r kp kf kt, Co, Cu, Cf, Cd, T, sHs hs, Cs, F, Cn, sTr b un d 0 0 0 (-1) 0 0 0, [], []]) (by simp) ?_
  refine Ex.cv (Mc := mTr_firstWrong) (Rc := rm 7 543 8055) (As := []) (rest := []) (Sr := [sDa a pl w un fe dr f, Cp, sTw w pl r kp kf kt, Co, Cf, Cd, T, sHs hs, Cs, F]) (ic := 12) (jc := 0) (ci := 7) [12, 4, 11, 13, 14] [0, 1, 2, 3, 5, 6, 7, 8, 9, 10] (ct_Tr_firstWrong hu hdn (rm_ok _ _ _)) rfl lk_0_117 lcTr_firstWrong rfl rfl rfl rfl rfl (by decide) rfl rfl rfl (by decide) ⟨by dsimp only [rm]; omega, by show 8 + (2 + 11) + 280 ≤ R.locals; omega⟩ (Nat.le_of_ble_eq_true rfl) (by dsimp only [rm]; omega) (by dsimp only [rm]; omega) ?_
  rintro v S1 h9
  rcases h9 with ⟨rfl, C9, ts', hs', Cd', T', rfl, hd', hok', hv', hR⟩ | ⟨p, C9, C1, C2, C3, rfl, rfl, hp, hR⟩
  · refine Ex.sub (S' := [sDa a pl w un fe dr f, Cp, sTw w pl r kp kf kt, Co, Cu, Cf, Cd', T', sHs hs', Cs, F]) [0, 1, 2, 3, 11, 4, 12, 13, 14, 8, 9] rfl rfl ?_
    obtain ⟨ta', ha', ft', fh', eCd', -, -, -, -, h3', h4'⟩ := id hd'
    refine Ex.p rfl ?_
    refine Ex.p rfl ?_
    refine Ex.p rfl ?_
    refine Ex.br rfl (fun _ => ?_) (fun c => absurd rfl c)
    refine Ex.p rfl ?_
    refine Ex.p rfl ?_
    refine Ex.pf 0 0 rfl rfl rfl rfl rfl rfl ?_
    refine Ex.p rfl ?_
    refine Ex.gf 0 0 rfl rfl rfl ?_
    refine Ex.cv (Mc := mRo_empty) (Rc := rm 0 0 0) (As := []) (rest := []) (Sr := [sDa a pl w un fe d f, Cp, sTw w pl r kp kf kt, Co, Cf, Cd', T', sHs hs', Cs, F]) (ic := 4) (jc := 0) (ci := 5) [4] [0, 1, 2, 3, 5, 6, 7, 8, 9, 10] (ct_Ro_empty hu) rfl lk_0_121 lcRo_empty rfl rfl rfl rfl rfl (by decide) rfl (by rw [eCu]; rfl) rfl (by decide) ⟨by dsimp only [rm]; omega, by show 8 + (1 + 11) + 0 ≤ R.locals; omega⟩ (Nat.le_of_ble_eq_true rfl) (by dsimp only [rm]; omega) (by dsimp only [rm]; omega) ?_
    rintro v S1 ⟨rfl, Cu', rfl, hu'⟩
    refine Ex.sub (S' := [sDa a pl w un fe d f, Cp, sTw w pl r kp kf kt, Co, Cu', Cf, Cd', T', sHs hs', Cs, F]) [0, 1, 2, 3, 10, 4, 5, 6, 7, 8, 9] rfl rfl ?_
    refine Ex.p rfl ?_
    refine Ex.gf 0 0 rfl rfl rfl ?_
    refine Ex.cv (Mc := mTw_forget) (Rc := rm 0 0 0) (As := []) (rest := []) (Sr := [sDa a pl w un fe d f, Cp, Co, Cu', Cf, Cd', T', sHs hs', Cs, F]) (ic := 2) (jc := 0) (ci := 8) [2] [0, 1, 3, 4, 5, 6, 7, 8, 9, 10] (ct_Tw_forget) rfl lk_0_62 lcTw_forget rfl rfl rfl rfl rfl (by decide) rfl rfl rfl (by decide) ⟨by dsimp only [rm]; omega, by show 8 + (1 + 11) + 0 ≤ R.locals; omega⟩ (Nat.le_of_ble_eq_true rfl) (by dsimp only [rm]; omega) (by dsimp only [rm]; omega) ?_
    rintro v S1 ⟨rfl, rfl⟩
    refine Ex.sub (S' := [sDa a pl w un fe d f, Cp, sTw w pl r false kf kt, Co, Cu', Cf, Cd', T', sHs hs', Cs, F]) [0, 1, 10, 2, 3, 4, 5, 6, 7, 8, 9] rfl rfl ?_
    refine Ex.p rfl ?_
    refine Ex.gf 0 0 rfl rfl rfl ?_
    refine Ex.gf 6 0 rfl (by rw [eCd']; rfl) rfl ?_
    refine Ex.iret rfl rfl (by dsimp only [rm]; omega) (by dsimp only [rm]; omega) rfl ?_
    exact ⟨_, hR, by rw [List.length_map], pl, w, un, fe, d, f, r, false, kf, kt, c0, _, c2, xs, ts', hs', fs, Cp, Co, Cu', Cf, Cd', T', Cs, F, rfl, hpl, ho, (fun c => by cases c), hu', hfe, hb, hd', hok', hv', rfl, rfl, hfs, hff⟩
  · refine Ex.sub (S' := [sDa a pl w un fe dr f, Cp, sTw w pl r kp kf kt, Co, Cu, Cf, Cd, T, sHs hs, Cs, F]) [0, 1, 2, 3, 11, 4, 5, 6, 7, 8, 9] rfl rfl ?_
    refine Ex.p rfl ?_
    refine Ex.p rfl ?_
    refine Ex.p rfl ?_
    refine Ex.br rfl (fun c => ?_) (fun _ => ?_)
    · have c := congrArg Int32.toInt c
      rw [nI_toInt (by omega), show (Int32.ofInt (-1)).toInt = -1 from rfl] at c
      omega
    · refine Ex.p rfl ?_
      refine Ex.p rfl ?_
      refine Ex.p rfl ?_
      refine Ex.iret rfl rfl (by dsimp only [rm]; omega) (by dsimp only [rm]; omega) rfl ?_
      exact ⟨_, hR, rfl, hz⟩
theorem ct_Da_open {a : Nat} {z : SD} {S : List va_W} (h : IsDa D a z S) (hr : rmOk R 6 642 9610) : Ct l mDa_open D R [.ref a] S (QR D a (aOpn z)) := by
  obtain ⟨r1, r2, r3, r4⟩ := hr
  obtain ⟨pl, w, un, fe, dr, f, r, kp, kf, kt, c0, c1, c2, xs, ts, hs, fs, Cp, Co, Cu, Cf, Cd, T, Cs, F, rfl, hpl, ho, hk, hu, hfe, hb, hd, hok, hv, htv, hhv, hfs, hff⟩ := h
  obtain ⟨ar, fx, eCf, w1, w2, w3, w4, w5, w6⟩ := id hfe
  generalize hP : aOpn z = P
  unfold aOpn at hP
  refine Ct.of rfl (by decide) tkDa_open (Nat.le_of_ble_eq_true rfl) (fun A => ?_)
  refine Ex.new (ci := 2) (N := 2) rfl rfl (by omega) (by omega) (fun g => ?_)
  refine Ex.p rfl ?_
  refine Ex.ciN (Mc := mFs_init) (Rc := rm 1 1 8) (As := []) (rest := [.ref g]) (Sr := [sDa a pl w un fe dr f, Cp, sTw w pl r kp kf kt, Co, Cu, Cf, Cd, T, sHs hs, Cs, F]) [11] [0, 1, 2, 3, 4, 5, 6, 7, 8, 9, 10] (ct_Fs_init (rm_ok _ _ _)) rfl ln_0_46 lcFs_init rfl rfl rfl rfl rfl (by decide) ⟨by dsimp only [rm]; omega, by show 8 + (1 + 11) + 40 ≤ R.locals; omega⟩ (Nat.le_of_ble_eq_true rfl) (by dsimp only [rm]; omega) (by dsimp only [rm]; omega) ?_
  rintro v S1 ⟨rfl, Cn, rfl, hfn⟩
  obtain ⟨fa, ffn, eCn, -⟩ := id hfn
  refine Ex.seg (S' := [sDa a pl w un fe dr f, Cp, sTw w pl r kp kf kt, Co, Cu, Cf, Cd, T, sHs hs, Cs, F, Cn, []]) (by simp) ?_
  refine Ex.p rfl ?_
  refine Ex.p rfl ?_
  refine Ex.p rfl ?_
  refine Ex.gf 0 0 rfl rfl rfl ?_
  refine Ex.cv (Mc := mFs_take) (Rc := rm 5 640 9600) (As := [.ref fe]) (rest := []) (Sr := [sDa a pl w un fe dr f, Cp, sTw w pl r kp kf kt, Co, Cu, Cd, T, sHs hs, Cs, F]) (ic := 11) (jc := 0) (ci := 2) [11, 12, 5] [0, 1, 2, 3, 4, 6, 7, 8, 9, 10] (ct_Fs_take hfn hfe hb (rm_ok _ _ _)) rfl lk_0_182 lcFs_take rfl rfl rfl rfl rfl (by decide) rfl (by rw [eCn]; rfl) rfl (by decide) ⟨by dsimp only [rm]; omega, by show 8 + (5 + 11) + 200 ≤ R.locals; omega⟩ (Nat.le_of_ble_eq_true rfl) (by dsimp only [rm]; omega) (by dsimp only [rm]; omega) ?_
  rintro v S1 h9
  cases ho9 : tkArch z.2.2.2.1 with
  | some fl =>
    rw [ho9] at h9 hP
    obtain ⟨rfl, fs', Cs', F', rfl, hfs', hfl'⟩ := h9
    obtain ⟨fa', ffn', eCs', -⟩ := id hfs'
    refine Ex.sub (S' := [sDa a pl w un fe dr f, Cp, sTw w pl r kp kf kt, Co, Cu, Cf, Cd, T, sHs hs, Cs', F']) [0, 1, 2, 3, 4, 12, 5, 6, 7, 10, 11] rfl rfl ?_
    refine Ex.p rfl ?_
    refine Ex.p rfl ?_
    refine Ex.gf 0 0 rfl rfl rfl ?_
    refine Ex.cv (Mc := mRo_empty) (Rc := rm 0 0 0) (As := []) (rest := []) (Sr := [sDa a pl w un fe dr f, Cp, sTw w pl r kp kf kt, Co, Cu, Cd, T, sHs hs, Cs', F']) (ic := 5) (jc := 0) (ci := 5) [5] [0, 1, 2, 3, 4, 6, 7, 8, 9, 10] (ct_Ro_empty hfe) rfl lk_0_121 lcRo_empty rfl rfl rfl rfl rfl (by decide) rfl (by rw [eCf]; rfl) rfl (by decide) ⟨by dsimp only [rm]; omega, by show 8 + (1 + 11) + 0 ≤ R.locals; omega⟩ (Nat.le_of_ble_eq_true rfl) (by dsimp only [rm]; omega) (by dsimp only [rm]; omega) ?_
    rintro v S1 ⟨rfl, Cf', rfl, hfe'⟩
    refine Ex.sub (S' := [sDa a pl w un fe dr f, Cp, sTw w pl r kp kf kt, Co, Cu, Cf', Cd, T, sHs hs, Cs', F']) [0, 1, 2, 3, 4, 10, 5, 6, 7, 8, 9] rfl rfl ?_
    refine Ex.p rfl ?_
    refine Ex.br rfl (fun _ => ?_) (fun c => absurd (show (1 : Int32) ≠ 0 by decide) c)
    refine Ex.p rfl ?_
    refine Ex.p rfl ?_
    refine Ex.pf 0 0 rfl rfl rfl rfl rfl rfl ?_
    refine Ex.p rfl ?_
    refine Ex.gf 0 0 rfl rfl rfl ?_
    refine Ex.gf 9 0 rfl (by rw [eCs']; rfl) rfl ?_
    refine Ex.iret rfl rfl (by dsimp only [rm]; omega) (by dsimp only [rm]; omega) rfl ?_
    subst hP
    exact ⟨_, rfl, by rw [← hfl', List.length_map], pl, w, un, fe, dr, g, r, kp, kf, kt, c0, c1, _, xs, ts, hs, fs', Cp, Co, Cu, Cf', Cd, T, Cs', F', rfl, hpl, ho, hk, hu, hfe', (fun b hb => by cases hb), hd, hok, hv, htv, hhv, hfs', hfl'⟩
  | none =>
    rw [ho9] at h9 hP
    obtain ⟨rfl, C1, C2, rfl⟩ := h9
    refine Ex.sub (S' := [sDa a pl w un fe dr f, Cp, sTw w pl r kp kf kt, Co, Cu, Cf, Cd, T, sHs hs, Cs, F]) [0, 1, 2, 3, 4, 12, 5, 6, 7, 8, 9] rfl rfl ?_
    refine Ex.p rfl ?_
    refine Ex.p rfl ?_
    refine Ex.gf 0 0 rfl rfl rfl ?_
    refine Ex.cv (Mc := mRo_empty) (Rc := rm 0 0 0) (As := []) (rest := []) (Sr := [sDa a pl w un fe dr f, Cp, sTw w pl r kp kf kt, Co, Cu, Cd, T, sHs hs, Cs, F]) (ic := 5) (jc := 0) (ci := 5) [5] [0, 1, 2, 3, 4, 6, 7, 8, 9, 10] (ct_Ro_empty hfe) rfl lk_0_121 lcRo_empty rfl rfl rfl rfl rfl (by decide) rfl (by rw [eCf]; rfl) rfl (by decide) ⟨by dsimp only [rm]; omega, by show 8 + (1 + 11) + 0 ≤ R.locals; omega⟩ (Nat.le_of_ble_eq_true rfl) (by dsimp only [rm]; omega) (by dsimp only [rm]; omega) ?_
    rintro v S1 ⟨rfl, Cf', rfl, hfe'⟩
    refine Ex.sub (S' := [sDa a pl w un fe dr f, Cp, sTw w pl r kp kf kt, Co, Cu, Cf', Cd, T, sHs hs, Cs, F]) [0, 1, 2, 3, 4, 10, 5, 6, 7, 8, 9] rfl rfl ?_
    refine Ex.p rfl ?_
    refine Ex.br rfl (fun c => absurd rfl c) (fun _ => ?_)
    refine Ex.p rfl ?_
    refine Ex.iret rfl rfl (by dsimp only [rm]; omega) (by dsimp only [rm]; omega) rfl ?_
    subst hP
    exact ⟨_, rfl, rfl, pl, w, un, fe, dr, f, r, kp, kf, kt, c0, c1, _, xs, ts, hs, fs, Cp, Co, Cu, Cf', Cd, T, Cs, F, rfl, hpl, ho, hk, hu, hfe', (fun b hb => by cases hb), hd, hok, hv, htv, hhv, hfs, hff⟩
theorem DrOK.nil : DrOK [] [] := ⟨fun i t h => by simp at h, fun h hh => by cases hh⟩
theorem ct_Da_clear {a : Nat} {z : SD} {S : List va_W} (h : IsDa D a z S) (hr : rmOk R 2 5 84) : Ct l mDa_clear D R [.ref a] S (fun v S => v = none ∧ IsDa D a ([], [], [], [], []) S) := by
  obtain ⟨r1, r2, r3, r4⟩ := hr
  obtain ⟨pl, w, un, fe, dr, f, r, kp, kf, kt, c0, c1, c2, xs, ts, hs, fs, Cp, Co, Cu, Cf, Cd, T, Cs, F, rfl, hpl, ho, hk, hu, hfe, hb, hd, hok, hv, htv, hhv, hfs, hff⟩ := h
  obtain ⟨_, _, eCf, -⟩ := id hfe
  obtain ⟨_, _, eCu, -⟩ := id hu
  refine Ct.of rfl (by decide) tkDa_clear (Nat.le_of_ble_eq_true rfl) (fun A => ?_)
  refine Ex.p rfl ?_
  refine Ex.new (ci := 1) (N := 4) rfl rfl (by omega) (by omega) (fun d => ?_)
  refine Ex.p rfl ?_
  refine Ex.ciN (Mc := mDr_init) (Rc := rm 1 2 70) (As := []) (rest := [.ref d, .ref a]) (Sr := [sDa a pl w un fe dr f, Cp, sTw w pl r kp kf kt, Co, Cu, Cf, Cd, T, sHs hs, Cs, F]) [11] [0, 1, 2, 3, 4, 5, 6, 7, 8, 9, 10] (ct_Dr_init (rm_ok _ _ _)) rfl ln_0_39 lcDr_init rfl rfl rfl rfl rfl (by decide) ⟨by dsimp only [rm]; omega, by show 8 + (1 + 11) + 40 ≤ R.locals; omega⟩ (Nat.le_of_ble_eq_true rfl) (by dsimp only [rm]; omega) (by dsimp only [rm]; omega) ?_
  rintro v S1 ⟨rfl, Cn, rfl, hdn⟩
  refine Ex.pf 0 0 rfl rfl rfl rfl rfl rfl ?_
  refine Ex.p rfl ?_
  refine Ex.new (ci := 2) (N := 2) rfl rfl (by dsimp only [rm]; omega) (by dsimp only [rm]; omega) (fun g => ?_)
  refine Ex.p rfl ?_
  refine Ex.ciN (Mc := mFs_init) (Rc := rm 1 1 8) (As := []) (rest := [.ref g, .ref a]) (Sr := [sDa a pl w un fe d f, Cp, sTw w pl r kp kf kt, Co, Cu, Cf, Cd, T, sHs hs, Cs, F, Cn]) [12] [0, 1, 2, 3, 4, 5, 6, 7, 8, 9, 10, 11] (ct_Fs_init (rm_ok _ _ _)) rfl ln_0_46 lcFs_init rfl rfl rfl rfl rfl (by decide) ⟨by dsimp only [rm]; omega, by show 8 + (1 + 11) + 40 ≤ R.locals; omega⟩ (Nat.le_of_ble_eq_true rfl) (by dsimp only [rm]; omega) (by dsimp only [rm]; omega) ?_
  rintro v S1 ⟨rfl, Cm, rfl, hfn⟩
  refine Ex.pf 0 0 rfl rfl rfl rfl rfl rfl ?_
  refine Ex.sub (S' := [sDa a pl w un fe d g, Cp, sTw w pl r kp kf kt, Co, Cu, Cf, Cn, Cm]) [0, 1, 2, 3, 4, 5, 11, 12] rfl rfl ?_
  refine Ex.seg (S' := [sDa a pl w un fe d g, Cp, sTw w pl r kp kf kt, Co, Cu, Cf, Cn, [], sHs [], Cm, []]) (by simp [sHs]) ?_
  refine Ex.p rfl ?_
  refine Ex.gf 0 0 rfl rfl rfl ?_
  refine Ex.cv (Mc := mRo_empty) (Rc := rm 0 0 0) (As := []) (rest := []) (Sr := [sDa a pl w un fe d g, Cp, sTw w pl r kp kf kt, Co, Cf, Cn, [], sHs [], Cm, []]) (ic := 4) (jc := 0) (ci := 5) [4] [0, 1, 2, 3, 5, 6, 7, 8, 9, 10] (ct_Ro_empty hu) rfl lk_0_121 lcRo_empty rfl rfl rfl rfl rfl (by decide) rfl (by rw [eCu]; rfl) rfl (by decide) ⟨by dsimp only [rm]; omega, by show 8 + (1 + 11) + 0 ≤ R.locals; omega⟩ (Nat.le_of_ble_eq_true rfl) (by dsimp only [rm]; omega) (by dsimp only [rm]; omega) ?_
  rintro v S1 ⟨rfl, Cu', rfl, hu'⟩
  refine Ex.sub (S' := [sDa a pl w un fe d g, Cp, sTw w pl r kp kf kt, Co, Cu', Cf, Cn, [], sHs [], Cm, []]) [0, 1, 2, 3, 10, 4, 5, 6, 7, 8, 9] rfl rfl ?_
  refine Ex.p rfl ?_
  refine Ex.gf 0 0 rfl rfl rfl ?_
  refine Ex.cv (Mc := mRo_empty) (Rc := rm 0 0 0) (As := []) (rest := []) (Sr := [sDa a pl w un fe d g, Cp, sTw w pl r kp kf kt, Co, Cu', Cn, [], sHs [], Cm, []]) (ic := 5) (jc := 0) (ci := 5) [5] [0, 1, 2, 3, 4, 6, 7, 8, 9, 10] (ct_Ro_empty hfe) rfl lk_0_121 lcRo_empty rfl rfl rfl rfl rfl (by decide) rfl (by rw [eCf]; rfl) rfl (by decide) ⟨by dsimp only [rm]; omega, by show 8 + (1 + 11) + 0 ≤ R.locals; omega⟩ (Nat.le_of_ble_eq_true rfl) (by dsimp only [rm]; omega) (by dsimp only [rm]; omega) ?_
  rintro v S1 ⟨rfl, Cf', rfl, hfe'⟩
  refine Ex.sub (S' := [sDa a pl w un fe d g, Cp, sTw w pl r kp kf kt, Co, Cu', Cf', Cn, [], sHs [], Cm, []]) [0, 1, 2, 3, 4, 10, 5, 6, 7, 8, 9] rfl rfl ?_
  refine Ex.p rfl ?_
  refine Ex.gf 0 0 rfl rfl rfl ?_
  refine Ex.cv (Mc := mTw_forget) (Rc := rm 0 0 0) (As := []) (rest := []) (Sr := [sDa a pl w un fe d g, Cp, Co, Cu', Cf', Cn, [], sHs [], Cm, []]) (ic := 2) (jc := 0) (ci := 8) [2] [0, 1, 3, 4, 5, 6, 7, 8, 9, 10] (ct_Tw_forget) rfl lk_0_62 lcTw_forget rfl rfl rfl rfl rfl (by decide) rfl rfl rfl (by decide) ⟨by dsimp only [rm]; omega, by show 8 + (1 + 11) + 0 ≤ R.locals; omega⟩ (Nat.le_of_ble_eq_true rfl) (by dsimp only [rm]; omega) (by dsimp only [rm]; omega) ?_
  rintro v S1 ⟨rfl, rfl⟩
  refine Ex.sub (S' := [sDa a pl w un fe d g, Cp, sTw w pl r false kf kt, Co, Cu', Cf', Cn, [], sHs [], Cm, []]) [0, 1, 10, 2, 3, 4, 5, 6, 7, 8, 9] rfl rfl ?_
  refine Ex.vret rfl rfl (by dsimp only [rm]; omega) (by dsimp only [rm]; omega) rfl ?_
  exact ⟨rfl, pl, w, un, fe, d, g, r, false, kf, kt, c0, _, _, xs, [], [], [], Cp, Co, Cu', Cf', Cn, [], Cm, [], rfl, hpl, ho, (fun c => by cases c), hu', hfe', (fun b hb => by cases hb), hdn, DrOK.nil, (fun h hh => by cases hh), rfl, rfl, hfn, rfl⟩
theorem ct_Da_init {a : Nat} (hr : rmOk R 3 18 2376) : Ct l mDa_init D R [.ref a] [[(a, .inr (0, gdf 0))]] (fun v S => v = none ∧ IsDa D a ([], [], [], [], []) S) := by
  obtain ⟨r1, r2, r3, r4⟩ := hr
  refine Ct.of rfl (by decide) tkDa_init (Nat.le_of_ble_eq_true rfl) (fun A => ?_)
  refine Ex.p rfl ?_
  refine Ex.oi rfl lk_0_1 (by omega) (by simp; omega) ?_
  refine Ex.p rfl ?_
  refine Ex.new (ci := 4) (N := 7) rfl rfl (by omega) (by omega) (fun pl => ?_)
  refine Ex.p rfl ?_
  refine Ex.ciN (Mc := mPl_init) (Rc := rm 2 5 2247) (As := []) (rest := [.ref pl, .ref a]) (Sr := [[(a, .inr (0, gdf 0))]]) [1] [0] (ct_Pl_init (rm_ok _ _ _)) rfl ln_0_9 lcPl_init rfl rfl rfl rfl rfl (by decide) ⟨by dsimp only [rm]; omega, by show 8 + (1 + 11) + 80 ≤ R.locals; omega⟩ (Nat.le_of_ble_eq_true rfl) (by dsimp only [rm]; omega) (by dsimp only [rm]; omega) ?_
  rintro v S1 ⟨rfl, Cp, rfl, hpl⟩
  refine Ex.pfF 0 0 rfl rfl rfl rfl rfl rfl rfl rfl ?_
  refine Ex.p rfl ?_
  refine Ex.new (ci := 8) (N := 5) rfl rfl (by dsimp only [rm]; omega) (by dsimp only [rm]; omega) (fun w => ?_)
  refine Ex.p rfl ?_
  refine Ex.p rfl ?_
  refine Ex.gf 0 0 rfl rfl rfl ?_
  refine Ex.ci (Mc := mTw_init) (Rc := rm 2 2 11) (As := [.ref pl]) (rest := [.ref w, .ref a]) (Sr := [[(a, .inr (0, [.ref pl, .null, .null, .null, .null, .null]))], Cp]) [2] [0, 1] (ct_Tw_init (rm_ok _ _ _)) rfl lk_0_18 lcTw_init rfl rfl rfl rfl rfl (by decide) ⟨by dsimp only [rm]; omega, by show 8 + (2 + 11) + 80 ≤ R.locals; omega⟩ (Nat.le_of_ble_eq_true rfl) (by dsimp only [rm]; omega) (by dsimp only [rm]; omega) ?_
  rintro v S1 ⟨rfl, r, Co, rfl, ho⟩
  refine Ex.pfF 0 0 rfl rfl rfl rfl rfl rfl rfl rfl ?_
  refine Ex.p rfl ?_
  refine Ex.new (ci := 5) (N := 3) rfl rfl (by dsimp only [rm]; omega) (by dsimp only [rm]; omega) (fun un => ?_)
  refine Ex.p rfl ?_
  refine Ex.p rfl ?_
  refine Ex.ci (Mc := mRo_init) (Rc := rm 1 1 8) (As := [.int (nI 2000)]) (rest := [.ref un, .ref a]) (Sr := [[(a, .inr (0, [.ref pl, .ref w, .null, .null, .null, .null]))], Cp, sTw w pl r false 0 0, Co]) [4] [0, 1, 2, 3] (ct_Ro_init (by omega) (by dsimp only [rm]; omega) (by dsimp only [rm]; omega) (by dsimp only [rm]; omega) (by dsimp only [rm]; omega)) rfl lk_0_27 lcRo_init rfl rfl rfl rfl rfl (by decide) ⟨by dsimp only [rm]; omega, by show 8 + (2 + 11) + 40 ≤ R.locals; omega⟩ (Nat.le_of_ble_eq_true rfl) (by dsimp only [rm]; omega) (by dsimp only [rm]; omega) ?_
  rintro v S1 ⟨rfl, Cu, rfl, hu⟩
  refine Ex.pfF 0 0 rfl rfl rfl rfl rfl rfl rfl rfl ?_
  refine Ex.p rfl ?_
  refine Ex.new (ci := 5) (N := 3) rfl rfl (by dsimp only [rm]; omega) (by dsimp only [rm]; omega) (fun fe => ?_)
  refine Ex.p rfl ?_
  refine Ex.p rfl ?_
  refine Ex.ci (Mc := mRo_init) (Rc := rm 1 1 8) (As := [.int (nI 2600)]) (rest := [.ref fe, .ref a]) (Sr := [[(a, .inr (0, [.ref pl, .ref w, .ref un, .null, .null, .null]))], Cp, sTw w pl r false 0 0, Co, Cu]) [5] [0, 1, 2, 3, 4] (ct_Ro_init (by omega) (by dsimp only [rm]; omega) (by dsimp only [rm]; omega) (by dsimp only [rm]; omega) (by dsimp only [rm]; omega)) rfl lk_0_27 lcRo_init rfl rfl rfl rfl rfl (by decide) ⟨by dsimp only [rm]; omega, by show 8 + (2 + 11) + 40 ≤ R.locals; omega⟩ (Nat.le_of_ble_eq_true rfl) (by dsimp only [rm]; omega) (by dsimp only [rm]; omega) ?_
  rintro v S1 ⟨rfl, Cf, rfl, hfe⟩
  refine Ex.pfF 0 0 rfl rfl rfl rfl rfl rfl rfl rfl ?_
  refine Ex.p rfl ?_
  refine Ex.new (ci := 1) (N := 4) rfl rfl (by dsimp only [rm]; omega) (by dsimp only [rm]; omega) (fun d => ?_)
  refine Ex.p rfl ?_
  refine Ex.ciN (Mc := mDr_init) (Rc := rm 1 2 70) (As := []) (rest := [.ref d, .ref a]) (Sr := [[(a, .inr (0, [.ref pl, .ref w, .ref un, .ref fe, .null, .null]))], Cp, sTw w pl r false 0 0, Co, Cu, Cf]) [6] [0, 1, 2, 3, 4, 5] (ct_Dr_init (rm_ok _ _ _)) rfl ln_0_39 lcDr_init rfl rfl rfl rfl rfl (by decide) ⟨by dsimp only [rm]; omega, by show 8 + (1 + 11) + 40 ≤ R.locals; omega⟩ (Nat.le_of_ble_eq_true rfl) (by dsimp only [rm]; omega) (by dsimp only [rm]; omega) ?_
  rintro v S1 ⟨rfl, Cn, rfl, hdn⟩
  refine Ex.pf 0 0 rfl rfl rfl rfl rfl rfl ?_
  refine Ex.p rfl ?_
  refine Ex.new (ci := 2) (N := 2) rfl rfl (by dsimp only [rm]; omega) (by dsimp only [rm]; omega) (fun g => ?_)
  refine Ex.p rfl ?_
  refine Ex.ciN (Mc := mFs_init) (Rc := rm 1 1 8) (As := []) (rest := [.ref g, .ref a]) (Sr := [[(a, .inr (0, [.ref pl, .ref w, .ref un, .ref fe, .ref d, .null]))], Cp, sTw w pl r false 0 0, Co, Cu, Cf, Cn]) [7] [0, 1, 2, 3, 4, 5, 6] (ct_Fs_init (rm_ok _ _ _)) rfl ln_0_46 lcFs_init rfl rfl rfl rfl rfl (by decide) ⟨by dsimp only [rm]; omega, by show 8 + (1 + 11) + 40 ≤ R.locals; omega⟩ (Nat.le_of_ble_eq_true rfl) (by dsimp only [rm]; omega) (by dsimp only [rm]; omega) ?_
  rintro v S1 ⟨rfl, Cm, rfl, hfn⟩
  refine Ex.pf 0 0 rfl rfl rfl rfl rfl rfl ?_
  refine Ex.seg (S' := [sDa a pl w un fe d g, Cp, sTw w pl r false 0 0, Co, Cu, Cf, Cn, [], sHs [], Cm, []]) (by simp [sHs]) ?_
  refine Ex.vret rfl rfl (by dsimp only [rm]; omega) (by dsimp only [rm]; omega) rfl ?_
  exact ⟨rfl, pl, w, un, fe, d, g, r, false, 0, 0, 8, 8, 8, [], [], [], [], Cp, Co, Cu, Cf, Cn, [], Cm, [], rfl, ⟨_, _, _, _, _, _, hpl⟩, ho, (fun c => by cases c), hu, hfe, (fun b hb => by cases hb), hdn, DrOK.nil, (fun h hh => by cases hh), rfl, rfl, hfn, rfl⟩
end DA6

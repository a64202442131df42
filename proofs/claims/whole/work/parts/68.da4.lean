/-! DrillArchive: order, travel, byteOf, sum -/
noncomputable def aOrder (z : SD) (i k : Int32) : AR := if isTl z i then (.inr (.int (rget ((tor z.2.1 i.toInt.toNat).map nI) k)), z) else (.inl 1, z)
noncomputable def aTravel (z : SD) (i : Int32) : AR := if isTl z i then (.inr (.long (tln z.2.1 i.toInt.toNat)), z) else (.inl 1, z)
def aByte (z : SD) (i b : Int32) : AR := match ixo z.2.2.2.2 i with
  | none => (.inl 1, z)
  | some x => if 0 ≤ b.toInt ∧ b.toInt < 256 then (if x.2.length < 300 then (.inr (.int 1), z.1, z.2.1, z.2.2.1, z.2.2.2.1, z.2.2.2.2.set i.toInt.toNat (x.1, x.2 ++ [b.toInt.toNat])) else (.inr (.int 0), z)) else (.inl 2, z)
def aSum (z : SD) (i : Int32) : AR := match ixo z.2.2.2.2 i with
  | none => (.inl 1, z)
  | some x => (.inr (.long (nI (fsum x.2)).toInt64), z)
theorem IsFs.at {D : xD} {f : Nat} {fs : List FV} {Cs F : va_W} (h : IsFs D f fs Cs F) {i : Nat} {x : FV} (hi : fs[i]? = some x) : ∃ X C Y, F = X ++ (C ++ Y) ∧ IsF D x C ∧ ∀ x' C', IsF D x' C' → x'.1 = x.1 → IsFs D f (fs.set i x') Cs (X ++ (C' ++ Y)) := by
  obtain ⟨fa, ff, e1, hL, h1, h2⟩ := h
  obtain ⟨X, C, Y, e, hC, hb⟩ := IsL.at hL hi
  refine ⟨X, C, Y, e, hC, fun x' C' hx' e9 => ⟨fa, ff, by rw [e1]; simp, hb _ _ hx', fun j u hj => ?_, by simp; exact h2⟩⟩
  by_cases hij : i = j
  · subst hij
    rw [List.getElem?_set_self (List.getElem?_eq_some_iff.mp hi).1] at hj
    cases hj
    rw [e9]
    exact h1 i x hi
  · rw [List.getElem?_set_ne hij] at hj
    exact h1 j u hj
theorem map_set_frb {fs : List FV} {i : Nat} {u : FV} : (fs.set i u).map frb = (fs.map frb).set i (frb u) := by
  rw [List.map_set]
section DA4
variable {l : Launch} {D : xD} {R : Room}
theorem ct_Da_order {a : Nat} {z : SD} {i k9 : Int32} {S : List va_W} (hfl : l.flags = pinnedFlags ++ [noTraceFlag]) (h : IsDa D a z S) (hr : rmOk R 7 16 246) : CtT l mDa_order none D R [.ref a, .int i, .int k9] S (QR D a (aOrder z i k9)) (ER D a (fun _ => 12) (aOrder z i k9)) := by
  obtain ⟨r1, r2, r3, r4⟩ := hr
  have hz := id h
  obtain ⟨pl, w, un, fe, dr, f, r, kp, kf, kt, c0, c1, c2, xs, ts, hs, fs, Cp, Co, Cu, Cf, Cd, T, Cs, F, rfl, hpl, ho, hk, hu, hfe, hb, hd, hok, hv, htv, hhv, hfs, hff⟩ := h
  obtain ⟨ta, ha, ft, fh, eCd, hTs, -, -, -, h3, h4⟩ := id hd
  obtain ⟨_, _, _, _, _, _, _, _, _, _, _, eCp⟩ := id hpl
  have hlen : z.1.length = ts.length := by rw [← htv, List.length_map]
  generalize hP : aOrder z i k9 = P
  unfold aOrder at hP
  refine CtT.of rfl (by decide) tkDa_order (Nat.le_of_ble_eq_true rfl) (fun A => ?_)
  refine Ex.p rfl ?_
  refine Ex.p rfl ?_
  refine Ex.cvT (Mc := mDa_knownTool) (Rc := rm 6 1 6) (As := [.int i]) (rest := []) (Sr := [Cp, sTw w pl r kp kf kt, Co, Cu, Cf, T, sHs hs, Cs, F]) (ic := 0) (jc := 0) (ci := 0) [0, 6] [1, 2, 3, 4, 5, 7, 8, 9, 10] (ct_Da_knownTool hfl hd (rm_ok _ _ _)) rfl lk_0_69 lcDa_knownTool rfl rfl rfl rfl rfl (by decide) rfl rfl rfl (by decide) ⟨by dsimp only [rm]; omega, by show 8 + (3 + 11) + 240 ≤ R.locals; omega⟩ (Nat.le_of_ble_eq_true rfl) (by dsimp only [rm]; omega) (by dsimp only [rm]; omega) ?_ ?_
  · rintro v S1 ⟨t, hi, rfl, rfl⟩
    obtain ⟨hi1, hi2⟩ := ixo_some hi
    refine Ex.sub (S' := [sDa a pl w un fe dr f, Cp, sTw w pl r kp kf kt, Co, Cu, Cf, Cd, T, sHs hs, Cs, F]) [9, 0, 1, 2, 3, 4, 10, 5, 6, 7, 8] rfl rfl ?_
    have ilt : isTl z i := ⟨hi1.1, by rw [hlen]; exact hi1.2⟩
    rw [if_pos ilt] at hP
    obtain ⟨X, C, Y, eT, hC, hset⟩ := hd.at hi2
    refine Ex.seg (S' := [sDa a pl w un fe dr f, Cp, sTw w pl r kp kf kt, Co, Cu, Cf, Cd, X, C, Y, sHs hs, Cs, F]) (by rw [eT]; simp) ?_
    refine Ex.p rfl ?_
    refine Ex.p rfl ?_
    refine Ex.gf 0 0 rfl rfl rfl ?_
    refine Ex.p rfl ?_
    refine Ex.gf 0 0 rfl rfl rfl ?_
    refine Ex.p rfl ?_
    refine Ex.cv (Mc := mPl_plan) (Rc := rm 5 15 240) (As := [.ref dr, .ref t.1]) (rest := []) (Sr := [sDa a pl w un fe dr f, sTw w pl r kp kf kt, Co, Cu, Cf, X, Y, Cs, F]) (ic := 1) (jc := 0) (ci := 4) [1, 6, 8, 10] [0, 2, 3, 4, 5, 7, 9, 11, 12] (ct_planT hpl hd hC (hok.1 _ _ hi2) ⟨Nat.le_refl _, Nat.le_refl _, by show (if _ then 0 else 15) ≤ 15; split <;> omega, by show (if _ then 0 else 240) ≤ 240; split <;> omega⟩) rfl lk_0_138 lcPl_plan rfl rfl rfl rfl rfl (by decide) rfl (by rw [eCp]; rfl) rfl (by decide) ⟨by dsimp only [rm]; omega, by show 8 + (3 + 11) + 200 ≤ R.locals; omega⟩ (Nat.le_of_ble_eq_true rfl) (by dsimp only [rm]; omega) (by dsimp only [rm]; omega) ?_
    rintro v S1 ⟨rfl, Cp', C', t', rfl, hpl', hC', hok', hpn, e9, e10⟩
    have hdn := hset t' C' hC' e9
    rw [← e9]
    obtain ⟨rh, ro, Ch, Cr, rfl, hrh, hro⟩ := hC'
    obtain ⟨ar, fr, eCr, -⟩ := id hro
    have e11 := (hok'.2.2.2.2 hpn).1
    refine Ex.sub (S' := [sDa a pl w un fe dr f, Cp', sTw w pl r kp kf kt, Co, Cu, Cf, Cd, X, (t'.1, .inr (9, [.int t'.2.1, .int (b32 t'.2.2.1), .ref rh, .ref ro, .long t'.2.2.2.2.2.1, .int (b32 t'.2.2.2.2.2.2.1)])) :: (Ch ++ Cr), Y, sHs hs, Cs, F]) [0, 9, 1, 2, 3, 4, 10, 5, 11, 6, 12, 7, 8] rfl rfl ?_
    refine Ex.seg (S' := [sDa a pl w un fe dr f, Cp', sTw w pl r kp kf kt, Co, Cu, Cf, Cd, X, [(t'.1, .inr (9, [.int t'.2.1, .int (b32 t'.2.2.1), .ref rh, .ref ro, .long t'.2.2.2.2.2.1, .int (b32 t'.2.2.2.2.2.2.1)]))], Ch, Cr, Y, sHs hs, Cs, F]) (by simp) ?_
    refine Ex.p rfl ?_
    refine Ex.gf 8 0 rfl rfl rfl ?_
    refine Ex.p rfl ?_
    refine Ex.cv (Mc := mRo_get) (Rc := rm 0 0 0) (As := [.int k9]) (rest := []) (Sr := [sDa a pl w un fe dr f, Cp', sTw w pl r kp kf kt, Co, Cu, Cf, Cd, X, [(t'.1, .inr (9, [.int t'.2.1, .int (b32 t'.2.2.1), .ref rh, .ref ro, .long t'.2.2.2.2.2.1, .int (b32 t'.2.2.2.2.2.2.1)]))], Ch, Y, sHs hs, Cs, F]) (ic := 10) (jc := 0) (ci := 5) [10] [0, 1, 2, 3, 4, 5, 6, 7, 8, 9, 11, 12, 13, 14] (ct_Ro_get hro) rfl lk_0_105 lcRo_get rfl rfl rfl rfl rfl (by decide) rfl (by rw [eCr]; rfl) rfl (by decide) ⟨by dsimp only [rm]; omega, by show 8 + (2 + 11) + 0 ≤ R.locals; omega⟩ (Nat.le_of_ble_eq_true rfl) (by dsimp only [rm]; omega) (by dsimp only [rm]; omega) ?_
    rintro v S1 ⟨rfl, rfl⟩
    refine Ex.sub (S' := [sDa a pl w un fe dr f, Cp', sTw w pl r kp kf kt, Co, Cu, Cf, Cd, X, [(t'.1, .inr (9, [.int t'.2.1, .int (b32 t'.2.2.1), .ref rh, .ref ro, .long t'.2.2.2.2.2.1, .int (b32 t'.2.2.2.2.2.2.1)]))], Ch, Cr, Y, sHs hs, Cs, F]) [0, 1, 2, 3, 4, 5, 6, 7, 8, 9, 14, 10, 11, 12, 13] rfl rfl ?_
    refine Ex.rt (Ex.iret (S' := [sDa a pl w un fe dr f, Cp', sTw w pl r kp kf kt, Co, Cu, Cf, Cd, X ++ (((t'.1, .inr (9, [.int t'.2.1, .int (b32 t'.2.2.1), .ref rh, .ref ro, .long t'.2.2.2.2.2.1, .int (b32 t'.2.2.2.2.2.2.1)])) :: (Ch ++ Cr)) ++ Y), sHs hs, Cs, F]) rfl rfl (by dsimp only [rm]; omega) (by dsimp only [rm]; omega) (by simp) ?_)
    subst hP
    exact ⟨_, rfl, by rw [e11, hhv], pl, w, un, fe, dr, f, r, kp, kf, kt, c0, c1, c2, xs, _, hs, fs, Cp', Co, Cu, Cf, Cd, _, Cs, F, rfl, hpl', ho, hk, hu, hfe, hb, hdn, hok.set hok', (by rw [List.length_set]; exact hv), (by rw [map_set_tvo hi2 e10, htv]), hhv, hfs, hff⟩
  · rintro x9 cc S1 ⟨rfl, hno, rfl⟩
    refine Et.sub (S' := [sDa a pl w un fe dr f, Cp, sTw w pl r kp kf kt, Co, Cu, Cf, Cd, T, sHs hs, Cs, F]) [9, 0, 1, 2, 3, 4, 10, 5, 6, 7, 8] rfl rfl ?_
    refine Et.leave lcDa_order.1.2.1 (by dsimp only [rm]; omega) (by dsimp only [rm]; omega) ?_
    rw [if_neg (fun q => ixo_no hno ⟨q.1, by rw [← hlen]; exact q.2⟩)] at hP
    subst hP
    exact ⟨1, rfl, rfl, hz⟩
theorem ct_Da_travel {a : Nat} {z : SD} {i : Int32} {S : List va_W} (hfl : l.flags = pinnedFlags ++ [noTraceFlag]) (h : IsDa D a z S) (hr : rmOk R 7 16 246) : CtT l mDa_travel none D R [.ref a, .int i] S (QR D a (aTravel z i)) (ER D a (fun _ => 12) (aTravel z i)) := by
  obtain ⟨r1, r2, r3, r4⟩ := hr
  have hz := id h
  obtain ⟨pl, w, un, fe, dr, f, r, kp, kf, kt, c0, c1, c2, xs, ts, hs, fs, Cp, Co, Cu, Cf, Cd, T, Cs, F, rfl, hpl, ho, hk, hu, hfe, hb, hd, hok, hv, htv, hhv, hfs, hff⟩ := h
  obtain ⟨ta, ha, ft, fh, eCd, hTs, -, -, -, h3, h4⟩ := id hd
  obtain ⟨_, _, _, _, _, _, _, _, _, _, _, eCp⟩ := id hpl
  have hlen : z.1.length = ts.length := by rw [← htv, List.length_map]
  generalize hP : aTravel z i = P
  unfold aTravel at hP
  refine CtT.of rfl (by decide) tkDa_travel (Nat.le_of_ble_eq_true rfl) (fun A => ?_)
  refine Ex.p rfl ?_
  refine Ex.p rfl ?_
  refine Ex.cvT (Mc := mDa_knownTool) (Rc := rm 6 1 6) (As := [.int i]) (rest := []) (Sr := [Cp, sTw w pl r kp kf kt, Co, Cu, Cf, T, sHs hs, Cs, F]) (ic := 0) (jc := 0) (ci := 0) [0, 6] [1, 2, 3, 4, 5, 7, 8, 9, 10] (ct_Da_knownTool hfl hd (rm_ok _ _ _)) rfl lk_0_69 lcDa_knownTool rfl rfl rfl rfl rfl (by decide) rfl rfl rfl (by decide) ⟨by dsimp only [rm]; omega, by show 8 + (3 + 11) + 240 ≤ R.locals; omega⟩ (Nat.le_of_ble_eq_true rfl) (by dsimp only [rm]; omega) (by dsimp only [rm]; omega) ?_ ?_
  · rintro v S1 ⟨t, hi, rfl, rfl⟩
    obtain ⟨hi1, hi2⟩ := ixo_some hi
    refine Ex.sub (S' := [sDa a pl w un fe dr f, Cp, sTw w pl r kp kf kt, Co, Cu, Cf, Cd, T, sHs hs, Cs, F]) [9, 0, 1, 2, 3, 4, 10, 5, 6, 7, 8] rfl rfl ?_
    have ilt : isTl z i := ⟨hi1.1, by rw [hlen]; exact hi1.2⟩
    rw [if_pos ilt] at hP
    obtain ⟨X, C, Y, eT, hC, hset⟩ := hd.at hi2
    refine Ex.seg (S' := [sDa a pl w un fe dr f, Cp, sTw w pl r kp kf kt, Co, Cu, Cf, Cd, X, C, Y, sHs hs, Cs, F]) (by rw [eT]; simp) ?_
    refine Ex.p rfl ?_
    refine Ex.p rfl ?_
    refine Ex.gf 0 0 rfl rfl rfl ?_
    refine Ex.p rfl ?_
    refine Ex.gf 0 0 rfl rfl rfl ?_
    refine Ex.p rfl ?_
    refine Ex.cv (Mc := mPl_plan) (Rc := rm 5 15 240) (As := [.ref dr, .ref t.1]) (rest := []) (Sr := [sDa a pl w un fe dr f, sTw w pl r kp kf kt, Co, Cu, Cf, X, Y, Cs, F]) (ic := 1) (jc := 0) (ci := 4) [1, 6, 8, 10] [0, 2, 3, 4, 5, 7, 9, 11, 12] (ct_planT hpl hd hC (hok.1 _ _ hi2) ⟨Nat.le_refl _, Nat.le_refl _, by show (if _ then 0 else 15) ≤ 15; split <;> omega, by show (if _ then 0 else 240) ≤ 240; split <;> omega⟩) rfl lk_0_138 lcPl_plan rfl rfl rfl rfl rfl (by decide) rfl (by rw [eCp]; rfl) rfl (by decide) ⟨by dsimp only [rm]; omega, by show 8 + (3 + 11) + 200 ≤ R.locals; omega⟩ (Nat.le_of_ble_eq_true rfl) (by dsimp only [rm]; omega) (by dsimp only [rm]; omega) ?_
    rintro v S1 ⟨rfl, Cp', C', t', rfl, hpl', hC', hok', hpn, e9, e10⟩
    have hdn := hset t' C' hC' e9
    rw [← e9]
    obtain ⟨rh, ro, Ch, Cr, rfl, hrh, hro⟩ := hC'
    have e11 := (hok'.2.2.2.2 hpn).2
    refine Ex.sub (S' := [sDa a pl w un fe dr f, Cp', sTw w pl r kp kf kt, Co, Cu, Cf, Cd, X, (t'.1, .inr (9, [.int t'.2.1, .int (b32 t'.2.2.1), .ref rh, .ref ro, .long t'.2.2.2.2.2.1, .int (b32 t'.2.2.2.2.2.2.1)])) :: (Ch ++ Cr), Y, sHs hs, Cs, F]) [0, 9, 1, 2, 3, 4, 10, 5, 11, 6, 12, 7, 8] rfl rfl ?_
    refine Ex.p rfl ?_
    refine Ex.gf 8 0 rfl rfl rfl ?_
    refine Ex.rt (Ex.lret (S' := [sDa a pl w un fe dr f, Cp', sTw w pl r kp kf kt, Co, Cu, Cf, Cd, X ++ (((t'.1, .inr (9, [.int t'.2.1, .int (b32 t'.2.2.1), .ref rh, .ref ro, .long t'.2.2.2.2.2.1, .int (b32 t'.2.2.2.2.2.2.1)])) :: (Ch ++ Cr)) ++ Y), sHs hs, Cs, F]) rfl rfl (by dsimp only [rm]; omega) (by dsimp only [rm]; omega) (by simp) ?_)
    subst hP
    exact ⟨_, rfl, by rw [e11, hhv], pl, w, un, fe, dr, f, r, kp, kf, kt, c0, c1, c2, xs, _, hs, fs, Cp', Co, Cu, Cf, Cd, _, Cs, F, rfl, hpl', ho, hk, hu, hfe, hb, hdn, hok.set hok', (by rw [List.length_set]; exact hv), (by rw [map_set_tvo hi2 e10, htv]), hhv, hfs, hff⟩
  · rintro x9 cc S1 ⟨rfl, hno, rfl⟩
    refine Et.sub (S' := [sDa a pl w un fe dr f, Cp, sTw w pl r kp kf kt, Co, Cu, Cf, Cd, T, sHs hs, Cs, F]) [9, 0, 1, 2, 3, 4, 10, 5, 6, 7, 8] rfl rfl ?_
    refine Et.leave lcDa_travel.1.2.1 (by dsimp only [rm]; omega) (by dsimp only [rm]; omega) ?_
    rw [if_neg (fun q => ixo_no hno ⟨q.1, by rw [← hlen]; exact q.2⟩)] at hP
    subst hP
    exact ⟨1, rfl, rfl, hz⟩
theorem ct_Da_byteOf {a : Nat} {z : SD} {i b9 : Int32} {S : List va_W} (hfl : l.flags = pinnedFlags ++ [noTraceFlag]) (h : IsDa D a z S) (hr : rmOk R 7 76 1206) : CtT l mDa_byteOf none D R [.ref a, .int i, .int b9] S (QR D a (aByte z i b9)) (ER D a f12 (aByte z i b9)) := by
  obtain ⟨r1, r2, r3, r4⟩ := hr
  have hz := id h
  obtain ⟨pl, w, un, fe, dr, f, r, kp, kf, kt, c0, c1, c2, xs, ts, hs, fs, Cp, Co, Cu, Cf, Cd, T, Cs, F, rfl, hpl, ho, hk, hu, hfe, hb, hd, hok, hv, htv, hhv, hfs, hff⟩ := h
  generalize hP : aByte z i b9 = P
  unfold aByte at hP
  rw [← hff, ixo_map] at hP
  refine CtT.of rfl (by decide) tkDa_byteOf (Nat.le_of_ble_eq_true rfl) (fun A => ?_)
  refine Ex.p rfl ?_
  refine Ex.p rfl ?_
  refine Ex.cvT (Mc := mDa_knownFile) (Rc := rm 6 1 6) (As := [.int i]) (rest := []) (Sr := [Cp, sTw w pl r kp kf kt, Co, Cu, Cf, Cd, T, sHs hs, F]) (ic := 0) (jc := 0) (ci := 0) [0, 9] [1, 2, 3, 4, 5, 6, 7, 8, 10] (ct_Da_knownFile hfl hfs (rm_ok _ _ _)) rfl lk_0_165 lcDa_knownFile rfl rfl rfl rfl rfl (by decide) rfl rfl rfl (by decide) ⟨by dsimp only [rm]; omega, by show 8 + (3 + 11) + 240 ≤ R.locals; omega⟩ (Nat.le_of_ble_eq_true rfl) (by dsimp only [rm]; omega) (by dsimp only [rm]; omega) ?_ ?_
  · rintro v S1 ⟨x, hi, rfl, rfl⟩
    obtain ⟨hi1, hi2⟩ := ixo_some hi
    rw [hi] at hP
    dsimp only [Option.map_some] at hP
    refine Ex.sub (S' := [sDa a pl w un fe dr f, Cp, sTw w pl r kp kf kt, Co, Cu, Cf, Cd, T, sHs hs, Cs, F]) [9, 0, 1, 2, 3, 4, 5, 6, 7, 10, 8] rfl rfl ?_
    refine Ex.p rfl ?_
    refine Ex.p rfl ?_
    refine Ex.cs0 (Mc := mDa_isByte) (Rc := rm 0 0 0) (As := [.int b9]) (rest := []) (ct_isByte) rfl lk_0_169 lcDa_isByte rfl ⟨by dsimp only [rm]; omega, by show 8 + (1 + 11) + 0 ≤ R.locals; omega⟩ (Nat.le_of_ble_eq_true rfl) (by dsimp only [rm]; omega) (by dsimp only [rm]; omega) ?_
    rintro v S1 ⟨rfl, rfl⟩
    by_cases g1 : 0 ≤ b9.toInt ∧ b9.toInt < 256
    · rw [decide_eq_true g1]
      rw [if_pos g1] at hP
      refine Ex.br rfl (fun _ => ?_) (fun c => absurd (show (1 : Int32) ≠ 0 by decide) c)
      have eb := nI_nat g1.1
      generalize hbn : b9.toInt.toNat = bn at hP eb
      subst eb
      obtain ⟨X, C, Y, eF, hC, hset⟩ := hfs.at hi2
      obtain ⟨rb, Cb, eC, ⟨_, _, _, w1, w2, w3, w4, w5, w6⟩, hro, -⟩ := id hC
      rw [List.length_map] at w1 w2
      have hgrow : rcap x.2.2.2 x.2.2.1.length - x.2.2.2 ≤ 600 := by
        unfold rcap
        split <;> omega
      refine Ex.seg (S' := [sDa a pl w un fe dr f, Cp, sTw w pl r kp kf kt, Co, Cu, Cf, Cd, T, sHs hs, Cs, X, C, Y]) (by rw [eF]; simp) ?_
      refine Ex.p rfl ?_
      refine Ex.p rfl ?_
      refine Ex.cv (Mc := mSf_push) (Rc := rm 3 ((rcap x.2.2.2 x.2.2.1.length - x.2.2.2) / 8) (2 * (rcap x.2.2.2 x.2.2.1.length - x.2.2.2))) (As := [.int (nI bn)]) (rest := []) (Sr := [sDa a pl w un fe dr f, Cp, sTw w pl r kp kf kt, Co, Cu, Cf, Cd, T, sHs hs, Cs, X, Y]) (ic := 11) (jc := 0) (ci := 6) [11] [0, 1, 2, 3, 4, 5, 6, 7, 8, 9, 10, 12] (ct_Sf_push hC (by omega) (rm_ok _ _ _)) rfl lk_0_174 lcSf_push rfl rfl rfl rfl rfl (by decide) rfl (by rw [eC]; rfl) rfl (by decide) ⟨by dsimp only [rm]; omega, by show 8 + (2 + 11) + 120 ≤ R.locals; omega⟩ (Nat.le_of_ble_eq_true rfl) (by dsimp only [rm]; omega) (by dsimp only [rm]; omega) ?_
      rintro v S1 h9
      rcases h9 with ⟨h10, rfl, rfl⟩ | ⟨h10, rfl, C', rfl, hC'⟩
      · rw [if_neg (by show ¬ x.2.2.1.length < 300; omega)] at hP
        refine Ex.sub (S' := [sDa a pl w un fe dr f, Cp, sTw w pl r kp kf kt, Co, Cu, Cf, Cd, T, sHs hs, Cs, X, C, Y]) [0, 1, 2, 3, 4, 5, 6, 7, 8, 9, 10, 12, 11] rfl rfl ?_
        refine Ex.rt (Ex.zret (S' := [sDa a pl w un fe dr f, Cp, sTw w pl r kp kf kt, Co, Cu, Cf, Cd, T, sHs hs, Cs, F]) rfl rfl (Or.inl rfl) (by dsimp only [rm]; omega) (by dsimp only [rm]; omega) (by rw [eF]; simp) ?_)
        subst hP
        exact ⟨_, rfl, rfl, hz⟩
      · rw [if_pos (by show x.2.2.1.length < 300; omega)] at hP
        refine Ex.sub (S' := [sDa a pl w un fe dr f, Cp, sTw w pl r kp kf kt, Co, Cu, Cf, Cd, T, sHs hs, Cs, X, C', Y]) [0, 1, 2, 3, 4, 5, 6, 7, 8, 9, 10, 12, 11] rfl rfl ?_
        refine Ex.rt (Ex.zret (S' := [sDa a pl w un fe dr f, Cp, sTw w pl r kp kf kt, Co, Cu, Cf, Cd, T, sHs hs, Cs, X ++ (C' ++ Y)]) rfl rfl (Or.inr rfl) (by dsimp only [rm]; omega) (by dsimp only [rm]; omega) (by simp) ?_)
        subst hP
        exact ⟨_, rfl, rfl, pl, w, un, fe, dr, f, r, kp, kf, kt, c0, c1, c2, xs, ts, hs, _, Cp, Co, Cu, Cf, Cd, T, Cs, _, rfl, hpl, ho, hk, hu, hfe, hb, hd, hok, hv, htv, hhv, hset (x.1, x.2.1, x.2.2.1 ++ [bn], rcap x.2.2.2 x.2.2.1.length) C' hC' rfl, (by rw [map_set_frb, hff])⟩
    · rw [decide_eq_false g1]
      rw [if_neg g1] at hP
      refine Ex.br rfl (fun c => absurd rfl c) (fun _ => ?_)
      refine Ex.thr hfl rfl rfl rfl rfl rfl rfl rfl thrIA (by decide +kernel) lcDa_byteOf.1.2.1 (by first | omega | (dsimp only [rm]; omega)) (by first | omega | (dsimp only [rm]; omega)) (by first | omega | (dsimp only [rm]; omega)) (by first | omega | (dsimp only [rm]; omega)) (by omega) (by simp [Value.category]; omega) ?_
      subst hP
      exact ⟨2, rfl, rfl, hz⟩
  · rintro x9 cc S1 ⟨rfl, hno, rfl⟩
    refine Et.sub (S' := [sDa a pl w un fe dr f, Cp, sTw w pl r kp kf kt, Co, Cu, Cf, Cd, T, sHs hs, Cs, F]) [9, 0, 1, 2, 3, 4, 5, 6, 7, 10, 8] rfl rfl ?_
    refine Et.leave lcDa_byteOf.1.2.1 (by dsimp only [rm]; omega) (by dsimp only [rm]; omega) ?_
    rw [hno] at hP
    subst hP
    exact ⟨1, rfl, rfl, hz⟩
theorem ct_Da_sum {a : Nat} {z : SD} {i : Int32} {S : List va_W} (hfl : l.flags = pinnedFlags ++ [noTraceFlag]) (h : IsDa D a z S) (hr : rmOk R 7 1 6) : CtT l mDa_sum none D R [.ref a, .int i] S (QR D a (aSum z i)) (ER D a (fun _ => 12) (aSum z i)) := by
  obtain ⟨r1, r2, r3, r4⟩ := hr
  have hz := id h
  obtain ⟨pl, w, un, fe, dr, f, r, kp, kf, kt, c0, c1, c2, xs, ts, hs, fs, Cp, Co, Cu, Cf, Cd, T, Cs, F, rfl, hpl, ho, hk, hu, hfe, hb, hd, hok, hv, htv, hhv, hfs, hff⟩ := h
  generalize hP : aSum z i = P
  unfold aSum at hP
  rw [← hff, ixo_map] at hP
  refine CtT.of rfl (by decide) tkDa_sum (Nat.le_of_ble_eq_true rfl) (fun A => ?_)
  refine Ex.p rfl ?_
  refine Ex.p rfl ?_
  refine Ex.cvT (Mc := mDa_knownFile) (Rc := rm 6 1 6) (As := [.int i]) (rest := []) (Sr := [Cp, sTw w pl r kp kf kt, Co, Cu, Cf, Cd, T, sHs hs, F]) (ic := 0) (jc := 0) (ci := 0) [0, 9] [1, 2, 3, 4, 5, 6, 7, 8, 10] (ct_Da_knownFile hfl hfs (rm_ok _ _ _)) rfl lk_0_165 lcDa_knownFile rfl rfl rfl rfl rfl (by decide) rfl rfl rfl (by decide) ⟨by dsimp only [rm]; omega, by show 8 + (3 + 11) + 240 ≤ R.locals; omega⟩ (Nat.le_of_ble_eq_true rfl) (by dsimp only [rm]; omega) (by dsimp only [rm]; omega) ?_ ?_
  · rintro v S1 ⟨x, hi, rfl, rfl⟩
    obtain ⟨hi1, hi2⟩ := ixo_some hi
    rw [hi] at hP
    dsimp only [Option.map_some] at hP
    refine Ex.sub (S' := [sDa a pl w un fe dr f, Cp, sTw w pl r kp kf kt, Co, Cu, Cf, Cd, T, sHs hs, Cs, F]) [9, 0, 1, 2, 3, 4, 5, 6, 7, 10, 8] rfl rfl ?_
    obtain ⟨X, C, Y, eF, hC, -⟩ := hfs.at hi2
    obtain ⟨rb, Cb, rfl, -⟩ := id hC
    refine Ex.seg (S' := [sDa a pl w un fe dr f, Cp, sTw w pl r kp kf kt, Co, Cu, Cf, Cd, T, sHs hs, Cs, X, (x.1, .inr (6, [.int (nI x.2.1), .ref rb, .int (nI (fsum x.2.2.1))])) :: Cb, Y]) (by rw [eF]; simp) ?_
    refine Ex.gf 11 0 rfl rfl rfl ?_
    refine Ex.p rfl ?_
    refine Ex.rt (Ex.lret (S' := [sDa a pl w un fe dr f, Cp, sTw w pl r kp kf kt, Co, Cu, Cf, Cd, T, sHs hs, Cs, F]) rfl rfl (by dsimp only [rm]; omega) (by dsimp only [rm]; omega) (by rw [eF]; simp) ?_)
    subst hP
    exact ⟨_, rfl, rfl, hz⟩
  · rintro x9 cc S1 ⟨rfl, hno, rfl⟩
    refine Et.sub (S' := [sDa a pl w un fe dr f, Cp, sTw w pl r kp kf kt, Co, Cu, Cf, Cd, T, sHs hs, Cs, F]) [9, 0, 1, 2, 3, 4, 5, 6, 7, 10, 8] rfl rfl ?_
    refine Et.leave lcDa_sum.1.2.1 (by dsimp only [rm]; omega) (by dsimp only [rm]; omega) ?_
    rw [hno] at hP
    subst hP
    exact ⟨1, rfl, rfl, hz⟩
end DA4

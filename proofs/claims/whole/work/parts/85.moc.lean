/-! the reference: findOrder, order, travel, proved -/
def wacc (mv : Nat → HV) : Int64 → HV → List Nat → Int64
  | v, _, [] => v
  | v, g, b :: bs => wacc mv (v + (hway g (mv b)).toInt64) (mv b) bs
theorem pacc_w {n : Nat} {mv : Nat → HV} {fw : Nat → Int32} (hW : WaysOK n mv fw) : ∀ (ps : List Nat) (v : Int64) (la : Nat) (g : HV), (∀ b ∈ ps, b < n) → ((la = 8 ∧ g = ogv) ∨ (la < n ∧ g = mv la)) → pacc fw v la ps = wacc mv v g ps
  | [], _, _, _, _, _ => rfl
  | b :: bs, v, la, g, hb, hg => by
    unfold pacc wacc
    have hbn := hb b (by simp)
    have e : fw (la * 8 + b) = hway g (mv b) := by
      rcases hg with ⟨rfl, rfl⟩ | ⟨h1, rfl⟩
      · rw [show 8 * 8 + b = 64 + b by omega]
        exact hW.2 b hbn
      · exact hW.1 la b h1 hbn
    rw [e]
    exact pacc_w hW bs _ b (mv b) (fun c hc => hb c (by simp [hc])) (Or.inr ⟨hbn, rfl⟩)
theorem nacc_w {n : Nat} {mv : Nat → HV} : ∀ (k : Nat) (fd : Nat → Int32) (g : HV) (v : Int64), nacc v (npk n mv k fd g) = wacc mv v g ((npk n mv k fd g).map (fun b => b.1))
  | 0, _, _, _ => rfl
  | k + 1, fd, g, v => by
    unfold npk
    cases hb : (nfold (fun j => decide (fd j = 0)) (fun j => hway g (mv j)) n).1 with
    | none => rfl
    | some b =>
      dsimp only
      rw [(nfold_w hb).1]
      unfold nacc
      rw [List.map_cons]
      unfold wacc
      exact nacc_w k _ _ _
theorem TOrd.len {n : Nat} {mv : Nat → HV} {ps : List Nat} {len : Int64} (h : TOrd n mv ps len) : len = wacc mv 0 ogv ps := by
  rcases Nat.lt_or_ge 8 n with q | q
  · obtain ⟨rfl, rfl⟩ := h.2 q
    exact nacc_w n _ _ _
  · have hm := h.mem.1
    obtain ⟨fw, fr, hW, -, -, rfl⟩ := h.1 q
    exact pacc_w hW ps 0 8 ogv hm (Or.inl ⟨rfl, rfl⟩)
theorem OrdIs.is {hv : List HV} {t : Nat} {g : Nat → Int32} (h : OrdIs hv (tns hv t) g) : (tor hv t).length = (tns hv t).length ∧ (∀ i, i < (tns hv t).length → g i = nI ((tor hv t).getD i 0)) ∧ ∃ ps : List Nat, ps.length = (tns hv t).length ∧ (∀ b ∈ ps, b < (tns hv t).length) ∧ tor hv t = ps.map (fun b => (tns hv t).getD b 0) ∧ tln hv t = wacc (mvH hv (tns hv t)) 0 ogv ps := by
  obtain ⟨ps, len, ho, hl, hg⟩ := h
  have e := ho.of
  have e1 : tor hv t = ps.map (fun b => (tns hv t).getD b 0) := by
    unfold tor
    rw [e]
  have e2 : tln hv t = len := by
    unfold tln
    rw [e]
  refine ⟨by rw [e1, List.length_map, hl], fun i hi => ?_, ps, hl, ho.mem.1, e1, by rw [e2]; exact ho.len⟩
  rw [hg i hi, e1, List.getD_eq_getElem?_getD (l := List.map _ _), List.getElem?_map, List.getD_eq_getElem?_getD (l := ps), List.getElem?_eq_getElem (by omega)]
  rfl
section MOC
variable {l : Launch} {D : xD} {R : Room}
theorem ct_Mo_findOrder {m t : Nat} {B : Nat → Nat} {th mn la ln ap bg wr fi fe wa wn fo st rf rt cu : Int32} {me hl : Bool} {L : Nat → List HV} {C : va_W} {gR gQ : Nat → Int32} {gL : Nat → Int64} (iH : IsMH D B L C) (hok : ∀ h ∈ L 0, hOK h) (hr : rmOk R 4 0 0) : Ct l mMo_findOrder D R [.ref m, .int (nI t)] [sMo m B th mn la ln ap bg wr me fi fe wa wn fo st hl rf rt cu, C, cMO D B gR gQ gL] (fun v S => v = none ∧ ∃ gR' gQ' gL', S = [sMo m B th (nI (tns (L 0) t).length) la ln ap bg wr me fi fe wa wn fo st hl rf rt cu, C, cMO D B gR' gQ' gL'] ∧ OrdIs (L 0) (tns (L 0) t) gQ') := by
  obtain ⟨r1, r2, r3, r4⟩ := hr
  have h60 : (L 0).length ≤ 60 := by
    obtain ⟨_, _, _, _, _, _, _, _, _, -, hs⟩ := id iH
    exact (hs 0 (by omega)).2.1
  have hlen : (tns (L 0) t).length ≤ (L 0).length := tnsA_len (nI t) (L 0) 0
  have hns : ∀ x ∈ tns (L 0) t, x < (L 0).length := fun x hx => tns_lt hx
  refine Ct.of rfl (by decide) tkMo_findOrder (Nat.le_of_ble_eq_true rfl) (fun A => ?_)
  refine Ex.p rfl ?_
  refine Ex.p rfl ?_
  refine Ex.cv (Mc := mMo_collect) (Rc := rm 0 0 0) (As := [.int (nI t)]) (rest := []) (Sr := []) (ic := 0) (jc := 0) (ci := 10) [0, 1, 2] [] (ct_Mo_collect iH) rfl lk_10_136 lcMo_collect rfl rfl rfl rfl rfl (by decide) rfl rfl rfl (by decide) ⟨by dsimp only [rm]; omega, by show 8 + (3 + 11) + 0 ≤ R.locals; omega⟩ (Nat.le_of_ble_eq_true rfl) (by first | (dsimp only [rm]; omega) | omega) (by first | (dsimp only [rm]; omega) | omega) ?_
  rintro v S1 ⟨rfl, gR1, rfl, hR⟩
  generalize tns (L 0) t = ns at hlen hns hR
  refine Ex.p rfl ?_
  refine Ex.gf 0 0 rfl rfl rfl ?_
  refine Ex.p rfl ?_
  refine Ex.br rfl (fun c => ?_) (fun c => ?_)
  · have c : nI ns.length ≤ nI 8 := c
    rw [nI_leI (by omega) (by omega)] at c
    refine Ex.p rfl ?_
    refine Ex.cv (Mc := mMo_orderExactly) (Rc := rm 3 0 0) (As := []) (rest := []) (Sr := []) (ic := 0) (jc := 0) (ci := 10) [0, 1, 2] [] (ct_Mo_orderExactly iH hok hR hns c (rm_ok _ _ _)) rfl lk_10_143 lcMo_orderExactly rfl rfl rfl rfl rfl (by decide) rfl rfl rfl (by decide) ⟨by dsimp only [rm]; omega, by show 8 + (11 + 11) + 120 ≤ R.locals; omega⟩ (Nat.le_of_ble_eq_true rfl) (by first | (dsimp only [rm]; omega) | omega) (by first | (dsimp only [rm]; omega) | omega) ?_
    rintro v S1 ⟨rfl, gR2, gQ2, gL2, rfl, hO⟩
    exact Ex.vret rfl rfl (by first | (dsimp only [rm]; omega) | omega) (by first | (dsimp only [rm]; omega) | omega) rfl ⟨rfl, _, _, _, rfl, hO⟩
  · have c : ¬ nI ns.length ≤ nI 8 := c
    rw [nI_leI (by omega) (by omega)] at c
    refine Ex.p rfl ?_
    refine Ex.cv (Mc := mMo_orderNearest) (Rc := rm 3 0 0) (As := []) (rest := []) (Sr := []) (ic := 0) (jc := 0) (ci := 10) [0, 1, 2] [] (ct_Mo_orderNearest iH hok hR hns (by omega) (by omega) (rm_ok _ _ _)) rfl lk_10_140 lcMo_orderNearest rfl rfl rfl rfl rfl (by decide) rfl rfl rfl (by decide) ⟨by dsimp only [rm]; omega, by show 8 + (5 + 11) + 120 ≤ R.locals; omega⟩ (Nat.le_of_ble_eq_true rfl) (by first | (dsimp only [rm]; omega) | omega) (by first | (dsimp only [rm]; omega) | omega) ?_
    rintro v S1 ⟨rfl, gR2, gQ2, rfl, hO⟩
    refine Ex.p rfl ?_
    exact Ex.vret rfl rfl (by first | (dsimp only [rm]; omega) | omega) (by first | (dsimp only [rm]; omega) | omega) rfl ⟨rfl, _, _, _, rfl, hO⟩
theorem ct_Mo_proved {m : Nat} {z : SD} {i th : Int32} {S : List va_W} (h : IsMo D m z th S) (hr : rmOk R 1 0 0) : Ct l mMo_proved D R [.ref m, .int i] S (QM D m (.int 0) (aProved z i)) := by
  obtain ⟨r1, r2, r3, r4⟩ := hr
  obtain ⟨B, mn, la, ap, bg, wr, wa, wn, fo, st, rf, rt, cu, me, hl, LT, LH, CT, CH, CX, CF, CE, gR, gQ, gL, gW, rfl, hT, hH, iT, iH, iX, iF, iE⟩ := h
  have h60 : z.2.1.length ≤ 60 := by
    obtain ⟨_, _, _, _, _, _, _, _, _, -, hs⟩ := id iH
    have := (hs 0 (by omega)).2.1
    rw [hH] at this
    exact this
  generalize hP : aProved z i = P
  unfold aProved at hP
  refine Ct.of rfl (by decide) tkMo_proved (Nat.le_of_ble_eq_true rfl) (fun A => ?_)
  refine Ex.p rfl ?_
  refine Ex.p rfl ?_
  refine Ex.p rfl ?_
  refine Ex.cv (Mc := mMo_isTool) (Rc := rm 0 0 0) (As := [.int i]) (rest := [.ref m]) (Sr := [CH, cMO D B gR gQ gL, cMW D B gW, CX, CF, CE]) (ic := 0) (jc := 0) (ci := 10) [0, 1] [2, 3, 4, 5, 6, 7] (ct_Mo_isTool iT) rfl lk_10_104 lcMo_isTool rfl rfl rfl rfl rfl (by decide) rfl rfl rfl (by decide) ⟨by dsimp only [rm]; omega, by show 8 + (2 + 11) + 0 ≤ R.locals; omega⟩ (Nat.le_of_ble_eq_true rfl) (by first | (dsimp only [rm]; omega) | omega) (by first | (dsimp only [rm]; omega) | omega) ?_
  rintro v S1 ⟨rfl, rfl⟩
  rw [hT]
  refine Ex.sub (S' := [sMo m B th mn la (nI z.2.2.1.length) ap bg wr me (nI z.2.2.2.2.length) (nI z.2.2.2.1.length) wa wn fo st hl rf rt cu, CT, CH, cMO D B gR gQ gL, cMW D B gW, CX, CF, CE]) [6, 7, 0, 1, 2, 3, 4, 5] rfl rfl ?_
  by_cases g0 : 0 ≤ i.toInt ∧ i.toInt < z.1.length
  · rw [decide_eq_true g0]
    rw [if_pos g0] at hP
    have ei := nI_nat g0.1
    generalize hin : i.toInt.toNat = t at hP ei
    subst ei
    have hlen : (tns z.2.1 t).length ≤ z.2.1.length := tnsA_len (nI t) z.2.1 0
    refine Ex.br rfl (fun c => absurd c (show (1 : Int32) ≠ 0 by decide)) (fun _ => ?_)
    refine Ex.p rfl ?_
    refine Ex.p rfl ?_
    refine Ex.pf 0 0 rfl rfl rfl rfl rfl rfl ?_
    refine Ex.p rfl ?_
    refine Ex.gf 0 0 rfl rfl rfl ?_
    refine Ex.br rfl (fun _ => ?_) (fun c => absurd rfl c)
    refine Ex.p rfl ?_
    refine Ex.p rfl ?_
    refine Ex.cv (Mc := mMo_collect) (Rc := rm 0 0 0) (As := [.int (nI t)]) (rest := []) (Sr := [CT, cMW D B gW, CX, CF, CE]) (ic := 0) (jc := 0) (ci := 10) [0, 2, 3] [1, 4, 5, 6, 7] (ct_Mo_collect iH) rfl lk_10_136 lcMo_collect rfl rfl rfl rfl rfl (by decide) rfl rfl rfl (by decide) ⟨by dsimp only [rm]; omega, by show 8 + (3 + 11) + 0 ≤ R.locals; omega⟩ (Nat.le_of_ble_eq_true rfl) (by first | (dsimp only [rm]; omega) | omega) (by first | (dsimp only [rm]; omega) | omega) ?_
    rintro v S1 ⟨rfl, gR', rfl, -⟩
    rw [hH]
    refine Ex.sub (S' := [sMo m B 0 (nI (tns z.2.1 t).length) la (nI z.2.2.1.length) ap bg wr me (nI z.2.2.2.2.length) (nI z.2.2.2.1.length) wa wn fo st hl rf rt cu, CT, CH, cMO D B gR' gQ gL, cMW D B gW, CX, CF, CE]) [5, 0, 6, 7, 1, 2, 3, 4] rfl rfl ?_
    refine Ex.p rfl ?_
    refine Ex.gf 0 0 rfl rfl rfl ?_
    refine Ex.p rfl ?_
    refine Ex.br rfl (fun c => ?_) (fun c => ?_)
    · have c : nI 8 < nI (tns z.2.1 t).length := c
      rw [nI_ltI (by omega) (by omega)] at c
      refine Ex.p rfl ?_
      rw [decide_eq_false (by omega)] at hP
      refine Ex.zret rfl rfl (Or.inl rfl) (by first | (dsimp only [rm]; omega) | omega) (by first | (dsimp only [rm]; omega) | omega) rfl ?_
      exact QM.ret hP.symm ⟨B, _, la, ap, bg, wr, wa, wn, fo, st, rf, rt, cu, me, hl, LT, LH, CT, CH, CX, CF, CE, gR', gQ, gL, gW, rfl, hT, hH, iT, iH, iX, iF, iE⟩
    · have c : ¬ nI 8 < nI (tns z.2.1 t).length := c
      rw [nI_ltI (by omega) (by omega)] at c
      refine Ex.p rfl ?_
      refine Ex.p rfl ?_
      rw [decide_eq_true (by omega)] at hP
      refine Ex.zret rfl rfl (Or.inr rfl) (by first | (dsimp only [rm]; omega) | omega) (by first | (dsimp only [rm]; omega) | omega) rfl ?_
      exact QM.ret hP.symm ⟨B, _, la, ap, bg, wr, wa, wn, fo, st, rf, rt, cu, me, hl, LT, LH, CT, CH, CX, CF, CE, gR', gQ, gL, gW, rfl, hT, hH, iT, iH, iX, iF, iE⟩
  · rw [decide_eq_false g0]
    rw [if_neg g0] at hP
    refine Ex.br rfl (fun _ => ?_) (fun c => absurd rfl c)
    refine Ex.p rfl ?_
    refine Ex.pf 0 0 rfl rfl rfl rfl rfl rfl ?_
    refine Ex.p rfl ?_
    refine Ex.gf 0 0 rfl rfl rfl ?_
    refine Ex.br rfl (fun c => absurd c (show (1 : Int32) ≠ 0 by decide)) (fun _ => ?_)
    refine Ex.p rfl ?_
    refine Ex.zret rfl rfl (Or.inl rfl) (by first | (dsimp only [rm]; omega) | omega) (by first | (dsimp only [rm]; omega) | omega) rfl ?_
    exact QM.thr hP.symm ⟨B, mn, la, ap, bg, wr, wa, wn, fo, st, rf, rt, cu, me, hl, LT, LH, CT, CH, CX, CF, CE, gR, gQ, gL, gW, rfl, hT, hH, iT, iH, iX, iF, iE⟩
theorem ct_Mo_order {m : Nat} {z : SD} {i k9 th : Int32} {S : List va_W} (h : IsMo D m z th S) (hok : ∀ h ∈ z.2.1, hOK h) (hr : rmOk R 5 0 0) : Ct l mMo_order D R [.ref m, .int i, .int k9] S (QM D m (.int 0) (aOrder z i k9)) := by
  obtain ⟨r1, r2, r3, r4⟩ := hr
  obtain ⟨B, mn, la, ap, bg, wr, wa, wn, fo, st, rf, rt, cu, me, hl, LT, LH, CT, CH, CX, CF, CE, gR, gQ, gL, gW, rfl, hT, hH, iT, iH, iX, iF, iE⟩ := h
  have h60 : z.2.1.length ≤ 60 := by
    obtain ⟨_, _, _, _, _, _, _, _, _, -, hs⟩ := id iH
    have := (hs 0 (by omega)).2.1
    rw [hH] at this
    exact this
  generalize hP : aOrder z i k9 = P
  unfold aOrder at hP
  refine Ct.of rfl (by decide) tkMo_order (Nat.le_of_ble_eq_true rfl) (fun A => ?_)
  refine Ex.p rfl ?_
  refine Ex.p rfl ?_
  refine Ex.p rfl ?_
  refine Ex.cv (Mc := mMo_isTool) (Rc := rm 0 0 0) (As := [.int i]) (rest := [.ref m]) (Sr := [CH, cMO D B gR gQ gL, cMW D B gW, CX, CF, CE]) (ic := 0) (jc := 0) (ci := 10) [0, 1] [2, 3, 4, 5, 6, 7] (ct_Mo_isTool iT) rfl lk_10_104 lcMo_isTool rfl rfl rfl rfl rfl (by decide) rfl rfl rfl (by decide) ⟨by dsimp only [rm]; omega, by show 8 + (2 + 11) + 0 ≤ R.locals; omega⟩ (Nat.le_of_ble_eq_true rfl) (by first | (dsimp only [rm]; omega) | omega) (by first | (dsimp only [rm]; omega) | omega) ?_
  rintro v S1 ⟨rfl, rfl⟩
  rw [hT]
  refine Ex.sub (S' := [sMo m B th mn la (nI z.2.2.1.length) ap bg wr me (nI z.2.2.2.2.length) (nI z.2.2.2.1.length) wa wn fo st hl rf rt cu, CT, CH, cMO D B gR gQ gL, cMW D B gW, CX, CF, CE]) [6, 7, 0, 1, 2, 3, 4, 5] rfl rfl ?_
  by_cases g0 : 0 ≤ i.toInt ∧ i.toInt < z.1.length
  · rw [decide_eq_true g0]
    rw [if_pos g0] at hP
    have ei := nI_nat g0.1
    generalize hin : i.toInt.toNat = t at hP ei
    subst ei
    have hlen : (tns z.2.1 t).length ≤ z.2.1.length := tnsA_len (nI t) z.2.1 0
    refine Ex.br rfl (fun c => absurd c (show (1 : Int32) ≠ 0 by decide)) (fun _ => ?_)
    refine Ex.p rfl ?_
    refine Ex.p rfl ?_
    refine Ex.pf 0 0 rfl rfl rfl rfl rfl rfl ?_
    refine Ex.p rfl ?_
    refine Ex.gf 0 0 rfl rfl rfl ?_
    refine Ex.br rfl (fun _ => ?_) (fun c => absurd rfl c)
    refine Ex.p rfl ?_
    refine Ex.p rfl ?_
    refine Ex.cv (Mc := mMo_findOrder) (Rc := rm 4 0 0) (As := [.int (nI t)]) (rest := []) (Sr := [CT, cMW D B gW, CX, CF, CE]) (ic := 0) (jc := 0) (ci := 10) [0, 2, 3] [1, 4, 5, 6, 7] (ct_Mo_findOrder iH (by rw [hH]; exact hok) (rm_ok _ _ _)) rfl lk_10_146 lcMo_findOrder rfl rfl rfl rfl rfl (by decide) rfl rfl rfl (by decide) ⟨by dsimp only [rm]; omega, by show 8 + (2 + 11) + 160 ≤ R.locals; omega⟩ (Nat.le_of_ble_eq_true rfl) (by first | (dsimp only [rm]; omega) | omega) (by first | (dsimp only [rm]; omega) | omega) ?_
    rintro v S1 ⟨rfl, gR', gQ', gL', rfl, hO⟩
    rw [hH] at hO ⊢
    obtain ⟨o1, o2, -⟩ := hO.is
    have fin : ∀ v : Int32, v = rget ((tor z.2.1 t).map nI) k9 → QM D m (.int 0) P (some (.int v)) [sMo m B 0 (nI (tns z.2.1 t).length) la (nI z.2.2.1.length) ap bg wr me (nI z.2.2.2.2.length) (nI z.2.2.2.1.length) wa wn fo st hl rf rt cu, CT, CH, cMO D B gR' gQ' gL', cMW D B gW, CX, CF, CE] := by
      intro v ev
      rw [ev]
      exact QM.ret hP.symm ⟨B, _, la, ap, bg, wr, wa, wn, fo, st, rf, rt, cu, me, hl, LT, LH, CT, CH, CX, CF, CE, gR', gQ', gL', gW, rfl, hT, hH, iT, iH, iX, iF, iE⟩
    refine Ex.sub (S' := [sMo m B 0 (nI (tns z.2.1 t).length) la (nI z.2.2.1.length) ap bg wr me (nI z.2.2.2.2.length) (nI z.2.2.2.1.length) wa wn fo st hl rf rt cu, CT, CH, cMO D B gR' gQ' gL', cMW D B gW, CX, CF, CE]) [5, 0, 6, 7, 1, 2, 3, 4] rfl rfl ?_
    refine Ex.p rfl ?_
    refine Ex.br rfl (fun c => ?_) (fun c => ?_)
    · have c : k9 < 0 := c
      rw [Int32.lt_iff_toInt_lt] at c
      have c : k9.toInt < 0 := c
      refine Ex.p rfl ?_
      refine Ex.iret rfl rfl (by first | (dsimp only [rm]; omega) | omega) (by first | (dsimp only [rm]; omega) | omega) rfl (fin _ ?_)
      unfold rget
      rw [if_neg (by omega)]
      rfl
    · have c : ¬ k9 < 0 := c
      rw [Int32.lt_iff_toInt_lt] at c
      have c : ¬ k9.toInt < 0 := c
      refine Ex.p rfl ?_
      refine Ex.p rfl ?_
      refine Ex.gf 0 0 rfl rfl rfl ?_
      refine Ex.br rfl (fun c1 => ?_) (fun c1 => ?_)
      · have c1 : nI (tns z.2.1 t).length ≤ k9 := c1
        rw [Int32.le_iff_toInt_le, nI_toInt (by omega)] at c1
        refine Ex.p rfl ?_
        refine Ex.iret rfl rfl (by first | (dsimp only [rm]; omega) | omega) (by first | (dsimp only [rm]; omega) | omega) rfl (fin _ ?_)
        unfold rget
        rw [List.length_map, if_neg (by omega)]
        rfl
      · have c1 : ¬ nI (tns z.2.1 t).length ≤ k9 := c1
        rw [Int32.le_iff_toInt_le, nI_toInt (by omega)] at c1
        refine Ex.p rfl ?_
        refine Ex.gf 0 0 rfl rfl rfl ?_
        refine Ex.p rfl ?_
        refine Ex.ial 3 1 k9.toInt.toNat rfl rfl rfl (by omega) (by omega) ?_
        rw [o2 _ (by omega)]
        refine Ex.p rfl ?_
        refine Ex.iret rfl rfl (by first | (dsimp only [rm]; omega) | omega) (by first | (dsimp only [rm]; omega) | omega) rfl (fin _ ?_)
        unfold rget
        rw [List.length_map, if_pos (by omega), List.getD_eq_getElem?_getD (l := List.map _ _), List.getElem?_map, List.getD_eq_getElem?_getD, List.getElem?_eq_getElem (by omega)]
        rfl
  · rw [decide_eq_false g0]
    rw [if_neg g0] at hP
    refine Ex.br rfl (fun _ => ?_) (fun c => absurd rfl c)
    refine Ex.p rfl ?_
    refine Ex.pf 0 0 rfl rfl rfl rfl rfl rfl ?_
    refine Ex.p rfl ?_
    refine Ex.gf 0 0 rfl rfl rfl ?_
    refine Ex.br rfl (fun c => absurd c (show (1 : Int32) ≠ 0 by decide)) (fun _ => ?_)
    refine Ex.p rfl ?_
    refine Ex.iret rfl rfl (by first | (dsimp only [rm]; omega) | omega) (by first | (dsimp only [rm]; omega) | omega) rfl ?_
    exact QM.thr hP.symm ⟨B, mn, la, ap, bg, wr, wa, wn, fo, st, rf, rt, cu, me, hl, LT, LH, CT, CH, CX, CF, CE, gR, gQ, gL, gW, rfl, hT, hH, iT, iH, iX, iF, iE⟩
theorem ct_Mo_travel {m : Nat} {z : SD} {i th : Int32} {S : List va_W} (h : IsMo D m z th S) (hok : ∀ h ∈ z.2.1, hOK h) (hr : rmOk R 5 0 0) : Ct l mMo_travel D R [.ref m, .int i] S (QM D m (.long 0) (aTravel z i)) := by
  obtain ⟨r1, r2, r3, r4⟩ := hr
  obtain ⟨B, mn, la, ap, bg, wr, wa, wn, fo, st, rf, rt, cu, me, hl, LT, LH, CT, CH, CX, CF, CE, gR, gQ, gL, gW, rfl, hT, hH, iT, iH, iX, iF, iE⟩ := h
  have h60 : z.2.1.length ≤ 60 := by
    obtain ⟨_, _, _, _, _, _, _, _, _, -, hs⟩ := id iH
    have := (hs 0 (by omega)).2.1
    rw [hH] at this
    exact this
  generalize hP : aTravel z i = P
  unfold aTravel at hP
  refine Ct.of rfl (by decide) tkMo_travel (Nat.le_of_ble_eq_true rfl) (fun A => ?_)
  refine Ex.p rfl ?_
  refine Ex.p rfl ?_
  refine Ex.p rfl ?_
  refine Ex.cv (Mc := mMo_isTool) (Rc := rm 0 0 0) (As := [.int i]) (rest := [.ref m]) (Sr := [CH, cMO D B gR gQ gL, cMW D B gW, CX, CF, CE]) (ic := 0) (jc := 0) (ci := 10) [0, 1] [2, 3, 4, 5, 6, 7] (ct_Mo_isTool iT) rfl lk_10_104 lcMo_isTool rfl rfl rfl rfl rfl (by decide) rfl rfl rfl (by decide) ⟨by dsimp only [rm]; omega, by show 8 + (2 + 11) + 0 ≤ R.locals; omega⟩ (Nat.le_of_ble_eq_true rfl) (by first | (dsimp only [rm]; omega) | omega) (by first | (dsimp only [rm]; omega) | omega) ?_
  rintro v S1 ⟨rfl, rfl⟩
  rw [hT]
  refine Ex.sub (S' := [sMo m B th mn la (nI z.2.2.1.length) ap bg wr me (nI z.2.2.2.2.length) (nI z.2.2.2.1.length) wa wn fo st hl rf rt cu, CT, CH, cMO D B gR gQ gL, cMW D B gW, CX, CF, CE]) [6, 7, 0, 1, 2, 3, 4, 5] rfl rfl ?_
  by_cases g0 : 0 ≤ i.toInt ∧ i.toInt < z.1.length
  · rw [decide_eq_true g0]
    rw [if_pos g0] at hP
    have ei := nI_nat g0.1
    generalize hin : i.toInt.toNat = t at hP ei
    subst ei
    have hlen : (tns z.2.1 t).length ≤ z.2.1.length := tnsA_len (nI t) z.2.1 0
    refine Ex.br rfl (fun c => absurd c (show (1 : Int32) ≠ 0 by decide)) (fun _ => ?_)
    refine Ex.p rfl ?_
    refine Ex.p rfl ?_
    refine Ex.pf 0 0 rfl rfl rfl rfl rfl rfl ?_
    refine Ex.p rfl ?_
    refine Ex.gf 0 0 rfl rfl rfl ?_
    refine Ex.br rfl (fun _ => ?_) (fun c => absurd rfl c)
    refine Ex.p rfl ?_
    refine Ex.p rfl ?_
    refine Ex.cv (Mc := mMo_findOrder) (Rc := rm 4 0 0) (As := [.int (nI t)]) (rest := []) (Sr := [CT, cMW D B gW, CX, CF, CE]) (ic := 0) (jc := 0) (ci := 10) [0, 2, 3] [1, 4, 5, 6, 7] (ct_Mo_findOrder iH (by rw [hH]; exact hok) (rm_ok _ _ _)) rfl lk_10_146 lcMo_findOrder rfl rfl rfl rfl rfl (by decide) rfl rfl rfl (by decide) ⟨by dsimp only [rm]; omega, by show 8 + (2 + 11) + 160 ≤ R.locals; omega⟩ (Nat.le_of_ble_eq_true rfl) (by first | (dsimp only [rm]; omega) | omega) (by first | (dsimp only [rm]; omega) | omega) ?_
    rintro v S1 ⟨rfl, gR', gQ', gL', rfl, hO⟩
    rw [hH] at hO ⊢
    obtain ⟨o1, o2, ps, o3, o4, o5, o6⟩ := hO.is
    rw [o6] at hP
    have hns : ∀ x ∈ tns z.2.1 t, x < z.2.1.length := fun x hx => tns_lt hx
    have hps : ∀ q (hq : q < ps.length), gQ' q = nI ((tns z.2.1 t)[ps[q]]'(o4 _ (List.getElem_mem hq))) ∧ (LH 0)[(tns z.2.1 t)[ps[q]]'(o4 _ (List.getElem_mem hq))]? = some (mvH z.2.1 (tns z.2.1 t) ps[q]) ∧ (tns z.2.1 t)[ps[q]]'(o4 _ (List.getElem_mem hq)) < 60 := by
      intro q hq
      have h9 := o4 _ (List.getElem_mem hq)
      refine ⟨?_, by rw [hH]; exact mvH_at h9 hns, by have := hns _ (List.getElem_mem h9); omega⟩
      rw [o2 q (by omega), o5, List.getD_eq_getElem?_getD (l := List.map _ _), List.getElem?_map, List.getElem?_eq_getElem hq]
      show nI ((tns z.2.1 t).getD ps[q] 0) = _
      rw [List.getD_eq_getElem?_getD, List.getElem?_eq_getElem h9]
      rfl
    generalize hmv : mvH z.2.1 (tns z.2.1 t) = mv at hP hps
    generalize tns z.2.1 t = ns at hlen o3 o4 hps hP
    have loop : ∀ (k j : Nat) (s64 : Int64) (g : HV), ps.length - j < k → j ≤ ps.length → (j = 0 → g = ogv) → (∀ (h : 0 < j) (h2 : j - 1 < ps.length), g = mv ps[j - 1]) → wacc mv s64 g (ps.drop j) = wacc mv 0 ogv ps → ∀ lv9 : List (Nat × Value), (∀ q ∈ [(4, Value.int (nI j)), (2, .long s64), (0, .ref m)], q ∈ lv9) → ∀ k8 n8 : Nat, k8 ≤ 0 → n8 ≤ 0 → Ex l mMo_travel D R A (xQ D A (QM D m (.long 0) P)) R.cells R.slots 36 lv9 [] [sMo m B 0 (nI ns.length) la (nI z.2.2.1.length) ap bg wr me (nI z.2.2.2.2.length) (nI z.2.2.2.1.length) wa wn fo st hl rf rt cu, CT, CH, cMO D B gR' gQ' gL', cMW D B gW, CX, CF, CE] k8 n8 := by
      intro k
      induction k with
      | zero => intro j s64 g h; omega
      | succ k ih =>
        intro j s64 g hk hj hg0 hg1 hw lv9 hlv k8 n8 hk8 hn8
        refine Ex.more (k' := 0) (n' := 0) hk8 hn8 ?_
        refine Ex.lv hlv ?_
        refine Ex.p rfl ?_
        refine Ex.p rfl ?_
        refine Ex.gf 0 0 rfl rfl rfl ?_
        refine Ex.br rfl (fun c => ?_) (fun c => ?_)
        · have c : nI ns.length ≤ nI j := c
          rw [nI_leI (by omega) (by omega)] at c
          have ej : j = ps.length := by omega
          subst ej
          rw [List.drop_length] at hw
          have hw : s64 = wacc mv 0 ogv ps := hw
          rw [← hw] at hP
          refine Ex.p rfl ?_
          refine Ex.lret rfl rfl (Nat.zero_le _) (Nat.zero_le _) rfl ?_
          exact QM.ret hP.symm ⟨B, _, la, ap, bg, wr, wa, wn, fo, st, rf, rt, cu, me, hl, LT, LH, CT, CH, CX, CF, CE, gR', gQ', gL', gW, rfl, hT, hH, iT, iH, iX, iF, iE⟩
        · have c : ¬ nI ns.length ≤ nI j := c
          rw [nI_leI (by omega) (by omega)] at c
          have hjp : j < ps.length := by omega
          obtain ⟨p1, p2, p3⟩ := hps j hjp
          rw [List.drop_eq_getElem_cons hjp] at hw
          have hw : wacc mv (s64 + (hway g (mv ps[j])).toInt64) (mv ps[j]) (ps.drop (j + 1)) = wacc mv 0 ogv ps := hw
          have s65 : ∀ kk : Int32, ((kk = -1 ∧ g = ogv) ∨ ∃ b, kk = nI b ∧ (LH 0)[b]? = some g) → Ex l mMo_travel D R A (xQ D A (QM D m (.long 0) P)) R.cells R.slots 65 [(4, Value.int (nI j)), (2, .long s64), (0, .ref m)] [.int kk, .ref m, .long s64] [sMo m B 0 (nI ns.length) la (nI z.2.2.1.length) ap bg wr me (nI z.2.2.2.2.length) (nI z.2.2.2.1.length) wa wn fo st hl rf rt cu, CT, CH, cMO D B gR' gQ' gL', cMW D B gW, CX, CF, CE] 0 0 := by
            intro kk hkk
            refine Ex.p rfl ?_
            refine Ex.gf 0 0 rfl rfl rfl ?_
            refine Ex.p rfl ?_
            refine Ex.ial 3 1 j rfl rfl rfl (nI_toInt (by omega)) (by omega) ?_
            rw [p1]
            refine Ex.cv (Mc := mMo_way) (Rc := rm 2 0 0) (As := [.int kk, .int (nI (ns[ps[j]]'(o4 _ (List.getElem_mem hjp))))]) (rest := [.long s64]) (Sr := [CT, cMO D B gR' gQ' gL', cMW D B gW, CX, CF, CE]) (ic := 0) (jc := 0) (ci := 10) [0, 2] [1, 3, 4, 5, 6, 7] (ct_Mo_way iH p2 hkk (by rw [hH]; exact hok) (rm_ok _ _ _)) rfl lk_10_132 lcMo_way rfl rfl rfl rfl rfl (by decide) rfl rfl rfl (by decide) ⟨by dsimp only [rm]; omega, by show 8 + (3 + 11) + 80 ≤ R.locals; omega⟩ (Nat.le_of_ble_eq_true rfl) (by first | (dsimp only [rm]; omega) | omega) (by first | (dsimp only [rm]; omega) | omega) ?_
            rintro v S1 ⟨rfl, rfl⟩
            refine Ex.sub (S' := [sMo m B 0 (nI ns.length) la (nI z.2.2.1.length) ap bg wr me (nI z.2.2.2.2.length) (nI z.2.2.2.1.length) wa wn fo st hl rf rt cu, CT, CH, cMO D B gR' gQ' gL', cMW D B gW, CX, CF, CE]) [6, 0, 7, 1, 2, 3, 4, 5] rfl rfl ?_
            refine Ex.p rfl ?_
            refine Ex.p rfl ?_
            refine Ex.p rfl ?_
            refine Ex.p rfl ?_
            rw [i_add1]
            refine ih (j + 1) _ (mv ps[j]) (by omega) (by omega) (fun q => by omega) (fun h h2 => by simp) hw _ (fun q h => ?_) _ _ (by first | (dsimp only [rm]; omega) | omega) (by first | (dsimp only [rm]; omega) | omega)
            simp only [List.mem_cons, List.not_mem_nil, or_false] at h
            rcases h with rfl | rfl | rfl <;> first | (simp [xs1, xs2, lv_args, Value.category, b32, nI]; done) | (simp [xs1, xs2, lv_args, Value.category, b32, nI]; decide) | (simp [xs1, xs2, lv_args, Value.category, b32, nI]; exact Or.inr (by decide)) | (simp [xs1, xs2, lv_args, Value.category, b32, nI]; exact Or.inl (by decide))
          refine Ex.p rfl ?_
          refine Ex.p rfl ?_
          refine Ex.p rfl ?_
          by_cases hj0 : j = 0
          · subst hj0
            refine Ex.br rfl (fun c1 => absurd rfl c1) (fun _ => ?_)
            refine Ex.p rfl ?_
            refine Ex.p rfl ?_
            exact s65 (-1) (Or.inl ⟨rfl, hg0 rfl⟩)
          · obtain ⟨j1, rfl⟩ : ∃ q, j = q + 1 := ⟨j - 1, by omega⟩
            obtain ⟨q1, q2, q3⟩ := hps j1 (by omega)
            have hg := hg1 (by omega) (by omega)
            simp only [Nat.add_sub_cancel] at hg
            rw [← hg] at q2
            refine Ex.br rfl (fun _ => ?_) (fun c1 => ?_)
            · refine Ex.p rfl ?_
              refine Ex.gf 0 0 rfl rfl rfl ?_
              refine Ex.p rfl ?_
              refine Ex.p rfl ?_
              refine Ex.p rfl ?_
              rw [i_sub1]
              refine Ex.ial 3 1 j1 rfl rfl rfl (nI_toInt (by omega)) (by omega) ?_
              rw [q1]
              exact s65 _ (Or.inr ⟨_, rfl, q2⟩)
            · have c1 : ¬ ¬ nI (j1 + 1) = nI 0 := c1
              have c1 := Decidable.not_not.mp c1
              rw [nI_eq (by omega) (by omega)] at c1
              omega
    refine Ex.sub (S' := [sMo m B 0 (nI ns.length) la (nI z.2.2.1.length) ap bg wr me (nI z.2.2.2.2.length) (nI z.2.2.2.1.length) wa wn fo st hl rf rt cu, CT, CH, cMO D B gR' gQ' gL', cMW D B gW, CX, CF, CE]) [5, 0, 6, 7, 1, 2, 3, 4] rfl rfl ?_
    refine Ex.p rfl ?_
    refine Ex.p rfl ?_
    refine Ex.p rfl ?_
    refine Ex.p rfl ?_
    refine loop (ps.length + 1) 0 0 ogv (by omega) (by omega) (fun _ => rfl) (fun h => by omega) rfl _ (fun q h => ?_) _ _ (by first | (dsimp only [rm]; omega) | omega) (by first | (dsimp only [rm]; omega) | omega)
    simp only [List.mem_cons, List.not_mem_nil, or_false] at h
    rcases h with rfl | rfl | rfl <;> first | (simp [xs1, xs2, lv_args, Value.category, b32, nI]; done) | (simp [xs1, xs2, lv_args, Value.category, b32, nI]; decide) | (simp [xs1, xs2, lv_args, Value.category, b32, nI]; exact Or.inr (by decide)) | (simp [xs1, xs2, lv_args, Value.category, b32, nI]; exact Or.inl (by decide))
  · rw [decide_eq_false g0]
    rw [if_neg g0] at hP
    refine Ex.br rfl (fun _ => ?_) (fun c => absurd rfl c)
    refine Ex.p rfl ?_
    refine Ex.pf 0 0 rfl rfl rfl rfl rfl rfl ?_
    refine Ex.p rfl ?_
    refine Ex.gf 0 0 rfl rfl rfl ?_
    refine Ex.br rfl (fun c => absurd c (show (1 : Int32) ≠ 0 by decide)) (fun _ => ?_)
    refine Ex.p rfl ?_
    refine Ex.lret rfl rfl (by first | (dsimp only [rm]; omega) | omega) (by first | (dsimp only [rm]; omega) | omega) rfl ?_
    exact QM.thr hP.symm ⟨B, mn, la, ap, bg, wr, wa, wn, fo, st, rf, rt, cu, me, hl, LT, LH, CT, CH, CX, CF, CE, gR, gQ, gL, gW, rfl, hT, hH, iT, iH, iX, iF, iE⟩
end MOC

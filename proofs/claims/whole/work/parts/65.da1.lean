/-! DrillArchive: what its calls answer; tool, file, archive, feed, unit -/
abbrev AR : Type := (Nat ⊕ Value) × SD
def QR (D : xD) (a : Nat) (r : AR) (v : Option Value) (S : List va_W) : Prop := ∃ x, r.1 = .inr x ∧ v = some x ∧ IsDa D a r.2 S
def ER (D : xD) (a : Nat) (f : Nat → Nat) (r : AR) (cc : Nat) (S : List va_W) : Prop := ∃ k, r.1 = .inl k ∧ cc = f k ∧ IsDa D a r.2 S
def aTool (z : SD) (d : Int64) (p : Bool) : AR := if 1 ≤ d.toInt ∧ d.toInt ≤ 10000 then (if z.1.length < 10 then (.inr (.int (nI z.1.length)), z.1 ++ [(d.toInt32, p)], z.2) else (.inr (.int (-1)), z)) else (.inl 1, z)
def fhas (fl : List (Nat × List Nat)) (ro : Nat) : Bool := fl.any (fun x => x.1 == ro)
def aFile (z : SD) (ro : Int32) : AR := if 0 ≤ ro.toInt ∧ ro.toInt ≤ 7 then (if fhas z.2.2.2.2 ro.toInt.toNat = false ∧ z.2.2.2.2.length < 8 then (.inr (.int (nI z.2.2.2.2.length)), z.1, z.2.1, z.2.2.1, z.2.2.2.1, z.2.2.2.2 ++ [(ro.toInt.toNat, [])]) else (.inr (.int (-1)), z)) else (.inl 1, z)
def fallB (fl : List (Nat × List Nat)) : List Nat := fl.flatMap (fun x => fbytes x.1 x.2)
def aArch (z : SD) (i : Int32) : AR := if 0 ≤ i.toInt then (.inr (.int (bat (z.2.2.2.2.length :: fallB z.2.2.2.2) i.toInt.toNat)), z) else (.inl 1, z)
def aFeed (z : SD) (b : Int32) : AR := if (0 ≤ b.toInt ∧ b.toInt < 256) ∧ z.2.2.2.1.length < 2600 then (.inr (.int 1), z.1, z.2.1, z.2.2.1, z.2.2.2.1 ++ [b.toInt.toNat], z.2.2.2.2) else (.inr (.int 0), z)
def aUnit (z : SD) (u : Int32) : AR := if (u.toInt = 10 ∨ (32 ≤ u.toInt ∧ u.toInt ≤ 126)) ∧ z.2.2.1.length < 2000 then (.inr (.int 1), z.1, z.2.1, z.2.2.1 ++ [u], z.2.2.2) else (.inr (.int 0), z)
theorem nI_nat {x : Int32} (h : 0 ≤ x.toInt) : nI x.toInt.toNat = x := by
  apply Int32.toInt_inj.mp
  rw [nI_toInt (by have := Int32.toInt_lt x; omega)]
  omega
theorem fwith_no {fs : List FV} {ro : Nat} : fwith fs ro = none ↔ fhas (fs.map frb) ro = false := by
  unfold fwith fhas
  rw [List.find?_eq_none, List.any_map]
  simp
theorem fall_eq {fs : List FV} : fall fs = fallB (fs.map frb) := by
  unfold fall fallB
  rw [List.flatMap_map]
section DA1
variable {l : Launch} {D : xD} {R : Room}
theorem ct_Da_tool {a : Nat} {z : SD} {d : Int64} {p : Bool} {S : List va_W} (hfg : l.flags = pinnedFlags ++ [noTraceFlag]) (h : IsDa D a z S) (hr : rmOk R 6 5 28) : CtT l mDa_tool none D R [.ref a, .long d, .int (b32 p)] S (QR D a (aTool z d p)) (ER D a (fun _ => 11) (aTool z d p)) := by
  have hfl := hfg
  obtain ⟨r1, r2, r3, r4⟩ := hr
  have hz := id h
  obtain ⟨pl, w, un, fe, dr, f, r, kp, kf, kt, c0, c1, c2, xs, ts, hs, fs, Cp, Co, Cu, Cf, Cd, T, Cs, F, rfl, hpl, ho, hk, hu, hfe, hb, hd, hok, hv, htv, hhv, hfs, hff⟩ := h
  obtain ⟨ta, ha, ft, fh, eCd, -, -, -, -, h3, h4⟩ := id hd
  have hlen : z.1.length = ts.length := by rw [← htv, List.length_map]
  generalize hP : aTool z d p = P
  unfold aTool at hP
  refine CtT.of rfl (by decide) tkDa_tool (Nat.le_of_ble_eq_true rfl) (fun A => ?_)
  refine Ex.p rfl ?_
  refine Ex.cs0 (Mc := mDa_isDiameter) (Rc := rm 0 0 0) (As := [.long d]) (rest := []) (ct_isDiameter) rfl lk_0_51 lcDa_isDiameter rfl ⟨by dsimp only [rm]; omega, by show 8 + (2 + 11) + 0 ≤ R.locals; omega⟩ (Nat.le_of_ble_eq_true rfl) (by dsimp only [rm]; omega) (by dsimp only [rm]; omega) ?_
  rintro v S1 ⟨rfl, rfl⟩
  by_cases g1 : 1 ≤ d.toInt ∧ d.toInt ≤ 10000
  · rw [decide_eq_true g1]
    rw [if_pos g1] at hP
    refine Ex.br rfl (fun _ => ?_) (fun c => absurd (show (1 : Int32) ≠ 0 by decide) c)
    refine Ex.p rfl ?_
    refine Ex.gf 0 0 rfl rfl rfl ?_
    refine Ex.cv (Mc := mTw_forget) (Rc := rm 0 0 0) (As := []) (rest := []) (Sr := [sDa a pl w un fe dr f, Cp, Co, Cu, Cf, Cd, T, sHs hs, Cs, F]) (ic := 2) (jc := 0) (ci := 8) [2] [0, 1, 3, 4, 5, 6, 7, 8, 9, 10] (ct_Tw_forget) rfl lk_0_62 lcTw_forget rfl rfl rfl rfl rfl (by decide) rfl rfl rfl (by decide) ⟨by dsimp only [rm]; omega, by show 8 + (1 + 11) + 0 ≤ R.locals; omega⟩ (Nat.le_of_ble_eq_true rfl) (by dsimp only [rm]; omega) (by dsimp only [rm]; omega) ?_
    rintro v S1 ⟨rfl, rfl⟩
    refine Ex.sub (S' := [sDa a pl w un fe dr f, Cp, sTw w pl r false kf kt, Co, Cu, Cf, Cd, T, sHs hs, Cs, F]) [0, 1, 10, 2, 3, 4, 5, 6, 7, 8, 9] rfl rfl ?_
    refine Ex.p rfl ?_
    refine Ex.gf 0 0 rfl rfl rfl ?_
    refine Ex.p rfl ?_
    refine Ex.p rfl ?_
    refine Ex.p rfl ?_
    refine Ex.cv (Mc := mDr_addTool) (Rc := rm 3 5 28) (As := [.int d.toInt32, .int (b32 p)]) (rest := []) (Sr := [sDa a pl w un fe dr f, Cp, sTw w pl r false kf kt, Co, Cu, Cf, sHs hs, Cs, F]) (ic := 6) (jc := 0) (ci := 1) [6, 7] [0, 1, 2, 3, 4, 5, 8, 9, 10] (ct_Dr_addTool hd (rm_ok _ _ _)) rfl lk_0_65 lcDr_addTool rfl rfl rfl rfl rfl (by decide) rfl (by rw [eCd]; rfl) rfl (by decide) ⟨by dsimp only [rm]; omega, by show 8 + (3 + 11) + 120 ≤ R.locals; omega⟩ (Nat.le_of_ble_eq_true rfl) (by dsimp only [rm]; omega) (by dsimp only [rm]; omega) ?_
    rintro v S1 h9
    rcases h9 with ⟨h10, rfl, rfl⟩ | ⟨h10, rfl, Cd', T', q, rfl, hd'⟩
    · rw [if_neg (by omega)] at hP
      refine Ex.sub (S' := [sDa a pl w un fe dr f, Cp, sTw w pl r false kf kt, Co, Cu, Cf, Cd, T, sHs hs, Cs, F]) [0, 1, 2, 3, 4, 5, 9, 10, 6, 7, 8] rfl rfl ?_
      refine Ex.rt (Ex.iret rfl rfl (by dsimp only [rm]; omega) (by dsimp only [rm]; omega) rfl ?_)
      subst hP
      exact ⟨_, rfl, rfl, pl, w, un, fe, dr, f, r, false, kf, kt, c0, c1, c2, xs, ts, hs, fs, Cp, Co, Cu, Cf, Cd, T, Cs, F, rfl, hpl, ho, (fun c => by cases c), hu, hfe, hb, hd, hok, hv, htv, hhv, hfs, hff⟩
    · rw [if_pos (by omega)] at hP
      refine Ex.sub (S' := [sDa a pl w un fe dr f, Cp, sTw w pl r false kf kt, Co, Cu, Cf, Cd', T', sHs hs, Cs, F]) [0, 1, 2, 3, 4, 5, 9, 10, 6, 7, 8] rfl rfl ?_
      refine Ex.rt (Ex.iret rfl rfl (by dsimp only [rm]; omega) (by dsimp only [rm]; omega) rfl ?_)
      subst hP
      have ht9 : tvOK (d.toInt32, p) := by
        have e9 : d.toInt32.toInt = d.toInt := by
          rw [Int64.toInt_toInt32]
          exact Int.bmod_eq_of_le (by omega) (by omega)
        show 1 ≤ d.toInt32.toInt ∧ d.toInt32.toInt ≤ 10000
        omega
      exact ⟨_, rfl, by rw [hlen], pl, w, un, fe, dr, f, r, false, kf, kt, c0, c1, c2, xs, _, hs, fs, Cp, Co, Cu, Cf, Cd', T', Cs, F, rfl, hpl, ho, (fun c => by cases c), hu, hfe, hb, hd', hok.tool hv (by omega) ht9, hv.more (by simp), (by rw [List.map_append, htv]; rfl), hhv, hfs, hff⟩
  · rw [decide_eq_false g1]
    rw [if_neg g1] at hP
    refine Ex.br rfl (fun c => absurd rfl c) (fun _ => ?_)
    refine Ex.thr hfl rfl rfl rfl rfl rfl rfl rfl thrIA (by decide +kernel) lcDa_tool.1.2.1 (by first | omega | (dsimp only [rm]; omega)) (by first | omega | (dsimp only [rm]; omega)) (by first | omega | (dsimp only [rm]; omega)) (by first | omega | (dsimp only [rm]; omega)) (by omega) (by simp [Value.category]; omega) ?_
    subst hP
    exact ⟨1, rfl, rfl, hz⟩
theorem ct_Da_file {a : Nat} {z : SD} {ro : Int32} {S : List va_W} (hfl : l.flags = pinnedFlags ++ [noTraceFlag]) (h : IsDa D a z S) (hr : rmOk R 6 3 14) : CtT l mDa_file none D R [.ref a, .int ro] S (QR D a (aFile z ro)) (ER D a (fun _ => 11) (aFile z ro)) := by
  obtain ⟨r1, r2, r3, r4⟩ := hr
  have hz := id h
  obtain ⟨pl, w, un, fe, dr, f, r, kp, kf, kt, c0, c1, c2, xs, ts, hs, fs, Cp, Co, Cu, Cf, Cd, T, Cs, F, rfl, hpl, ho, hk, hu, hfe, hb, hd, hok, hv, htv, hhv, hfs, hff⟩ := h
  obtain ⟨fa, ffn, eCs, -, -, hl8⟩ := id hfs
  have hlen : z.2.2.2.2.length = fs.length := by rw [← hff, List.length_map]
  generalize hP : aFile z ro = P
  unfold aFile at hP
  refine CtT.of rfl (by decide) tkDa_file (Nat.le_of_ble_eq_true rfl) (fun A => ?_)
  refine Ex.p rfl ?_
  refine Ex.cs0 (Mc := mDa_isRole) (Rc := rm 0 0 0) (As := [.int ro]) (rest := []) (ct_isRole) rfl lk_0_157 lcDa_isRole rfl ⟨by dsimp only [rm]; omega, by show 8 + (1 + 11) + 0 ≤ R.locals; omega⟩ (Nat.le_of_ble_eq_true rfl) (by dsimp only [rm]; omega) (by dsimp only [rm]; omega) ?_
  rintro v S1 ⟨rfl, rfl⟩
  by_cases g1 : 0 ≤ ro.toInt ∧ ro.toInt ≤ 7
  · rw [decide_eq_true g1]
    rw [if_pos g1] at hP
    have ero := nI_nat g1.1
    generalize hro : ro.toInt.toNat = rn at hP ero
    subst ero
    refine Ex.br rfl (fun _ => ?_) (fun c => absurd (show (1 : Int32) ≠ 0 by decide) c)
    refine Ex.p rfl ?_
    refine Ex.gf 0 0 rfl rfl rfl ?_
    refine Ex.p rfl ?_
    refine Ex.cv (Mc := mFs_add) (Rc := rm 3 3 14) (As := [.int (nI rn)]) (rest := []) (Sr := [sDa a pl w un fe dr f, Cp, sTw w pl r kp kf kt, Co, Cu, Cf, Cd, T, sHs hs]) (ic := 9) (jc := 0) (ci := 2) [9, 10] [0, 1, 2, 3, 4, 5, 6, 7, 8] (ct_Fs_add hfs (by omega) (rm_ok _ _ _)) rfl lk_0_162 lcFs_add rfl rfl rfl rfl rfl (by decide) rfl (by rw [eCs]; rfl) rfl (by decide) ⟨by dsimp only [rm]; omega, by show 8 + (2 + 11) + 120 ≤ R.locals; omega⟩ (Nat.le_of_ble_eq_true rfl) (by dsimp only [rm]; omega) (by dsimp only [rm]; omega) ?_
    rintro v S1 h9
    rcases h9 with ⟨h10, rfl, rfl⟩ | ⟨h10, h11, h12, rfl, q, Cs', F', rfl, hfs'⟩
    · rw [if_neg (fun g => by
        rw [← hff, ← fwith_no, List.length_map] at g
        rcases h10 with h10 | h10 | h10
        · omega
        · exact h10 g.1
        · omega)] at hP
      refine Ex.sub (S' := [sDa a pl w un fe dr f, Cp, sTw w pl r kp kf kt, Co, Cu, Cf, Cd, T, sHs hs, Cs, F]) [0, 1, 2, 3, 4, 5, 6, 7, 8, 9, 10] rfl rfl ?_
      refine Ex.rt (Ex.iret rfl rfl (by dsimp only [rm]; omega) (by dsimp only [rm]; omega) rfl ?_)
      subst hP
      exact ⟨_, rfl, rfl, hz⟩
    · rw [if_pos ⟨by rw [← hff, ← fwith_no]; exact h11, by omega⟩] at hP
      refine Ex.sub (S' := [sDa a pl w un fe dr f, Cp, sTw w pl r kp kf kt, Co, Cu, Cf, Cd, T, sHs hs, Cs', F']) [0, 1, 2, 3, 4, 5, 6, 7, 8, 9, 10] rfl rfl ?_
      refine Ex.rt (Ex.iret rfl rfl (by dsimp only [rm]; omega) (by dsimp only [rm]; omega) rfl ?_)
      subst hP
      exact ⟨_, rfl, by rw [hlen], pl, w, un, fe, dr, f, r, kp, kf, kt, c0, c1, c2, xs, ts, hs, _, Cp, Co, Cu, Cf, Cd, T, Cs', F', rfl, hpl, ho, hk, hu, hfe, hb, hd, hok, hv, htv, hhv, hfs', (by rw [List.map_append, hff]; rfl)⟩
  · rw [decide_eq_false g1]
    rw [if_neg g1] at hP
    refine Ex.br rfl (fun c => absurd rfl c) (fun _ => ?_)
    refine Ex.thr hfl rfl rfl rfl rfl rfl rfl rfl thrIA (by decide +kernel) lcDa_file.1.2.1 (by first | omega | (dsimp only [rm]; omega)) (by first | omega | (dsimp only [rm]; omega)) (by first | omega | (dsimp only [rm]; omega)) (by first | omega | (dsimp only [rm]; omega)) (by omega) (by simp [Value.category]; omega) ?_
    subst hP
    exact ⟨1, rfl, rfl, hz⟩
theorem ct_Da_archive {a : Nat} {z : SD} {i : Int32} {S : List va_W} (hfl : l.flags = pinnedFlags ++ [noTraceFlag]) (h : IsDa D a z S) (hr : rmOk R 6 1 6) : CtT l mDa_archive none D R [.ref a, .int i] S (QR D a (aArch z i)) (ER D a (fun _ => 12) (aArch z i)) := by
  obtain ⟨r1, r2, r3, r4⟩ := hr
  have hz := id h
  obtain ⟨pl, w, un, fe, dr, f, r, kp, kf, kt, c0, c1, c2, xs, ts, hs, fs, Cp, Co, Cu, Cf, Cd, T, Cs, F, rfl, hpl, ho, hk, hu, hfe, hb, hd, hok, hv, htv, hhv, hfs, hff⟩ := h
  obtain ⟨fa, ffn, eCs, -, -, hl8⟩ := id hfs
  generalize hP : aArch z i = P
  unfold aArch at hP
  refine CtT.of rfl (by decide) tkDa_archive (Nat.le_of_ble_eq_true rfl) (fun A => ?_)
  refine Ex.p rfl ?_
  refine Ex.br rfl (fun c => ?_) (fun c => ?_)
  · have c : 0 ≤ i := c
    rw [Int32.le_iff_toInt_le] at c
    have c : 0 ≤ i.toInt := c
    rw [if_pos c] at hP
    have ei := nI_nat c
    have hi31 := Int32.toInt_lt i
    generalize hin : i.toInt.toNat = jn at hP ei
    have hj31 : jn < 2 ^ 31 := by omega
    subst ei
    refine Ex.p rfl ?_
    refine Ex.gf 0 0 rfl rfl rfl ?_
    refine Ex.p rfl ?_
    refine Ex.cv (Mc := mFs_joined) (Rc := rm 2 0 0) (As := [.int (nI jn)]) (rest := []) (Sr := [sDa a pl w un fe dr f, Cp, sTw w pl r kp kf kt, Co, Cu, Cf, Cd, T, sHs hs]) (ic := 9) (jc := 0) (ci := 2) [9, 10] [0, 1, 2, 3, 4, 5, 6, 7, 8] (ct_Fs_joined hfs hj31 (rm_ok _ _ _)) rfl lk_0_179 lcFs_joined rfl rfl rfl rfl rfl (by decide) rfl (by rw [eCs]; rfl) rfl (by decide) ⟨by dsimp only [rm]; omega, by show 8 + (5 + 11) + 80 ≤ R.locals; omega⟩ (Nat.le_of_ble_eq_true rfl) (by dsimp only [rm]; omega) (by dsimp only [rm]; omega) ?_
    rintro v S1 ⟨rfl, rfl⟩
    refine Ex.sub (S' := [sDa a pl w un fe dr f, Cp, sTw w pl r kp kf kt, Co, Cu, Cf, Cd, T, sHs hs, Cs, F]) [0, 1, 2, 3, 4, 5, 6, 7, 8, 9, 10] rfl rfl ?_
    refine Ex.rt (Ex.iret rfl rfl (by dsimp only [rm]; omega) (by dsimp only [rm]; omega) rfl ?_)
    subst hP
    exact ⟨_, rfl, by rw [← hff, fall_eq, List.length_map], hz⟩
  · have c : ¬ 0 ≤ i := c
    rw [Int32.le_iff_toInt_le] at c
    have c : ¬ 0 ≤ i.toInt := c
    rw [if_neg c] at hP
    refine Ex.thr hfl rfl rfl rfl rfl rfl rfl rfl thrIO (by decide +kernel) lcDa_archive.1.2.1 (by first | omega | (dsimp only [rm]; omega)) (by first | omega | (dsimp only [rm]; omega)) (by first | omega | (dsimp only [rm]; omega)) (by first | omega | (dsimp only [rm]; omega)) (by omega) (by simp [Value.category]; omega) ?_
    subst hP
    exact ⟨1, rfl, rfl, hz⟩
theorem ct_Da_feed {a : Nat} {z : SD} {b : Int32} {S : List va_W} (h : IsDa D a z S) (hr : rmOk R 3 1 5200) : Ct l mDa_feed D R [.ref a, .int b] S (QR D a (aFeed z b)) := by
  obtain ⟨r1, r2, r3, r4⟩ := hr
  have hz := id h
  obtain ⟨pl, w, un, fe, dr, f, r, kp, kf, kt, c0, c1, c2, xs, ts, hs, fs, Cp, Co, Cu, Cf, Cd, T, Cs, F, rfl, hpl, ho, hk, hu, hfe, hb, hd, hok, hv, htv, hhv, hfs, hff⟩ := h
  obtain ⟨arr, fx, eCf, x1, x2, x3, x4, x5, x6⟩ := id hfe
  have hll : (z.2.2.2.1.map nI).length = z.2.2.2.1.length := List.length_map ..
  generalize hP : aFeed z b = P
  unfold aFeed at hP
  refine Ct.of rfl (by decide) tkDa_feed (Nat.le_of_ble_eq_true rfl) (fun A => ?_)
  refine Ex.p rfl ?_
  refine Ex.cs0 (Mc := mDa_isByte) (Rc := rm 0 0 0) (As := [.int b]) (rest := []) (ct_isByte) rfl lk_0_169 lcDa_isByte rfl ⟨by dsimp only [rm]; omega, by show 8 + (1 + 11) + 0 ≤ R.locals; omega⟩ (Nat.le_of_ble_eq_true rfl) (by dsimp only [rm]; omega) (by dsimp only [rm]; omega) ?_
  rintro v S1 ⟨rfl, rfl⟩
  by_cases g1 : 0 ≤ b.toInt ∧ b.toInt < 256
  · rw [decide_eq_true g1]
    refine Ex.br rfl (fun c => absurd c (show (1 : Int32) ≠ 0 by decide)) (fun _ => ?_)
    refine Ex.p rfl ?_
    refine Ex.gf 0 0 rfl rfl rfl ?_
    refine Ex.p rfl ?_
    refine Ex.cv (Mc := mRo_push) (Rc := rm 2 1 5200) (As := [.int b]) (rest := []) (Sr := [sDa a pl w un fe dr f, Cp, sTw w pl r kp kf kt, Co, Cu, Cd, T, sHs hs, Cs, F]) (ic := 5) (jc := 0) (ci := 5) [5] [0, 1, 2, 3, 4, 6, 7, 8, 9, 10] (ct_Ro_push hfe (by dsimp only [rm]; omega) (by dsimp only [rm]; omega) (Or.inr (Or.inr ⟨by dsimp only [rm]; omega, by dsimp only [rm]; omega⟩))) rfl lk_0_109 lcRo_push rfl rfl rfl rfl rfl (by decide) rfl (by rw [eCf]; rfl) rfl (by decide) ⟨by dsimp only [rm]; omega, by show 8 + (2 + 11) + 80 ≤ R.locals; omega⟩ (Nat.le_of_ble_eq_true rfl) (by dsimp only [rm]; omega) (by dsimp only [rm]; omega) ?_
    rintro v S1 h9
    rcases h9 with ⟨h10, rfl, C', rfl, hfe'⟩ | ⟨h10, rfl, rfl⟩
    · rw [if_pos ⟨g1, by omega⟩] at hP
      refine Ex.sub (S' := [sDa a pl w un fe dr f, Cp, sTw w pl r kp kf kt, Co, Cu, C', Cd, T, sHs hs, Cs, F]) [0, 1, 2, 3, 4, 10, 5, 6, 7, 8, 9] rfl rfl ?_
      refine Ex.br rfl (fun c => absurd c (show (1 : Int32) ≠ 0 by decide)) (fun _ => ?_)
      refine Ex.p rfl ?_
      refine Ex.p rfl ?_
      refine Ex.zret rfl rfl (Or.inr rfl) (by dsimp only [rm]; omega) (by dsimp only [rm]; omega) rfl ?_
      subst hP
      exact ⟨_, rfl, rfl, pl, w, un, fe, dr, f, r, kp, kf, kt, c0, c1, _, xs, ts, hs, fs, Cp, Co, Cu, C', Cd, T, Cs, F, rfl, hpl, ho, hk, hu, (by rw [List.map_append, List.map_singleton, nI_nat g1.1]; exact hfe'), (fun q hq => by
        rcases List.mem_append.mp hq with hq | hq
        · exact hb q hq
        · rw [List.mem_singleton.mp hq]; omega), hd, hok, hv, htv, hhv, hfs, hff⟩
    · rw [if_neg (by omega)] at hP
      refine Ex.sub (S' := [sDa a pl w un fe dr f, Cp, sTw w pl r kp kf kt, Co, Cu, Cf, Cd, T, sHs hs, Cs, F]) [0, 1, 2, 3, 4, 10, 5, 6, 7, 8, 9] rfl rfl ?_
      refine Ex.br rfl (fun _ => ?_) (fun c => absurd rfl c)
      refine Ex.p rfl ?_
      refine Ex.zret rfl rfl (Or.inl rfl) (by dsimp only [rm]; omega) (by dsimp only [rm]; omega) rfl ?_
      subst hP
      exact ⟨_, rfl, rfl, hz⟩
  · rw [decide_eq_false g1]
    rw [if_neg (fun q => g1 q.1)] at hP
    refine Ex.br rfl (fun _ => ?_) (fun c => absurd rfl c)
    refine Ex.p rfl ?_
    refine Ex.zret rfl rfl (Or.inl rfl) (Nat.zero_le _) (Nat.zero_le _) rfl ?_
    subst hP
    exact ⟨_, rfl, rfl, hz⟩
theorem ct_Da_unit {a : Nat} {z : SD} {u : Int32} {S : List va_W} (h : IsDa D a z S) (hr : rmOk R 3 1 4000) : Ct l mDa_unit D R [.ref a, .int u] S (QR D a (aUnit z u)) := by
  obtain ⟨r1, r2, r3, r4⟩ := hr
  have hz := id h
  obtain ⟨pl, w, un, fe, dr, f, r, kp, kf, kt, c0, c1, c2, xs, ts, hs, fs, Cp, Co, Cu, Cf, Cd, T, Cs, F, rfl, hpl, ho, hk, hu, hfe, hb, hd, hok, hv, htv, hhv, hfs, hff⟩ := h
  obtain ⟨arr, fx, eCu, x1, x2, x3, x4, x5, x6⟩ := id hu
  generalize hP : aUnit z u = P
  unfold aUnit at hP
  refine Ct.of rfl (by decide) tkDa_unit (Nat.le_of_ble_eq_true rfl) (fun A => ?_)
  have s22 : ∀ (b : Bool), (b = true ↔ (u.toInt = 10 ∨ (32 ≤ u.toInt ∧ u.toInt ≤ 126))) → Ex l mDa_unit D R A (xQ D A (QR D a P)) R.cells R.slots 23 [(0, .ref a), (1, .int u)] [.int (b32 b)] [sDa a pl w un fe dr f, Cp, sTw w pl r kp kf kt, Co, Cu, Cf, Cd, T, sHs hs, Cs, F] 0 0 := by
    intro b hb9
    refine Ex.p rfl ?_
    refine Ex.p rfl ?_
    cases b with
    | false =>
      rw [if_neg (fun q => by have := hb9.mpr q.1; cases this)] at hP
      refine Ex.br rfl (fun _ => ?_) (fun c => absurd rfl c)
      refine Ex.p rfl ?_
      refine Ex.zret rfl rfl (Or.inl rfl) (Nat.zero_le _) (Nat.zero_le _) rfl ?_
      subst hP
      exact ⟨_, rfl, rfl, hz⟩
    | true =>
      have g1 := hb9.mp rfl
      refine Ex.br rfl (fun c => absurd c (show (1 : Int32) ≠ 0 by decide)) (fun _ => ?_)
      refine Ex.p rfl ?_
      refine Ex.gf 0 0 rfl rfl rfl ?_
      refine Ex.p rfl ?_
      refine Ex.cv (Mc := mRo_push) (Rc := rm 2 1 4000) (As := [.int u]) (rest := []) (Sr := [sDa a pl w un fe dr f, Cp, sTw w pl r kp kf kt, Co, Cf, Cd, T, sHs hs, Cs, F]) (ic := 4) (jc := 0) (ci := 5) [4] [0, 1, 2, 3, 5, 6, 7, 8, 9, 10] (ct_Ro_push hu (by dsimp only [rm]; omega) (by dsimp only [rm]; omega) (Or.inr (Or.inr ⟨by dsimp only [rm]; omega, by dsimp only [rm]; omega⟩))) rfl lk_0_109 lcRo_push rfl rfl rfl rfl rfl (by decide) rfl (by rw [eCu]; rfl) rfl (by decide) ⟨by dsimp only [rm]; omega, by show 8 + (2 + 11) + 80 ≤ R.locals; omega⟩ (Nat.le_of_ble_eq_true rfl) (by dsimp only [rm]; omega) (by dsimp only [rm]; omega) ?_
      rintro v S1 h9
      rcases h9 with ⟨h10, rfl, C', rfl, hu'⟩ | ⟨h10, rfl, rfl⟩
      · rw [if_pos ⟨g1, by omega⟩] at hP
        refine Ex.sub (S' := [sDa a pl w un fe dr f, Cp, sTw w pl r kp kf kt, Co, C', Cf, Cd, T, sHs hs, Cs, F]) [0, 1, 2, 3, 10, 4, 5, 6, 7, 8, 9] rfl rfl ?_
        refine Ex.br rfl (fun c => absurd c (show (1 : Int32) ≠ 0 by decide)) (fun _ => ?_)
        refine Ex.p rfl ?_
        refine Ex.p rfl ?_
        refine Ex.zret rfl rfl (Or.inr rfl) (by dsimp only [rm]; omega) (by dsimp only [rm]; omega) rfl ?_
        subst hP
        exact ⟨_, rfl, rfl, pl, w, un, fe, dr, f, r, kp, kf, kt, c0, _, c2, xs, ts, hs, fs, Cp, Co, C', Cf, Cd, T, Cs, F, rfl, hpl, ho, hk, hu', hfe, hb, hd, hok, hv, htv, hhv, hfs, hff⟩
      · rw [if_neg (by omega)] at hP
        refine Ex.sub (S' := [sDa a pl w un fe dr f, Cp, sTw w pl r kp kf kt, Co, Cu, Cf, Cd, T, sHs hs, Cs, F]) [0, 1, 2, 3, 10, 4, 5, 6, 7, 8, 9] rfl rfl ?_
        refine Ex.br rfl (fun _ => ?_) (fun c => absurd rfl c)
        refine Ex.p rfl ?_
        refine Ex.zret rfl rfl (Or.inl rfl) (by dsimp only [rm]; omega) (by dsimp only [rm]; omega) rfl ?_
        subst hP
        exact ⟨_, rfl, rfl, hz⟩
  refine Ex.p rfl ?_
  refine Ex.p rfl ?_
  refine Ex.br rfl (fun c => ?_) (fun c => ?_)
  · have c : u = 10 := c
    refine Ex.p rfl ?_
    refine Ex.p rfl ?_
    exact s22 true ⟨fun _ => Or.inl (by rw [c]; rfl), fun _ => rfl⟩
  · have c : ¬ u = 10 := c
    have c0 : ¬ u.toInt = 10 := fun q => c (Int32.toInt_inj.mp q)
    refine Ex.p rfl ?_
    refine Ex.p rfl ?_
    refine Ex.br rfl (fun c1 => ?_) (fun c1 => ?_)
    · have c1 : u < 32 := c1
      rw [Int32.lt_iff_toInt_lt] at c1
      have c1 : u.toInt < 32 := c1
      refine Ex.p rfl ?_
      exact s22 false ⟨(fun q => by cases q), (fun q => by omega)⟩
    · have c1 : ¬ u < 32 := c1
      rw [Int32.lt_iff_toInt_lt] at c1
      have c1 : ¬ u.toInt < 32 := c1
      refine Ex.p rfl ?_
      refine Ex.p rfl ?_
      refine Ex.br rfl (fun c2 => ?_) (fun c2 => ?_)
      · have c2 : 126 < u := c2
        rw [Int32.lt_iff_toInt_lt] at c2
        have c2 : 126 < u.toInt := c2
        refine Ex.p rfl ?_
        exact s22 false ⟨(fun q => by cases q), (fun q => by omega)⟩
      · have c2 : ¬ 126 < u := c2
        rw [Int32.lt_iff_toInt_lt] at c2
        have c2 : ¬ 126 < u.toInt := c2
        refine Ex.p rfl ?_
        refine Ex.p rfl ?_
        exact s22 true ⟨fun _ => Or.inr ⟨by omega, by omega⟩, fun _ => rfl⟩
end DA1

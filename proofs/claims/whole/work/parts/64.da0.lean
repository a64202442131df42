/-! DrillArchive: its cells, knownTool, knownFile -/
abbrev sDa (a pl w un fe dr f : Nat) : va_W := [(a, .inr (0, [.ref pl, .ref w, .ref un, .ref fe, .ref dr, .ref f]))]
/-- what an archive is: tools, hits, units, bytes fed, files -/
abbrev SD : Type := List (Int32 × Bool) × List HV × List Int32 × List Nat × List (Nat × List Nat)
def IsDa (D : xD) (a : Nat) (z : SD) (S : List va_W) : Prop := ∃ (pl w un fe dr f r : Nat) (kp : Bool) (kf kt : Int32) (c0 c1 c2 : Nat) (xs : List Int32) (ts : List TV) (hs : List (Nat × HV)) (fs : List FV) (Cp Co Cu Cf Cd T Cs F : va_W),
  S = [sDa a pl w un fe dr f, Cp, sTw w pl r kp kf kt, Co, Cu, Cf, Cd, T, sHs hs, Cs, F] ∧ IsPlA D pl Cp ∧ IsRow D r 2600 c0 xs Co ∧ (kp = true → xs = textD kf kt z.1 z.2.1) ∧ IsRow D un 2000 c1 z.2.2.1 Cu ∧ IsRow D fe 2600 c2 (z.2.2.2.1.map nI) Cf ∧ (∀ b ∈ z.2.2.2.1, b < 256) ∧
  IsDr D dr ts hs Cd T (sHs hs) ∧ DrOK ts hs ∧ HvT ts.length (hs.map (fun h => h.2)) ∧ ts.map tvo = z.1 ∧ hs.map (fun h => h.2) = z.2.1 ∧ IsFs D f fs Cs F ∧ fs.map frb = z.2.2.2.2
section DA0
variable {l : Launch} {D : xD} {R : Room}
theorem ct_Da_knownTool {a pl w un fe dr f : Nat} {i : Int32} {ts : List TV} {hs : List (Nat × HV)} {Cd T Hs : va_W} (hfl : l.flags = pinnedFlags ++ [noTraceFlag]) (hd : IsDr D dr ts hs Cd T Hs) (hr : rmOk R 6 1 6) : CtT l mDa_knownTool none D R [.ref a, .int i] [sDa a pl w un fe dr f, Cd] (fun v S => ∃ t, ixo ts i = some t ∧ v = some (.ref t.1) ∧ S = [sDa a pl w un fe dr f, Cd]) (fun cc S => cc = 12 ∧ ixo ts i = none ∧ S = [sDa a pl w un fe dr f, Cd]) := by
  obtain ⟨r1, r2, r3, r4⟩ := hr
  obtain ⟨ta, ha, ft, fh, eCd, -, -, -, -, h3, h4⟩ := id hd
  refine CtT.of rfl (by decide) tkDa_knownTool (Nat.le_of_ble_eq_true rfl) (fun A => ?_)
  refine Ex.p rfl ?_
  refine Ex.gf 0 0 rfl rfl rfl ?_
  refine Ex.p rfl ?_
  refine Ex.cv (Mc := mDr_toolAt) (Rc := rm 0 0 0) (As := [.int i]) (rest := []) (Sr := [sDa a pl w un fe dr f]) (ic := 1) (jc := 0) (ci := 1) [1] [0] (ct_Dr_toolAt hd) rfl lk_0_202 lcDr_toolAt rfl rfl rfl rfl rfl (by decide) rfl (by rw [eCd]; rfl) rfl (by decide) ⟨by dsimp only [rm]; omega, by show 8 + (2 + 11) + 0 ≤ R.locals; omega⟩ (Nat.le_of_ble_eq_true rfl) (by dsimp only [rm]; omega) (by dsimp only [rm]; omega) ?_
  rintro v S1 ⟨rfl, rfl⟩
  cases hi : ixo ts i with
  | none =>
    refine Ex.p rfl ?_
    refine Ex.p rfl ?_
    refine Ex.nnN rfl ?_
    refine Ex.thr hfl rfl rfl rfl rfl rfl rfl rfl thrIO (by decide +kernel) lcDa_knownTool.1.2.1 (by dsimp only [rm]; omega) (by dsimp only [rm]; omega) (by dsimp only [rm]; omega) (by dsimp only [rm]; omega) (by omega) (by simp [Value.category]; omega) ?_
    exact ⟨rfl, rfl, rfl⟩
  | some t =>
    refine Ex.p rfl ?_
    refine Ex.p rfl ?_
    refine Ex.nnR rfl rfl ?_
    refine Ex.p rfl ?_
    exact Ex.rt (Ex.aret rfl rfl (Or.inr ⟨_, rfl⟩) (Nat.zero_le _) (Nat.zero_le _) rfl ⟨t, rfl, rfl, rfl⟩)
theorem ct_Da_knownFile {a pl w un fe dr f : Nat} {i : Int32} {fs : List FV} {Cs F : va_W} (hfl : l.flags = pinnedFlags ++ [noTraceFlag]) (hf : IsFs D f fs Cs F) (hr : rmOk R 6 1 6) : CtT l mDa_knownFile none D R [.ref a, .int i] [sDa a pl w un fe dr f, Cs] (fun v S => ∃ t, ixo fs i = some t ∧ v = some (.ref t.1) ∧ S = [sDa a pl w un fe dr f, Cs]) (fun cc S => cc = 12 ∧ ixo fs i = none ∧ S = [sDa a pl w un fe dr f, Cs]) := by
  obtain ⟨r1, r2, r3, r4⟩ := hr
  obtain ⟨fa, ff, eCs, -⟩ := id hf
  refine CtT.of rfl (by decide) tkDa_knownFile (Nat.le_of_ble_eq_true rfl) (fun A => ?_)
  refine Ex.p rfl ?_
  refine Ex.gf 0 0 rfl rfl rfl ?_
  refine Ex.p rfl ?_
  refine Ex.cv (Mc := mFs_fileAt) (Rc := rm 0 0 0) (As := [.int i]) (rest := []) (Sr := [sDa a pl w un fe dr f]) (ic := 1) (jc := 0) (ci := 2) [1] [0] (ct_Fs_fileAt hf) rfl lk_0_207 lcFs_fileAt rfl rfl rfl rfl rfl (by decide) rfl (by rw [eCs]; rfl) rfl (by decide) ⟨by dsimp only [rm]; omega, by show 8 + (2 + 11) + 0 ≤ R.locals; omega⟩ (Nat.le_of_ble_eq_true rfl) (by dsimp only [rm]; omega) (by dsimp only [rm]; omega) ?_
  rintro v S1 ⟨rfl, rfl⟩
  cases hi : ixo fs i with
  | none =>
    refine Ex.p rfl ?_
    refine Ex.p rfl ?_
    refine Ex.nnN rfl ?_
    refine Ex.thr hfl rfl rfl rfl rfl rfl rfl rfl thrIO (by decide +kernel) lcDa_knownFile.1.2.1 (by dsimp only [rm]; omega) (by dsimp only [rm]; omega) (by dsimp only [rm]; omega) (by dsimp only [rm]; omega) (by omega) (by simp [Value.category]; omega) ?_
    exact ⟨rfl, rfl, rfl⟩
  | some t =>
    refine Ex.p rfl ?_
    refine Ex.p rfl ?_
    refine Ex.nnR rfl rfl ?_
    refine Ex.p rfl ?_
    exact Ex.rt (Ex.aret rfl rfl (Or.inr ⟨_, rfl⟩) (Nat.zero_le _) (Nat.zero_le _) rfl ⟨t, rfl, rfl, rfl⟩)
end DA0

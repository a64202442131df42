/-! law's wrappers -/
abbrev oA (D : xD) (o : Nat) (f : Nat → Int64) : va_W := [(o, .inl (D.2.2.1 2, 1, .inr (.inl f)))]
def lo : Value → Int64
  | .int i => i.toInt64
  | .long i => i
  | _ => 0
def WQ (D : xD) (a o : Nat) (r : AR) (v : Option Value) (S : List va_W) : Prop := ∃ S1 f1, S = oA D o f1 :: S1 ∧ IsDa D a r.2 S1 ∧ match r.1 with
  | .inl k => v = some (.int (nI k)) ∧ (k = 1 ∨ k = 2)
  | .inr y => v = some (.int 0) ∧ f1 0 = lo y
theorem WQ.ret {D : xD} {a o : Nat} {r : AR} {S1 : List va_W} {f1 : Nat → Int64} {y : Value} (hy : r.1 = .inr y) (h : IsDa D a r.2 S1) (hf : f1 0 = lo y) : WQ D a o r (some (.int 0)) (oA D o f1 :: S1) := ⟨S1, f1, rfl, h, by rw [hy]; exact ⟨rfl, hf⟩⟩
theorem WQ.thr {D : xD} {a o : Nat} {r : AR} {S1 : List va_W} {f1 : Nat → Int64} {k : Nat} (hy : r.1 = .inl k) (h : IsDa D a r.2 S1) (hk : k = 1 ∨ k = 2) : WQ D a o r (some (.int (nI k))) (oA D o f1 :: S1) := ⟨S1, f1, rfl, h, by rw [hy]; exact ⟨rfl, hk⟩⟩
theorem clIA : Cond.classLink "DrillArchiveLaw" 13 "java/lang/IllegalArgumentException" ∈ gTB := gl 696 (by decide +kernel) rfl
theorem clIO : Cond.classLink "DrillArchiveLaw" 19 "java/lang/IndexOutOfBoundsException" ∈ gTB := gl 772 (by decide +kernel) rfl
theorem aTool_v {z : SD} {d : Int64} {p : Bool} {v : Value} (h : (aTool z d p).1 = .inr v) : ∃ i : Int32, v = .int i := by
  unfold aTool at h
  repeat' (split at h)
  all_goals (cases h)
  all_goals (exact ⟨_, rfl⟩)
theorem aTool_k {z : SD} {d : Int64} {p : Bool} {k : Nat} (h : (aTool z d p).1 = .inl k) : k = 1 := by
  unfold aTool at h
  repeat' (split at h)
  all_goals (cases h)
  all_goals (rfl)
theorem aHole_v {z : SD} {i : Int32} {x y : Int64} {f9 t9 : Int32} {v : Value} (h : (aHole z i x y f9 t9).1 = .inr v) : ∃ i : Int32, v = .int i := by
  unfold aHole aHit at h
  repeat' (split at h)
  all_goals (cases h)
  all_goals (exact ⟨_, rfl⟩)
theorem aHole_k {z : SD} {i : Int32} {x y : Int64} {f9 t9 : Int32} {k : Nat} (h : (aHole z i x y f9 t9).1 = .inl k) : k = 1 ∨ k = 2 := by
  unfold aHole aHit at h
  repeat' (split at h)
  all_goals (cases h)
  all_goals (first | exact Or.inl rfl | exact Or.inr rfl)
theorem aSlot_v {z : SD} {i : Int32} {x y x2 y2 : Int64} {v : Value} (h : (aSlot z i x y x2 y2).1 = .inr v) : ∃ i : Int32, v = .int i := by
  unfold aSlot aHit at h
  repeat' (split at h)
  all_goals (cases h)
  all_goals (exact ⟨_, rfl⟩)
theorem aSlot_k {z : SD} {i : Int32} {x y x2 y2 : Int64} {k : Nat} (h : (aSlot z i x y x2 y2).1 = .inl k) : k = 1 ∨ k = 2 := by
  unfold aSlot aHit at h
  repeat' (split at h)
  all_goals (cases h)
  all_goals (first | exact Or.inl rfl | exact Or.inr rfl)
theorem aWrite_v {z : SD} {L i : Int32} {v : Value} (h : (aWrite z L i).1 = .inr v) : ∃ i : Int32, v = .int i := by
  unfold aWrite at h
  repeat' (split at h)
  all_goals (cases h)
  all_goals (exact ⟨_, rfl⟩)
theorem aWrite_k {z : SD} {L i : Int32} {k : Nat} (h : (aWrite z L i).1 = .inl k) : k = 1 := by
  unfold aWrite at h
  repeat' (split at h)
  all_goals (cases h)
  all_goals (rfl)
theorem aAt_v {z : SD} {k9 w9 : Int32} {v : Value} (h : (aAt z k9 w9).1 = .inr v) : ∃ i : Int64, v = .long i := by
  unfold aAt at h
  repeat' (split at h)
  all_goals (cases h)
  all_goals (exact ⟨_, rfl⟩)
theorem aAt_k {z : SD} {k9 w9 : Int32} {k : Nat} (h : (aAt z k9 w9).1 = .inl k) : k = 1 := by
  unfold aAt at h
  repeat' (split at h)
  all_goals (cases h)
  all_goals (rfl)
theorem aOrder_v {z : SD} {i k9 : Int32} {v : Value} (h : (aOrder z i k9).1 = .inr v) : ∃ i : Int32, v = .int i := by
  unfold aOrder at h
  repeat' (split at h)
  all_goals (cases h)
  all_goals (exact ⟨_, rfl⟩)
theorem aOrder_k {z : SD} {i k9 : Int32} {k : Nat} (h : (aOrder z i k9).1 = .inl k) : k = 1 := by
  unfold aOrder at h
  repeat' (split at h)
  all_goals (cases h)
  all_goals (rfl)
theorem aTravel_v {z : SD} {i : Int32} {v : Value} (h : (aTravel z i).1 = .inr v) : ∃ i : Int64, v = .long i := by
  unfold aTravel at h
  repeat' (split at h)
  all_goals (cases h)
  all_goals (exact ⟨_, rfl⟩)
theorem aTravel_k {z : SD} {i : Int32} {k : Nat} (h : (aTravel z i).1 = .inl k) : k = 1 := by
  unfold aTravel at h
  repeat' (split at h)
  all_goals (cases h)
  all_goals (rfl)
theorem aProved_v {z : SD} {i : Int32} {v : Value} (h : (aProved z i).1 = .inr v) : ∃ b : Bool, v = .int (b32 b) := by
  unfold aProved at h
  repeat' (split at h)
  all_goals (cases h)
  all_goals (first | exact ⟨_, rfl⟩ | exact ⟨true, rfl⟩ | exact ⟨false, rfl⟩)
theorem aProved_k {z : SD} {i : Int32} {k : Nat} (h : (aProved z i).1 = .inl k) : k = 1 := by
  unfold aProved at h
  repeat' (split at h)
  all_goals (cases h)
  all_goals (rfl)
theorem aFile_v {z : SD} {ro : Int32} {v : Value} (h : (aFile z ro).1 = .inr v) : ∃ i : Int32, v = .int i := by
  unfold aFile at h
  repeat' (split at h)
  all_goals (cases h)
  all_goals (exact ⟨_, rfl⟩)
theorem aFile_k {z : SD} {ro : Int32} {k : Nat} (h : (aFile z ro).1 = .inl k) : k = 1 := by
  unfold aFile at h
  repeat' (split at h)
  all_goals (cases h)
  all_goals (rfl)
theorem aByte_v {z : SD} {i b9 : Int32} {v : Value} (h : (aByte z i b9).1 = .inr v) : ∃ b : Bool, v = .int (b32 b) := by
  unfold aByte at h
  repeat' (split at h)
  all_goals (cases h)
  all_goals (first | exact ⟨_, rfl⟩ | exact ⟨true, rfl⟩ | exact ⟨false, rfl⟩)
theorem aByte_k {z : SD} {i b9 : Int32} {k : Nat} (h : (aByte z i b9).1 = .inl k) : k = 1 ∨ k = 2 := by
  unfold aByte at h
  repeat' (split at h)
  all_goals (cases h)
  all_goals (first | exact Or.inl rfl | exact Or.inr rfl)
theorem aArch_v {z : SD} {i : Int32} {v : Value} (h : (aArch z i).1 = .inr v) : ∃ i : Int32, v = .int i := by
  unfold aArch at h
  repeat' (split at h)
  all_goals (cases h)
  all_goals (exact ⟨_, rfl⟩)
theorem aArch_k {z : SD} {i : Int32} {k : Nat} (h : (aArch z i).1 = .inl k) : k = 1 := by
  unfold aArch at h
  repeat' (split at h)
  all_goals (cases h)
  all_goals (rfl)
theorem aSum_v {z : SD} {i : Int32} {v : Value} (h : (aSum z i).1 = .inr v) : ∃ i : Int64, v = .long i := by
  unfold aSum at h
  repeat' (split at h)
  all_goals (cases h)
  all_goals (exact ⟨_, rfl⟩)
theorem aSum_k {z : SD} {i : Int32} {k : Nat} (h : (aSum z i).1 = .inl k) : k = 1 := by
  unfold aSum at h
  repeat' (split at h)
  all_goals (cases h)
  all_goals (rfl)
section WR
variable {l : Launch} {D : xD} {R : Room}
theorem ct_La_tool {a o : Nat} {z : SD} {d : Int64} {p : Bool} {S : List va_W} {f0 : Nat → Int64} (hfl : l.flags = pinnedFlags ++ [noTraceFlag]) (h : IsDa D a z S) (hr : rmOk R 7 5 28) : CtT l mLa_tool (some [((0 : Nat), (11 : Nat), (14 : Nat), (13 : Nat))]) D R [.ref a, .long d, .int (b32 p), .ref o] (oA D o f0 :: S) (WQ D a o (aTool z d p)) (fun _ _ => False) := by
  obtain ⟨r1, r2, r3, r4⟩ := hr
  obtain ⟨pl, w, un, fe, dr, f, r, kp, kf, kt, c0, c1, c2, xs, ts, hs, fs, Cp, Co, Cu, Cf, Cd, T, Cs, F, rfl, h9⟩ := id h
  refine CtT.of rfl (by decide) tkLa_tool (Nat.le_of_ble_eq_true rfl) (fun A => ?_)
  refine Ex.p rfl ?_
  refine Ex.p rfl ?_
  refine Ex.p rfl ?_
  refine Ex.p rfl ?_
  refine Ex.p rfl ?_
  refine Ex.cvT (Mc := mDa_tool) (Rc := rm 6 5 28) (As := [.long d, .int (b32 p)]) (rest := [.int 0, .ref o]) (Sr := [oA D o f0]) (ic := 1) (jc := 0) (ci := 0) [1, 2, 3, 4, 5, 6, 7, 8, 9, 10, 11] [0] (ct_Da_tool hfl h (rm_ok _ _ _)) rfl lk_13_7 lcDa_tool rfl rfl rfl rfl rfl (by decide) rfl rfl rfl (by decide) ⟨by dsimp only [rm]; omega, by show 8 + (4 + 11) + 240 ≤ R.locals; omega⟩ (Nat.le_of_ble_eq_true rfl) (by dsimp only [rm]; omega) (by dsimp only [rm]; omega) ?_ ?_
  · rintro v S1 ⟨y, hy, rfl, hI⟩
    obtain ⟨v9, rfl⟩ := aTool_v hy
    refine Ex.p rfl ?_
    refine Ex.las 0 0 0 rfl rfl rfl rfl (by decide) ?_
    refine Ex.p rfl ?_
    refine Ex.p rfl ?_
    refine Ex.rt (Ex.iret rfl rfl (by dsimp only [rm]; omega) (by dsimp only [rm]; omega) rfl (WQ.ret hy hI ?_))
    rfl
  · rintro x9 cc S1 ⟨k, hk, rfl, hI⟩
    have hk9 := aTool_k hk
    subst hk9
    refine Et.catch (j := 0) (X := "java/lang/IllegalArgumentException") lwLa_tool rfl (by decide) rfl (by decide) (by decide) clIA (fun i r h => absurd h (Nat.not_lt_zero _)) ?_
    refine Ex.p rfl ?_
    refine Ex.p rfl ?_
    exact Ex.rt (Ex.iret rfl rfl (by dsimp only [rm]; omega) (by dsimp only [rm]; omega) rfl (WQ.thr hk hI (Or.inl rfl)))
theorem ct_La_hole {a o : Nat} {z : SD} {i : Int32} {x y : Int64} {f9 t9 : Int32} {S : List va_W} {f0 : Nat → Int64} (hfl : l.flags = pinnedFlags ++ [noTraceFlag]) (h : IsDa D a z S) (hr : rmOk R 8 9 133) : CtT l mLa_hole (some [((0 : Nat), (17 : Nat), (20 : Nat), (19 : Nat)), ((0 : Nat), (17 : Nat), (24 : Nat), (13 : Nat))]) D R [.ref a, .int i, .long x, .long y, .int f9, .int t9, .ref o] (oA D o f0 :: S) (WQ D a o (aHole z i x y f9 t9)) (fun _ _ => False) := by
  obtain ⟨r1, r2, r3, r4⟩ := hr
  obtain ⟨pl, w, un, fe, dr, f, r, kp, kf, kt, c0, c1, c2, xs, ts, hs, fs, Cp, Co, Cu, Cf, Cd, T, Cs, F, rfl, h9⟩ := id h
  refine CtT.of rfl (by decide) tkLa_hole (Nat.le_of_ble_eq_true rfl) (fun A => ?_)
  refine Ex.p rfl ?_
  refine Ex.p rfl ?_
  refine Ex.p rfl ?_
  refine Ex.p rfl ?_
  refine Ex.p rfl ?_
  refine Ex.p rfl ?_
  refine Ex.p rfl ?_
  refine Ex.p rfl ?_
  refine Ex.cvT (Mc := mDa_hole) (Rc := rm 7 9 133) (As := [.int i, .long x, .long y, .int f9, .int t9]) (rest := [.int 0, .ref o]) (Sr := [oA D o f0]) (ic := 1) (jc := 0) (ci := 0) [1, 2, 3, 4, 5, 6, 7, 8, 9, 10, 11] [0] (ct_Da_hole hfl h (rm_ok _ _ _)) rfl lk_13_15 lcDa_hole rfl rfl rfl rfl rfl (by decide) rfl rfl rfl (by decide) ⟨by dsimp only [rm]; omega, by show 8 + (8 + 11) + 280 ≤ R.locals; omega⟩ (Nat.le_of_ble_eq_true rfl) (by dsimp only [rm]; omega) (by dsimp only [rm]; omega) ?_ ?_
  · rintro v S1 ⟨y, hy, rfl, hI⟩
    obtain ⟨v9, rfl⟩ := aHole_v hy
    refine Ex.p rfl ?_
    refine Ex.las 0 0 0 rfl rfl rfl rfl (by decide) ?_
    refine Ex.p rfl ?_
    refine Ex.p rfl ?_
    refine Ex.rt (Ex.iret rfl rfl (by dsimp only [rm]; omega) (by dsimp only [rm]; omega) rfl (WQ.ret hy hI ?_))
    rfl
  · rintro x9 cc S1 ⟨k, hk, rfl, hI⟩
    have hk9 := aHole_k hk
    rcases hk9 with hk9 | hk9
    · subst hk9
      refine Et.catch (j := 0) (X := "java/lang/IndexOutOfBoundsException") lwLa_hole rfl (by decide) rfl (by decide) (by decide) clIO (fun i r h => absurd h (Nat.not_lt_zero _)) ?_
      refine Ex.p rfl ?_
      refine Ex.p rfl ?_
      exact Ex.rt (Ex.iret rfl rfl (by dsimp only [rm]; omega) (by dsimp only [rm]; omega) rfl (WQ.thr hk hI (Or.inl rfl)))
    · subst hk9
      refine Et.catch (j := 1) (X := "java/lang/IllegalArgumentException") lwLa_hole rfl (by decide) rfl (by decide) (by decide) clIA (fun i r h h2 => ?_) ?_
      · have hi0 : i = 0 := by omega
        subst hi0
        cases h2
        exact ⟨by decide, rfl, clIO⟩
      · refine Ex.p rfl ?_
        refine Ex.p rfl ?_
        exact Ex.rt (Ex.iret rfl rfl (by dsimp only [rm]; omega) (by dsimp only [rm]; omega) rfl (WQ.thr hk hI (Or.inr rfl)))
theorem ct_La_slot {a o : Nat} {z : SD} {i : Int32} {x y x2 y2 : Int64} {S : List va_W} {f0 : Nat → Int64} (hfl : l.flags = pinnedFlags ++ [noTraceFlag]) (h : IsDa D a z S) (hr : rmOk R 8 9 133) : CtT l mLa_slot (some [((0 : Nat), (17 : Nat), (20 : Nat), (19 : Nat)), ((0 : Nat), (17 : Nat), (24 : Nat), (13 : Nat))]) D R [.ref a, .int i, .long x, .long y, .long x2, .long y2, .ref o] (oA D o f0 :: S) (WQ D a o (aSlot z i x y x2 y2)) (fun _ _ => False) := by
  obtain ⟨r1, r2, r3, r4⟩ := hr
  obtain ⟨pl, w, un, fe, dr, f, r, kp, kf, kt, c0, c1, c2, xs, ts, hs, fs, Cp, Co, Cu, Cf, Cd, T, Cs, F, rfl, h9⟩ := id h
  refine CtT.of rfl (by decide) tkLa_slot (Nat.le_of_ble_eq_true rfl) (fun A => ?_)
  refine Ex.p rfl ?_
  refine Ex.p rfl ?_
  refine Ex.p rfl ?_
  refine Ex.p rfl ?_
  refine Ex.p rfl ?_
  refine Ex.p rfl ?_
  refine Ex.p rfl ?_
  refine Ex.p rfl ?_
  refine Ex.cvT (Mc := mDa_slot) (Rc := rm 7 9 133) (As := [.int i, .long x, .long y, .long x2, .long y2]) (rest := [.int 0, .ref o]) (Sr := [oA D o f0]) (ic := 1) (jc := 0) (ci := 0) [1, 2, 3, 4, 5, 6, 7, 8, 9, 10, 11] [0] (ct_Da_slot hfl h (rm_ok _ _ _)) rfl lk_13_21 lcDa_slot rfl rfl rfl rfl rfl (by decide) rfl rfl rfl (by decide) ⟨by dsimp only [rm]; omega, by show 8 + (10 + 11) + 280 ≤ R.locals; omega⟩ (Nat.le_of_ble_eq_true rfl) (by dsimp only [rm]; omega) (by dsimp only [rm]; omega) ?_ ?_
  · rintro v S1 ⟨y, hy, rfl, hI⟩
    obtain ⟨v9, rfl⟩ := aSlot_v hy
    refine Ex.p rfl ?_
    refine Ex.las 0 0 0 rfl rfl rfl rfl (by decide) ?_
    refine Ex.p rfl ?_
    refine Ex.p rfl ?_
    refine Ex.rt (Ex.iret rfl rfl (by dsimp only [rm]; omega) (by dsimp only [rm]; omega) rfl (WQ.ret hy hI ?_))
    rfl
  · rintro x9 cc S1 ⟨k, hk, rfl, hI⟩
    have hk9 := aSlot_k hk
    rcases hk9 with hk9 | hk9
    · subst hk9
      refine Et.catch (j := 0) (X := "java/lang/IndexOutOfBoundsException") lwLa_slot rfl (by decide) rfl (by decide) (by decide) clIO (fun i r h => absurd h (Nat.not_lt_zero _)) ?_
      refine Ex.p rfl ?_
      refine Ex.p rfl ?_
      exact Ex.rt (Ex.iret rfl rfl (by dsimp only [rm]; omega) (by dsimp only [rm]; omega) rfl (WQ.thr hk hI (Or.inl rfl)))
    · subst hk9
      refine Et.catch (j := 1) (X := "java/lang/IllegalArgumentException") lwLa_slot rfl (by decide) rfl (by decide) (by decide) clIA (fun i r h h2 => ?_) ?_
      · have hi0 : i = 0 := by omega
        subst hi0
        cases h2
        exact ⟨by decide, rfl, clIO⟩
      · refine Ex.p rfl ?_
        refine Ex.p rfl ?_
        exact Ex.rt (Ex.iret rfl rfl (by dsimp only [rm]; omega) (by dsimp only [rm]; omega) rfl (WQ.thr hk hI (Or.inr rfl)))
theorem ct_La_write {a o : Nat} {z : SD} {L i : Int32} {S : List va_W} {f0 : Nat → Int64} (hfl : l.flags = pinnedFlags ++ [noTraceFlag]) (h : IsDa D a z S) (hr : rmOk R 9 786 12580) : CtT l mLa_write (some [((0 : Nat), (10 : Nat), (13 : Nat), (19 : Nat))]) D R [.ref a, .int L, .int i, .ref o] (oA D o f0 :: S) (WQ D a o (aWrite z L i)) (fun _ _ => False) := by
  obtain ⟨r1, r2, r3, r4⟩ := hr
  obtain ⟨pl, w, un, fe, dr, f, r, kp, kf, kt, c0, c1, c2, xs, ts, hs, fs, Cp, Co, Cu, Cf, Cd, T, Cs, F, rfl, h9⟩ := id h
  refine CtT.of rfl (by decide) tkLa_write (Nat.le_of_ble_eq_true rfl) (fun A => ?_)
  refine Ex.p rfl ?_
  refine Ex.p rfl ?_
  refine Ex.p rfl ?_
  refine Ex.p rfl ?_
  refine Ex.p rfl ?_
  refine Ex.cvT (Mc := mDa_write) (Rc := rm 8 786 12580) (As := [.int L, .int i]) (rest := [.int 0, .ref o]) (Sr := [oA D o f0]) (ic := 1) (jc := 0) (ci := 0) [1, 2, 3, 4, 5, 6, 7, 8, 9, 10, 11] [0] (ct_Da_write hfl h (rm_ok _ _ _)) rfl lk_13_25 lcDa_write rfl rfl rfl rfl rfl (by decide) rfl rfl rfl (by decide) ⟨by dsimp only [rm]; omega, by show 8 + (5 + 11) + 320 ≤ R.locals; omega⟩ (Nat.le_of_ble_eq_true rfl) (by dsimp only [rm]; omega) (by dsimp only [rm]; omega) ?_ ?_
  · rintro v S1 ⟨y, hy, rfl, hI⟩
    obtain ⟨v9, rfl⟩ := aWrite_v hy
    refine Ex.p rfl ?_
    refine Ex.las 0 0 0 rfl rfl rfl rfl (by decide) ?_
    refine Ex.p rfl ?_
    refine Ex.p rfl ?_
    refine Ex.rt (Ex.iret rfl rfl (by dsimp only [rm]; omega) (by dsimp only [rm]; omega) rfl (WQ.ret hy hI ?_))
    rfl
  · rintro x9 cc S1 ⟨k, hk, rfl, hI⟩
    have hk9 := aWrite_k hk
    subst hk9
    refine Et.catch (j := 0) (X := "java/lang/IndexOutOfBoundsException") lwLa_write rfl (by decide) rfl (by decide) (by decide) clIO (fun i r h => absurd h (Nat.not_lt_zero _)) ?_
    refine Ex.p rfl ?_
    refine Ex.p rfl ?_
    exact Ex.rt (Ex.iret rfl rfl (by dsimp only [rm]; omega) (by dsimp only [rm]; omega) rfl (WQ.thr hk hI (Or.inl rfl)))
theorem ct_La_at {a o : Nat} {z : SD} {k9 w9 : Int32} {S : List va_W} {f0 : Nat → Int64} (hfl : l.flags = pinnedFlags ++ [noTraceFlag]) (h : IsDa D a z S) (hr : rmOk R 7 1 6) : CtT l mLa_at (some [((0 : Nat), (9 : Nat), (12 : Nat), (19 : Nat))]) D R [.ref a, .int k9, .int w9, .ref o] (oA D o f0 :: S) (WQ D a o (aAt z k9 w9)) (fun _ _ => False) := by
  obtain ⟨r1, r2, r3, r4⟩ := hr
  obtain ⟨pl, w, un, fe, dr, f, r, kp, kf, kt, c0, c1, c2, xs, ts, hs, fs, Cp, Co, Cu, Cf, Cd, T, Cs, F, rfl, h9⟩ := id h
  refine CtT.of rfl (by decide) tkLa_at (Nat.le_of_ble_eq_true rfl) (fun A => ?_)
  refine Ex.p rfl ?_
  refine Ex.p rfl ?_
  refine Ex.p rfl ?_
  refine Ex.p rfl ?_
  refine Ex.p rfl ?_
  refine Ex.cvT (Mc := mDa_at) (Rc := rm 6 1 6) (As := [.int k9, .int w9]) (rest := [.int 0, .ref o]) (Sr := [oA D o f0]) (ic := 1) (jc := 0) (ci := 0) [1, 2, 3, 4, 5, 6, 7, 8, 9, 10, 11] [0] (ct_Da_at hfl h (rm_ok _ _ _)) rfl lk_13_29 lcDa_at rfl rfl rfl rfl rfl (by decide) rfl rfl rfl (by decide) ⟨by dsimp only [rm]; omega, by show 8 + (4 + 11) + 240 ≤ R.locals; omega⟩ (Nat.le_of_ble_eq_true rfl) (by dsimp only [rm]; omega) (by dsimp only [rm]; omega) ?_ ?_
  · rintro v S1 ⟨y, hy, rfl, hI⟩
    obtain ⟨v9, rfl⟩ := aAt_v hy
    refine Ex.las 0 0 0 rfl rfl rfl rfl (by decide) ?_
    refine Ex.p rfl ?_
    refine Ex.p rfl ?_
    refine Ex.rt (Ex.iret rfl rfl (by dsimp only [rm]; omega) (by dsimp only [rm]; omega) rfl (WQ.ret hy hI ?_))
    rfl
  · rintro x9 cc S1 ⟨k, hk, rfl, hI⟩
    have hk9 := aAt_k hk
    subst hk9
    refine Et.catch (j := 0) (X := "java/lang/IndexOutOfBoundsException") lwLa_at rfl (by decide) rfl (by decide) (by decide) clIO (fun i r h => absurd h (Nat.not_lt_zero _)) ?_
    refine Ex.p rfl ?_
    refine Ex.p rfl ?_
    exact Ex.rt (Ex.iret rfl rfl (by dsimp only [rm]; omega) (by dsimp only [rm]; omega) rfl (WQ.thr hk hI (Or.inl rfl)))
theorem ct_La_order {a o : Nat} {z : SD} {i k9 : Int32} {S : List va_W} {f0 : Nat → Int64} (hfl : l.flags = pinnedFlags ++ [noTraceFlag]) (h : IsDa D a z S) (hr : rmOk R 8 16 246) : CtT l mLa_order (some [((0 : Nat), (10 : Nat), (13 : Nat), (19 : Nat))]) D R [.ref a, .int i, .int k9, .ref o] (oA D o f0 :: S) (WQ D a o (aOrder z i k9)) (fun _ _ => False) := by
  obtain ⟨r1, r2, r3, r4⟩ := hr
  obtain ⟨pl, w, un, fe, dr, f, r, kp, kf, kt, c0, c1, c2, xs, ts, hs, fs, Cp, Co, Cu, Cf, Cd, T, Cs, F, rfl, h9⟩ := id h
  refine CtT.of rfl (by decide) tkLa_order (Nat.le_of_ble_eq_true rfl) (fun A => ?_)
  refine Ex.p rfl ?_
  refine Ex.p rfl ?_
  refine Ex.p rfl ?_
  refine Ex.p rfl ?_
  refine Ex.p rfl ?_
  refine Ex.cvT (Mc := mDa_order) (Rc := rm 7 16 246) (As := [.int i, .int k9]) (rest := [.int 0, .ref o]) (Sr := [oA D o f0]) (ic := 1) (jc := 0) (ci := 0) [1, 2, 3, 4, 5, 6, 7, 8, 9, 10, 11] [0] (ct_Da_order hfl h (rm_ok _ _ _)) rfl lk_13_33 lcDa_order rfl rfl rfl rfl rfl (by decide) rfl rfl rfl (by decide) ⟨by dsimp only [rm]; omega, by show 8 + (4 + 11) + 280 ≤ R.locals; omega⟩ (Nat.le_of_ble_eq_true rfl) (by dsimp only [rm]; omega) (by dsimp only [rm]; omega) ?_ ?_
  · rintro v S1 ⟨y, hy, rfl, hI⟩
    obtain ⟨v9, rfl⟩ := aOrder_v hy
    refine Ex.p rfl ?_
    refine Ex.las 0 0 0 rfl rfl rfl rfl (by decide) ?_
    refine Ex.p rfl ?_
    refine Ex.p rfl ?_
    refine Ex.rt (Ex.iret rfl rfl (by dsimp only [rm]; omega) (by dsimp only [rm]; omega) rfl (WQ.ret hy hI ?_))
    rfl
  · rintro x9 cc S1 ⟨k, hk, rfl, hI⟩
    have hk9 := aOrder_k hk
    subst hk9
    refine Et.catch (j := 0) (X := "java/lang/IndexOutOfBoundsException") lwLa_order rfl (by decide) rfl (by decide) (by decide) clIO (fun i r h => absurd h (Nat.not_lt_zero _)) ?_
    refine Ex.p rfl ?_
    refine Ex.p rfl ?_
    exact Ex.rt (Ex.iret rfl rfl (by dsimp only [rm]; omega) (by dsimp only [rm]; omega) rfl (WQ.thr hk hI (Or.inl rfl)))
theorem ct_La_travel {a o : Nat} {z : SD} {i : Int32} {S : List va_W} {f0 : Nat → Int64} (hfl : l.flags = pinnedFlags ++ [noTraceFlag]) (h : IsDa D a z S) (hr : rmOk R 8 16 246) : CtT l mLa_travel (some [((0 : Nat), (8 : Nat), (11 : Nat), (19 : Nat))]) D R [.ref a, .int i, .ref o] (oA D o f0 :: S) (WQ D a o (aTravel z i)) (fun _ _ => False) := by
  obtain ⟨r1, r2, r3, r4⟩ := hr
  obtain ⟨pl, w, un, fe, dr, f, r, kp, kf, kt, c0, c1, c2, xs, ts, hs, fs, Cp, Co, Cu, Cf, Cd, T, Cs, F, rfl, h9⟩ := id h
  refine CtT.of rfl (by decide) tkLa_travel (Nat.le_of_ble_eq_true rfl) (fun A => ?_)
  refine Ex.p rfl ?_
  refine Ex.p rfl ?_
  refine Ex.p rfl ?_
  refine Ex.p rfl ?_
  refine Ex.cvT (Mc := mDa_travel) (Rc := rm 7 16 246) (As := [.int i]) (rest := [.int 0, .ref o]) (Sr := [oA D o f0]) (ic := 1) (jc := 0) (ci := 0) [1, 2, 3, 4, 5, 6, 7, 8, 9, 10, 11] [0] (ct_Da_travel hfl h (rm_ok _ _ _)) rfl lk_13_36 lcDa_travel rfl rfl rfl rfl rfl (by decide) rfl rfl rfl (by decide) ⟨by dsimp only [rm]; omega, by show 8 + (3 + 11) + 280 ≤ R.locals; omega⟩ (Nat.le_of_ble_eq_true rfl) (by dsimp only [rm]; omega) (by dsimp only [rm]; omega) ?_ ?_
  · rintro v S1 ⟨y, hy, rfl, hI⟩
    obtain ⟨v9, rfl⟩ := aTravel_v hy
    refine Ex.las 0 0 0 rfl rfl rfl rfl (by decide) ?_
    refine Ex.p rfl ?_
    refine Ex.p rfl ?_
    refine Ex.rt (Ex.iret rfl rfl (by dsimp only [rm]; omega) (by dsimp only [rm]; omega) rfl (WQ.ret hy hI ?_))
    rfl
  · rintro x9 cc S1 ⟨k, hk, rfl, hI⟩
    have hk9 := aTravel_k hk
    subst hk9
    refine Et.catch (j := 0) (X := "java/lang/IndexOutOfBoundsException") lwLa_travel rfl (by decide) rfl (by decide) (by decide) clIO (fun i r h => absurd h (Nat.not_lt_zero _)) ?_
    refine Ex.p rfl ?_
    refine Ex.p rfl ?_
    exact Ex.rt (Ex.iret rfl rfl (by dsimp only [rm]; omega) (by dsimp only [rm]; omega) rfl (WQ.thr hk hI (Or.inl rfl)))
theorem ct_La_proved {a o : Nat} {z : SD} {i : Int32} {S : List va_W} {f0 : Nat → Int64} (hfl : l.flags = pinnedFlags ++ [noTraceFlag]) (h : IsDa D a z S) (hr : rmOk R 8 1 6) : CtT l mLa_proved (some [((0 : Nat), (16 : Nat), (19 : Nat), (19 : Nat))]) D R [.ref a, .int i, .ref o] (oA D o f0 :: S) (WQ D a o (aProved z i)) (fun _ _ => False) := by
  obtain ⟨r1, r2, r3, r4⟩ := hr
  obtain ⟨pl, w, un, fe, dr, f, r, kp, kf, kt, c0, c1, c2, xs, ts, hs, fs, Cp, Co, Cu, Cf, Cd, T, Cs, F, rfl, h9⟩ := id h
  refine CtT.of rfl (by decide) tkLa_proved (Nat.le_of_ble_eq_true rfl) (fun A => ?_)
  refine Ex.p rfl ?_
  refine Ex.p rfl ?_
  refine Ex.p rfl ?_
  refine Ex.p rfl ?_
  refine Ex.cvT (Mc := mDa_proved) (Rc := rm 7 1 6) (As := [.int i]) (rest := [.int 0, .ref o]) (Sr := [oA D o f0]) (ic := 1) (jc := 0) (ci := 0) [1, 2, 3, 4, 5, 6, 7, 8, 9, 10, 11] [0] (ct_Da_proved hfl h (rm_ok _ _ _)) rfl lk_13_40 lcDa_proved rfl rfl rfl rfl rfl (by decide) rfl rfl rfl (by decide) ⟨by dsimp only [rm]; omega, by show 8 + (2 + 11) + 280 ≤ R.locals; omega⟩ (Nat.le_of_ble_eq_true rfl) (by dsimp only [rm]; omega) (by dsimp only [rm]; omega) ?_ ?_
  · rintro v S1 ⟨y, hy, rfl, hI⟩
    obtain ⟨v9, rfl⟩ := aProved_v hy
    cases v9 with
    | false =>
      refine Ex.br rfl (fun _ => ?_) (fun c => absurd rfl c)
      refine Ex.p rfl ?_
      refine Ex.las 0 0 0 rfl rfl rfl rfl (by decide) ?_
      refine Ex.p rfl ?_
      refine Ex.p rfl ?_
      refine Ex.rt (Ex.iret rfl rfl (by dsimp only [rm]; omega) (by dsimp only [rm]; omega) rfl (WQ.ret hy hI ?_))
      rfl
    | true =>
      refine Ex.br rfl (fun c => absurd c (show (1 : Int32) ≠ 0 by decide)) (fun _ => ?_)
      refine Ex.p rfl ?_
      refine Ex.p rfl ?_
      refine Ex.las 0 0 0 rfl rfl rfl rfl (by decide) ?_
      refine Ex.p rfl ?_
      refine Ex.p rfl ?_
      refine Ex.rt (Ex.iret rfl rfl (by dsimp only [rm]; omega) (by dsimp only [rm]; omega) rfl (WQ.ret hy hI ?_))
      rfl
  · rintro x9 cc S1 ⟨k, hk, rfl, hI⟩
    have hk9 := aProved_k hk
    subst hk9
    refine Et.catch (j := 0) (X := "java/lang/IndexOutOfBoundsException") lwLa_proved rfl (by decide) rfl (by decide) (by decide) clIO (fun i r h => absurd h (Nat.not_lt_zero _)) ?_
    refine Ex.p rfl ?_
    refine Ex.p rfl ?_
    exact Ex.rt (Ex.iret rfl rfl (by dsimp only [rm]; omega) (by dsimp only [rm]; omega) rfl (WQ.thr hk hI (Or.inl rfl)))
theorem ct_La_file {a o : Nat} {z : SD} {ro : Int32} {S : List va_W} {f0 : Nat → Int64} (hfl : l.flags = pinnedFlags ++ [noTraceFlag]) (h : IsDa D a z S) (hr : rmOk R 7 3 14) : CtT l mLa_file (some [((0 : Nat), (9 : Nat), (12 : Nat), (13 : Nat))]) D R [.ref a, .int ro, .ref o] (oA D o f0 :: S) (WQ D a o (aFile z ro)) (fun _ _ => False) := by
  obtain ⟨r1, r2, r3, r4⟩ := hr
  obtain ⟨pl, w, un, fe, dr, f, r, kp, kf, kt, c0, c1, c2, xs, ts, hs, fs, Cp, Co, Cu, Cf, Cd, T, Cs, F, rfl, h9⟩ := id h
  refine CtT.of rfl (by decide) tkLa_file (Nat.le_of_ble_eq_true rfl) (fun A => ?_)
  refine Ex.p rfl ?_
  refine Ex.p rfl ?_
  refine Ex.p rfl ?_
  refine Ex.p rfl ?_
  refine Ex.cvT (Mc := mDa_file) (Rc := rm 6 3 14) (As := [.int ro]) (rest := [.int 0, .ref o]) (Sr := [oA D o f0]) (ic := 1) (jc := 0) (ci := 0) [1, 2, 3, 4, 5, 6, 7, 8, 9, 10, 11] [0] (ct_Da_file hfl h (rm_ok _ _ _)) rfl lk_13_44 lcDa_file rfl rfl rfl rfl rfl (by decide) rfl rfl rfl (by decide) ⟨by dsimp only [rm]; omega, by show 8 + (2 + 11) + 240 ≤ R.locals; omega⟩ (Nat.le_of_ble_eq_true rfl) (by dsimp only [rm]; omega) (by dsimp only [rm]; omega) ?_ ?_
  · rintro v S1 ⟨y, hy, rfl, hI⟩
    obtain ⟨v9, rfl⟩ := aFile_v hy
    refine Ex.p rfl ?_
    refine Ex.las 0 0 0 rfl rfl rfl rfl (by decide) ?_
    refine Ex.p rfl ?_
    refine Ex.p rfl ?_
    refine Ex.rt (Ex.iret rfl rfl (by dsimp only [rm]; omega) (by dsimp only [rm]; omega) rfl (WQ.ret hy hI ?_))
    rfl
  · rintro x9 cc S1 ⟨k, hk, rfl, hI⟩
    have hk9 := aFile_k hk
    subst hk9
    refine Et.catch (j := 0) (X := "java/lang/IllegalArgumentException") lwLa_file rfl (by decide) rfl (by decide) (by decide) clIA (fun i r h => absurd h (Nat.not_lt_zero _)) ?_
    refine Ex.p rfl ?_
    refine Ex.p rfl ?_
    exact Ex.rt (Ex.iret rfl rfl (by dsimp only [rm]; omega) (by dsimp only [rm]; omega) rfl (WQ.thr hk hI (Or.inl rfl)))
theorem ct_La_byteOf {a o : Nat} {z : SD} {i b9 : Int32} {S : List va_W} {f0 : Nat → Int64} (hfl : l.flags = pinnedFlags ++ [noTraceFlag]) (h : IsDa D a z S) (hr : rmOk R 8 76 1206) : CtT l mLa_byteOf (some [((0 : Nat), (17 : Nat), (20 : Nat), (19 : Nat)), ((0 : Nat), (17 : Nat), (24 : Nat), (13 : Nat))]) D R [.ref a, .int i, .int b9, .ref o] (oA D o f0 :: S) (WQ D a o (aByte z i b9)) (fun _ _ => False) := by
  obtain ⟨r1, r2, r3, r4⟩ := hr
  obtain ⟨pl, w, un, fe, dr, f, r, kp, kf, kt, c0, c1, c2, xs, ts, hs, fs, Cp, Co, Cu, Cf, Cd, T, Cs, F, rfl, h9⟩ := id h
  refine CtT.of rfl (by decide) tkLa_byteOf (Nat.le_of_ble_eq_true rfl) (fun A => ?_)
  refine Ex.p rfl ?_
  refine Ex.p rfl ?_
  refine Ex.p rfl ?_
  refine Ex.p rfl ?_
  refine Ex.p rfl ?_
  refine Ex.cvT (Mc := mDa_byteOf) (Rc := rm 7 76 1206) (As := [.int i, .int b9]) (rest := [.int 0, .ref o]) (Sr := [oA D o f0]) (ic := 1) (jc := 0) (ci := 0) [1, 2, 3, 4, 5, 6, 7, 8, 9, 10, 11] [0] (ct_Da_byteOf hfl h (rm_ok _ _ _)) rfl lk_13_48 lcDa_byteOf rfl rfl rfl rfl rfl (by decide) rfl rfl rfl (by decide) ⟨by dsimp only [rm]; omega, by show 8 + (4 + 11) + 280 ≤ R.locals; omega⟩ (Nat.le_of_ble_eq_true rfl) (by dsimp only [rm]; omega) (by dsimp only [rm]; omega) ?_ ?_
  · rintro v S1 ⟨y, hy, rfl, hI⟩
    obtain ⟨v9, rfl⟩ := aByte_v hy
    cases v9 with
    | false =>
      refine Ex.br rfl (fun _ => ?_) (fun c => absurd rfl c)
      refine Ex.p rfl ?_
      refine Ex.las 0 0 0 rfl rfl rfl rfl (by decide) ?_
      refine Ex.p rfl ?_
      refine Ex.p rfl ?_
      refine Ex.rt (Ex.iret rfl rfl (by dsimp only [rm]; omega) (by dsimp only [rm]; omega) rfl (WQ.ret hy hI ?_))
      rfl
    | true =>
      refine Ex.br rfl (fun c => absurd c (show (1 : Int32) ≠ 0 by decide)) (fun _ => ?_)
      refine Ex.p rfl ?_
      refine Ex.p rfl ?_
      refine Ex.las 0 0 0 rfl rfl rfl rfl (by decide) ?_
      refine Ex.p rfl ?_
      refine Ex.p rfl ?_
      refine Ex.rt (Ex.iret rfl rfl (by dsimp only [rm]; omega) (by dsimp only [rm]; omega) rfl (WQ.ret hy hI ?_))
      rfl
  · rintro x9 cc S1 ⟨k, hk, rfl, hI⟩
    have hk9 := aByte_k hk
    rcases hk9 with hk9 | hk9
    · subst hk9
      refine Et.catch (j := 0) (X := "java/lang/IndexOutOfBoundsException") lwLa_byteOf rfl (by decide) rfl (by decide) (by decide) clIO (fun i r h => absurd h (Nat.not_lt_zero _)) ?_
      refine Ex.p rfl ?_
      refine Ex.p rfl ?_
      exact Ex.rt (Ex.iret rfl rfl (by dsimp only [rm]; omega) (by dsimp only [rm]; omega) rfl (WQ.thr hk hI (Or.inl rfl)))
    · subst hk9
      refine Et.catch (j := 1) (X := "java/lang/IllegalArgumentException") lwLa_byteOf rfl (by decide) rfl (by decide) (by decide) clIA (fun i r h h2 => ?_) ?_
      · have hi0 : i = 0 := by omega
        subst hi0
        cases h2
        exact ⟨by decide, rfl, clIO⟩
      · refine Ex.p rfl ?_
        refine Ex.p rfl ?_
        exact Ex.rt (Ex.iret rfl rfl (by dsimp only [rm]; omega) (by dsimp only [rm]; omega) rfl (WQ.thr hk hI (Or.inr rfl)))
theorem ct_La_archive {a o : Nat} {z : SD} {i : Int32} {S : List va_W} {f0 : Nat → Int64} (hfl : l.flags = pinnedFlags ++ [noTraceFlag]) (h : IsDa D a z S) (hr : rmOk R 7 1 6) : CtT l mLa_archive (some [((0 : Nat), (9 : Nat), (12 : Nat), (19 : Nat))]) D R [.ref a, .int i, .ref o] (oA D o f0 :: S) (WQ D a o (aArch z i)) (fun _ _ => False) := by
  obtain ⟨r1, r2, r3, r4⟩ := hr
  obtain ⟨pl, w, un, fe, dr, f, r, kp, kf, kt, c0, c1, c2, xs, ts, hs, fs, Cp, Co, Cu, Cf, Cd, T, Cs, F, rfl, h9⟩ := id h
  refine CtT.of rfl (by decide) tkLa_archive (Nat.le_of_ble_eq_true rfl) (fun A => ?_)
  refine Ex.p rfl ?_
  refine Ex.p rfl ?_
  refine Ex.p rfl ?_
  refine Ex.p rfl ?_
  refine Ex.cvT (Mc := mDa_archive) (Rc := rm 6 1 6) (As := [.int i]) (rest := [.int 0, .ref o]) (Sr := [oA D o f0]) (ic := 1) (jc := 0) (ci := 0) [1, 2, 3, 4, 5, 6, 7, 8, 9, 10, 11] [0] (ct_Da_archive hfl h (rm_ok _ _ _)) rfl lk_13_52 lcDa_archive rfl rfl rfl rfl rfl (by decide) rfl rfl rfl (by decide) ⟨by dsimp only [rm]; omega, by show 8 + (2 + 11) + 240 ≤ R.locals; omega⟩ (Nat.le_of_ble_eq_true rfl) (by dsimp only [rm]; omega) (by dsimp only [rm]; omega) ?_ ?_
  · rintro v S1 ⟨y, hy, rfl, hI⟩
    obtain ⟨v9, rfl⟩ := aArch_v hy
    refine Ex.p rfl ?_
    refine Ex.las 0 0 0 rfl rfl rfl rfl (by decide) ?_
    refine Ex.p rfl ?_
    refine Ex.p rfl ?_
    refine Ex.rt (Ex.iret rfl rfl (by dsimp only [rm]; omega) (by dsimp only [rm]; omega) rfl (WQ.ret hy hI ?_))
    rfl
  · rintro x9 cc S1 ⟨k, hk, rfl, hI⟩
    have hk9 := aArch_k hk
    subst hk9
    refine Et.catch (j := 0) (X := "java/lang/IndexOutOfBoundsException") lwLa_archive rfl (by decide) rfl (by decide) (by decide) clIO (fun i r h => absurd h (Nat.not_lt_zero _)) ?_
    refine Ex.p rfl ?_
    refine Ex.p rfl ?_
    exact Ex.rt (Ex.iret rfl rfl (by dsimp only [rm]; omega) (by dsimp only [rm]; omega) rfl (WQ.thr hk hI (Or.inl rfl)))
theorem ct_La_sum {a o : Nat} {z : SD} {i : Int32} {S : List va_W} {f0 : Nat → Int64} (hfl : l.flags = pinnedFlags ++ [noTraceFlag]) (h : IsDa D a z S) (hr : rmOk R 8 1 6) : CtT l mLa_sum (some [((0 : Nat), (8 : Nat), (11 : Nat), (19 : Nat))]) D R [.ref a, .int i, .ref o] (oA D o f0 :: S) (WQ D a o (aSum z i)) (fun _ _ => False) := by
  obtain ⟨r1, r2, r3, r4⟩ := hr
  obtain ⟨pl, w, un, fe, dr, f, r, kp, kf, kt, c0, c1, c2, xs, ts, hs, fs, Cp, Co, Cu, Cf, Cd, T, Cs, F, rfl, h9⟩ := id h
  refine CtT.of rfl (by decide) tkLa_sum (Nat.le_of_ble_eq_true rfl) (fun A => ?_)
  refine Ex.p rfl ?_
  refine Ex.p rfl ?_
  refine Ex.p rfl ?_
  refine Ex.p rfl ?_
  refine Ex.cvT (Mc := mDa_sum) (Rc := rm 7 1 6) (As := [.int i]) (rest := [.int 0, .ref o]) (Sr := [oA D o f0]) (ic := 1) (jc := 0) (ci := 0) [1, 2, 3, 4, 5, 6, 7, 8, 9, 10, 11] [0] (ct_Da_sum hfl h (rm_ok _ _ _)) rfl lk_13_55 lcDa_sum rfl rfl rfl rfl rfl (by decide) rfl rfl rfl (by decide) ⟨by dsimp only [rm]; omega, by show 8 + (2 + 11) + 280 ≤ R.locals; omega⟩ (Nat.le_of_ble_eq_true rfl) (by dsimp only [rm]; omega) (by dsimp only [rm]; omega) ?_ ?_
  · rintro v S1 ⟨y, hy, rfl, hI⟩
    obtain ⟨v9, rfl⟩ := aSum_v hy
    refine Ex.las 0 0 0 rfl rfl rfl rfl (by decide) ?_
    refine Ex.p rfl ?_
    refine Ex.p rfl ?_
    refine Ex.rt (Ex.iret rfl rfl (by dsimp only [rm]; omega) (by dsimp only [rm]; omega) rfl (WQ.ret hy hI ?_))
    rfl
  · rintro x9 cc S1 ⟨k, hk, rfl, hI⟩
    have hk9 := aSum_k hk
    subst hk9
    refine Et.catch (j := 0) (X := "java/lang/IndexOutOfBoundsException") lwLa_sum rfl (by decide) rfl (by decide) (by decide) clIO (fun i r h => absurd h (Nat.not_lt_zero _)) ?_
    refine Ex.p rfl ?_
    refine Ex.p rfl ?_
    exact Ex.rt (Ex.iret rfl rfl (by dsimp only [rm]; omega) (by dsimp only [rm]; omega) rfl (WQ.thr hk hI (Or.inl rfl)))
end WR

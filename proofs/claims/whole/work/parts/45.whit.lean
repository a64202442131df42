/-! TextWriter: its start, forget, writeHit -/
/-- a hit's line -/
def hline (h : HV) : List Int32 := part 88 h.2.1 ++ (part 89 h.2.2.1 ++ ((if hslot h then [71, 56, 53] ++ (part 88 h.2.2.2.1 ++ part 89 h.2.2.2.2.1) else []) ++ [10]))
/-- a hit's places lie near enough -/
def hnear (h : HV) : Prop := h.2.1.toInt.natAbs ≤ 1000000 ∧ h.2.2.1.toInt.natAbs ≤ 1000000 ∧ h.2.2.2.1.toInt.natAbs ≤ 1000000 ∧ h.2.2.2.2.1.toInt.natAbs ≤ 1000000
section WH
variable {l : Launch} {D : xD} {R : Room}
theorem ct_Tw_init {a p : Nat} (hr : rmOk R 2 2 11) : Ct l mTw_init D R [.ref a, .ref p] [[(a, .inr (8, gdf 8))]] (fun v S => v = none ∧ ∃ r Co, S = [sTw a p r false 0 0, Co] ∧ IsOut D r 8 [] Co) := by
  obtain ⟨r1, r2, r3, r4⟩ := hr
  refine Ct.of rfl (by decide) tkTw_init (Nat.le_of_ble_eq_true rfl) (fun A => ?_)
  refine Ex.p rfl ?_
  refine Ex.oi rfl lk_8_3 (by omega) (by simp; omega) ?_
  refine Ex.p rfl ?_
  refine Ex.new (ci := 5) (N := 3) rfl rfl (by omega) (by omega) (fun q => ?_)
  refine Ex.p rfl ?_
  refine Ex.p rfl ?_
  refine Ex.ci (Mc := mRo_init) (Rc := rm 1 1 8) (As := [.int (nI 2600)]) (rest := [.ref q, .ref a]) (Sr := [[(a, .inr (8, gdf 8))]]) [1] [0] (ct_Ro_init (by decide) (Nat.le_refl _) (by decide) (Nat.le_refl _) (Nat.le_refl _)) rfl lk_8_11 lcRo_init rfl rfl rfl rfl rfl (by decide) ⟨r1, by show 8 + (2 + 11) + 40 ≤ R.locals; omega⟩ (Nat.le_of_ble_eq_true rfl) (by show 0 + 1 + 1 ≤ R.cells; omega) (by show 0 + 3 + 8 ≤ R.slots; omega) ?_
  rintro v S1 ⟨rfl, C1, rfl, hC1⟩
  refine Ex.pfF 0 0 rfl rfl rfl rfl rfl rfl rfl rfl ?_
  refine Ex.p rfl ?_
  refine Ex.p rfl ?_
  refine Ex.pfF 0 0 rfl rfl rfl rfl rfl rfl rfl rfl ?_
  exact Ex.vret rfl rfl (by show 0 + 1 + 1 ≤ R.cells; omega) (by show 0 + 3 + 8 ≤ R.slots; omega) rfl ⟨rfl, q, C1, rfl, hC1⟩
theorem ct_Tw_forget {w p r : Nat} {kp : Bool} {kf kt : Int32} : Ct l mTw_forget D R [.ref w] [sTw w p r kp kf kt] (fun v S => v = none ∧ S = [sTw w p r false kf kt]) := by
  refine Ct.of rfl (by decide) tkTw_forget (Nat.le_of_ble_eq_true rfl) (fun A => ?_)
  refine Ex.p rfl ?_
  refine Ex.p rfl ?_
  refine Ex.pf 0 0 rfl rfl rfl rfl rfl rfl ?_
  exact Ex.vret rfl rfl (Nat.zero_le _) (Nat.zero_le _) rfl ⟨rfl, rfl⟩
theorem ct_isSlotG {S0 : List va_W} {C1 : va_W} {i j a : Nat} {h : HV} (h1 : S0[i]? = some C1) (h1' : C1[j]? = some (cHit a h)) : Ct l mHi_isSlot D R [.ref a] S0 (fun v S => v = some (.int (b32 (hslot h))) ∧ S = S0) := by
  refine Ct.of rfl (by decide) tkHi_isSlot (Nat.le_of_ble_eq_true rfl) (fun A => ?_)
  refine Ex.p rfl ?_
  refine Ex.gf i j h1 h1' rfl ?_
  refine Ex.p rfl ?_
  refine Ex.gf i j h1 h1' rfl ?_
  refine Ex.br rfl (fun c1 => ?_) (fun c1 => ?_)
  · repeat (first | refine Ex.p rfl ?_ | refine Ex.ldc rfl ?_ | refine Ex.ldc2 rfl ?_)
    refine Ex.zret rfl rfl (Or.inr rfl) (Nat.zero_le _) (Nat.zero_le _) rfl ⟨?_, rfl⟩
    simp [hslot, b32, c1]
  · refine Ex.p rfl ?_
    refine Ex.gf i j h1 h1' rfl ?_
    refine Ex.p rfl ?_
    refine Ex.gf i j h1 h1' rfl ?_
    refine Ex.br rfl (fun c2 => ?_) (fun c2 => ?_)
    · repeat (first | refine Ex.p rfl ?_ | refine Ex.ldc rfl ?_ | refine Ex.ldc2 rfl ?_)
      refine Ex.zret rfl rfl (Or.inl rfl) (Nat.zero_le _) (Nat.zero_le _) rfl ⟨?_, rfl⟩
      simp at c1
      simp [hslot, b32, c1, c2]
    · repeat (first | refine Ex.p rfl ?_ | refine Ex.ldc rfl ?_ | refine Ex.ldc2 rfl ?_)
      refine Ex.zret rfl rfl (Or.inr rfl) (Nat.zero_le _) (Nat.zero_le _) rfl ⟨?_, rfl⟩
      simp [hslot, b32, c2]
theorem ct_Tw_writeHit {w p r c0 a j : Nat} {kp : Bool} {kf kt : Int32} {h : HV} {xs : List Int32} {Co Hs : va_W} (ho : IsOut D r c0 xs Co) (hj : Hs[j]? = some (cHit a h)) (hh : hnear h) (hL : (xs ++ hline h).length + 9 ≤ 2600) (hr : rmOk R 5 ((capN c0 0 (xs ++ hline h).length - capN c0 0 xs.length) / 8) (2 * (capN c0 0 (xs ++ hline h).length - capN c0 0 xs.length))) :
    Ct l mTw_writeHit D R [.ref w, .ref a] [sTw w p r kp kf kt, Co, Hs] (fun v S => v = none ∧ ∃ Co', S = [sTw w p r kp kf kt, Co', Hs] ∧ IsOut D r c0 (xs ++ hline h) Co') := by
  obtain ⟨r1, r2, r3, r4⟩ := hr
  obtain ⟨n1, n2, n3, n4⟩ := hh
  generalize hN : (xs ++ hline h).length = N at hL r3 r4
  generalize hcb : capN c0 0 xs.length = cb at r3 r4
  refine Ct.of rfl (by decide) tkTw_writeHit (Nat.le_of_ble_eq_true rfl) (fun A => ?_)
  refine Ex.more (k' := 0 + (capN c0 0 xs.length - cb) / 8) (n' := 0 + 2 * (capN c0 0 xs.length - cb)) (Nat.zero_le _) (Nat.zero_le _) ?_
  refine Ex.p rfl ?_
  refine Ex.gf 0 0 rfl rfl rfl ?_
  refine Ex.p rfl ?_
  refine Ex.p rfl ?_
  refine Ex.gf 2 j rfl hj rfl ?_
  refine Ex.oPart (N := N) (c := 88) (Sr := [sTw w p r kp kf kt, Hs]) 1 [0, 2] ho (by omega) rfl rfl lk_8_69 rfl rfl rfl (by decide) (Nat.le_of_ble_eq_true rfl) n1 (by rw [← hN, hline]; simp <;> omega) (by omega) (by omega) (by omega) (by omega) (by omega) (fun C1 hC1 => ?_)
  have q1 := capN_mono (c := c0) (n := 0) (show xs.length ≤ (xs ++ part 88 h.2.1).length by simp)
  refine Ex.p rfl ?_
  refine Ex.gf 0 0 rfl rfl rfl ?_
  refine Ex.p rfl ?_
  refine Ex.p rfl ?_
  refine Ex.gf 1 j rfl hj rfl ?_
  refine Ex.oPart (N := N) (c := 89) (Sr := [sTw w p r kp kf kt, Hs]) 2 [0, 1] hC1 (by omega) rfl rfl lk_8_69 rfl rfl rfl (by decide) (Nat.le_of_ble_eq_true rfl) n2 (by rw [← hN, hline]; simp <;> omega) (by omega) (by omega) (by omega) (by omega) (by omega) (fun C2 hC2 => ?_)
  generalize hx2 : (xs ++ part 88 h.2.1) ++ part 89 h.2.2.1 = x2 at hC2 ⊢
  have q2 := capN_mono (c := c0) (n := 0) (show xs.length ≤ x2.length by rw [← hx2]; simp <;> omega)
  have q2b := capN_mono (c := c0) (n := 0) (show x2.length ≤ N by rw [← hx2, ← hN, hline]; simp <;> omega)
  have hend : ∀ (xe : List Int32) (Ce : va_W), IsOut D r c0 xe Ce → xs.length ≤ xe.length → xe ++ [10] = xs ++ hline h → Ex l mTw_writeHit D R A (xQ D A (fun v S => v = none ∧ ∃ Co', S = [sTw w p r kp kf kt, Co', Hs] ∧ IsOut D r c0 (xs ++ hline h) Co')) R.cells R.slots 68 [(0, .ref w), (1, .ref a)] [] [sTw w p r kp kf kt, Hs, Ce] (0 + (capN c0 0 xe.length - cb) / 8) (0 + 2 * (capN c0 0 xe.length - cb)) := by
    intro xe Ce hCe hle he
    have q3 := capN_mono (c := c0) (n := 0) hle
    refine Ex.p rfl ?_
    refine Ex.gf 0 0 rfl rfl rfl ?_
    refine Ex.p rfl ?_
    refine Ex.oPush (N := N) (x := 10) (Sr := [sTw w p r kp kf kt, Hs]) 2 [0, 1] hCe (by omega) rfl rfl lk_8_73 rfl rfl rfl (by decide) (Nat.le_of_ble_eq_true rfl) (by rw [he, hN]; omega) (by omega) (by omega) (by omega) (by omega) (by omega) (fun C3 hC3 => ?_)
    rw [he] at hC3 ⊢
    rw [hN]
    refine Ex.p rfl ?_
    refine Ex.sub (S' := [sTw w p r kp kf kt, C3, Hs]) [0, 2, 1] rfl rfl ?_
    exact Ex.vret rfl rfl (by omega) (by omega) rfl ⟨rfl, C3, rfl, hC3⟩
  refine Ex.p rfl ?_
  refine Ex.cv (Mc := mHi_isSlot) (Rc := rm 0 0 0) (As := []) (rest := []) (Sr := [sTw w p r kp kf kt, C2]) (ic := 1) (jc := j) (ci := 3) [1] [0, 2] (ct_isSlotG (S0 := [Hs]) (i := 0) rfl hj) rfl lk_8_123 lcHi_isSlot rfl rfl rfl rfl rfl (by decide) rfl hj rfl (by decide) ⟨by dsimp only [rm]; omega, by show 8 + (1 + 11) + 0 ≤ R.locals; omega⟩ (Nat.zero_le _) (by dsimp only [rm]; omega) (by dsimp only [rm]; omega) ?_
  rintro v S1 ⟨rfl, rfl⟩
  refine Ex.more (k' := 0 + (capN c0 0 x2.length - cb) / 8) (n' := 0 + 2 * (capN c0 0 x2.length - cb)) (by dsimp only [rm]; omega) (by dsimp only [rm]; omega) ?_
  refine Ex.sub (S' := [sTw w p r kp kf kt, Hs, C2]) [0, 2, 1] rfl rfl ?_
  cases hs : hslot h with
  | false =>
    refine Ex.br rfl (fun _ => ?_) (fun c => absurd rfl c)
    exact hend x2 C2 hC2 (by rw [← hx2]; simp <;> omega) (by rw [← hx2]; simp [hline, hs])
  | true =>
    refine Ex.br rfl (fun c => absurd c (by decide)) (fun _ => ?_)
    refine Ex.p rfl ?_
    refine Ex.gf 0 0 rfl rfl rfl ?_
    refine Ex.ldcS rfl ?_
    refine Ex.oText (N := N) (t := 5) (Sr := [sTw w p r kp kf kt, Hs]) 2 [0, 1] hC2 (by omega) rfl rfl lk_8_63 rfl rfl rfl (by decide) (Nat.le_of_ble_eq_true rfl) (by decide) (by rw [← hN, ← hx2, hline, hs]; simp [txt, gSB] <;> omega) (by omega) (by omega) (by omega) (by omega) (by omega) (fun C3 hC3 => ?_)
    have q3 := capN_mono (c := c0) (n := 0) (show x2.length ≤ (x2 ++ txt 5).length by simp)
    refine Ex.p rfl ?_
    refine Ex.gf 0 0 rfl rfl rfl ?_
    refine Ex.p rfl ?_
    refine Ex.p rfl ?_
    refine Ex.gf 1 j rfl hj rfl ?_
    refine Ex.oPart (N := N) (c := 88) (Sr := [sTw w p r kp kf kt, Hs]) 2 [0, 1] hC3 (by omega) rfl rfl lk_8_69 rfl rfl rfl (by decide) (Nat.le_of_ble_eq_true rfl) n3 (by rw [← hN, ← hx2, hline, hs]; simp [txt, gSB] <;> omega) (by omega) (by omega) (by omega) (by omega) (by omega) (fun C4 hC4 => ?_)
    have q4 := capN_mono (c := c0) (n := 0) (show x2.length ≤ (x2 ++ txt 5 ++ part 88 h.2.2.2.1).length by simp <;> omega)
    refine Ex.p rfl ?_
    refine Ex.gf 0 0 rfl rfl rfl ?_
    refine Ex.p rfl ?_
    refine Ex.p rfl ?_
    refine Ex.gf 1 j rfl hj rfl ?_
    refine Ex.oPart (N := N) (c := 89) (Sr := [sTw w p r kp kf kt, Hs]) 2 [0, 1] hC4 (by omega) rfl rfl lk_8_69 rfl rfl rfl (by decide) (Nat.le_of_ble_eq_true rfl) n4 (by rw [← hN, ← hx2, hline, hs]; simp [txt, gSB] <;> omega) (by omega) (by omega) (by omega) (by omega) (by omega) (fun C5 hC5 => ?_)
    exact hend _ C5 hC5 (by rw [← hx2]; simp <;> omega) (by rw [← hx2]; simp [hline, hs, txt, gSB])
end WH

/-! the reference: its cells, small questions -/
abbrev sMo (m : Nat) (B : Nat → Nat) (th mn la ln ap bg wr : Int32) (me : Bool) (fi fe wa wn fo st : Int32) (hl : Bool) (rf rt cu : Int32) : va_W := [(m, .inr (10, [.int th, .ref (B 1), .ref (B 2), .ref (B 3), .ref (B 4), .ref (B 5), .ref (B 6), .ref (B 7), .ref (B 8), .ref (B 9), .ref (B 10), .ref (B 11), .ref (B 12), .int mn, .ref (B 14), .ref (B 15), .ref (B 16), .int la, .ref (B 18), .int ln, .ref (B 20), .int ap, .int bg, .int wr, .int (b32 me), .int fi, .ref (B 26), .ref (B 27), .ref (B 28), .int fe, .ref (B 30), .int wa, .int wn, .int fo, .int st, .int (b32 hl), .int rf, .int rt, .int cu]))]
abbrev cMT (D : xD) (B : Nat → Nat) (gT : Nat → Int32) (gD : Nat → Int64) (gP : Nat → Int32) : va_W := [(B 1, .inl (D.2.2.1 0, 2, .inl gT)), (B 2, .inl (D.2.2.1 2, 20, .inr (.inl gD))), (B 3, .inl (D.2.2.1 1, 20, .inl gP))]
abbrev cMH (D : xD) (B : Nat → Nat) (gH gO : Nat → Int32) (gX gY gE gG : Nat → Int64) (gF gU gS : Nat → Int32) : va_W := [(B 4, .inl (D.2.2.1 0, 2, .inl gH)), (B 5, .inl (D.2.2.1 0, 120, .inl gO)), (B 6, .inl (D.2.2.1 2, 120, .inr (.inl gX))), (B 7, .inl (D.2.2.1 2, 120, .inr (.inl gY))), (B 8, .inl (D.2.2.1 2, 120, .inr (.inl gE))), (B 9, .inl (D.2.2.1 2, 120, .inr (.inl gG))), (B 10, .inl (D.2.2.1 0, 120, .inl gF)), (B 11, .inl (D.2.2.1 0, 120, .inl gU)), (B 12, .inl (D.2.2.1 1, 120, .inl gS))]
abbrev cMO (D : xD) (B : Nat → Nat) (gR gQ : Nat → Int32) (gL : Nat → Int64) : va_W := [(B 14, .inl (D.2.2.1 0, 60, .inl gR)), (B 15, .inl (D.2.2.1 0, 60, .inl gQ)), (B 16, .inl (D.2.2.1 2, 2048, .inr (.inl gL)))]
abbrev cMW (D : xD) (B : Nat → Nat) (gW : Nat → Int32) : va_W := [(B 18, .inl (D.2.2.1 0, 3000, .inl gW))]
abbrev cMX (D : xD) (B : Nat → Nat) (gC : Nat → Int32) : va_W := [(B 20, .inl (D.2.2.1 0, 2000, .inl gC))]
abbrev cMF (D : xD) (B : Nat → Nat) (gr gs gb : Nat → Int32) : va_W := [(B 26, .inl (D.2.2.1 0, 8, .inl gr)), (B 27, .inl (D.2.2.1 0, 8, .inl gs)), (B 28, .inl (D.2.2.1 0, 2400, .inl gb))]
abbrev cME (D : xD) (B : Nat → Nat) (gd : Nat → Int32) : va_W := [(B 30, .inl (D.2.2.1 0, 2600, .inl gd))]
/-- tools of both sets -/
def IsMT (D : xD) (B : Nat → Nat) (L : Nat → List (Int32 × Bool)) (C : va_W) : Prop := ∃ gT gD gP, C = cMT D B gT gD gP ∧ ∀ s, s < 2 → gT s = nI (L s).length ∧ (L s).length ≤ 10 ∧ ∀ i t, (L s)[i]? = some t → gD (10 * s + i) = t.1.toInt64 ∧ gP (10 * s + i) = b32 t.2
/-- hits of both sets -/
def hIs (gO : Nat → Int32) (gX gY gE gG : Nat → Int64) (gF gU gS : Nat → Int32) (k : Nat) (h : HV) : Prop := gO k = h.1 ∧ gX k = h.2.1.toInt64 ∧ gY k = h.2.2.1.toInt64 ∧ gE k = h.2.2.2.1.toInt64 ∧ gG k = h.2.2.2.2.1.toInt64 ∧ gF k = h.2.2.2.2.2.1 ∧ gU k = h.2.2.2.2.2.2 ∧ gS k = b32 (hslot h)
def IsMH (D : xD) (B : Nat → Nat) (L : Nat → List HV) (C : va_W) : Prop := ∃ gH gO gX gY gE gG gF gU gS, C = cMH D B gH gO gX gY gE gG gF gU gS ∧ ∀ s, s < 2 → gH s = nI (L s).length ∧ (L s).length ≤ 60 ∧ ∀ k h, (L s)[k]? = some h → hIs gO gX gY gE gG gF gU gS (60 * s + k) h
def IsMX (D : xD) (B : Nat → Nat) (xs : List Int32) (C : va_W) : Prop := ∃ g, C = cMX D B g ∧ xs.length ≤ 2000 ∧ ∀ (j : Nat) (h : j < xs.length), g j = xs[j]
def IsMF (D : xD) (B : Nat → Nat) (fl : List (Nat × List Nat)) (C : va_W) : Prop := ∃ gr gs gb, C = cMF D B gr gs gb ∧ fl.length ≤ 8 ∧ ∀ i x, fl[i]? = some x → gr i = nI x.1 ∧ gs i = nI x.2.length ∧ x.1 < 8 ∧ x.2.length ≤ 300 ∧ ∀ (j : Nat) (h : j < x.2.length), gb (300 * i + j) = nI x.2[j] ∧ x.2[j] < 256
def IsME (D : xD) (B : Nat → Nat) (bs : List Nat) (C : va_W) : Prop := ∃ g, C = cME D B g ∧ bs.length ≤ 2600 ∧ ∀ (j : Nat) (h : j < bs.length), g j = nI bs[j] ∧ bs[j] < 256
section MO0
variable {l : Launch} {D : xD} {R : Room}
theorem ct_Mo_thrown {m : Nat} {B : Nat → Nat} {th mn la ln ap bg wr fi fe wa wn fo st rf rt cu : Int32} {me hl : Bool} : Ct l mMo_thrown D R [.ref m] [sMo m B th mn la ln ap bg wr me fi fe wa wn fo st hl rf rt cu] (fun v S => v = some (.int th) ∧ S = [sMo m B th mn la ln ap bg wr me fi fe wa wn fo st hl rf rt cu]) := by
  refine Ct.of rfl (by decide) tkMo_thrown (Nat.le_of_ble_eq_true rfl) (fun A => ?_)
  refine Ex.p rfl ?_
  refine Ex.gf 0 0 rfl rfl rfl ?_
  exact Ex.iret rfl rfl (Nat.zero_le _) (Nat.zero_le _) rfl ⟨rfl, rfl⟩
theorem ct_Mo_isLayer {x : Int64} : Ct l mMo_isLayer D R [.long x] [] (fun v S => v = some (.int (b32 (decide (0 ≤ x.toInt ∧ x.toInt ≤ 7)))) ∧ S = []) := by
  refine Ct.of rfl (by decide) tkMo_isLayer (Nat.le_of_ble_eq_true rfl) (fun A => ?_)
  repeat (first | refine Ex.p rfl ?_ | refine Ex.ldc rfl ?_ | refine Ex.ldc2 rfl ?_)
  refine Ex.br rfl (fun c0 => ?_) (fun c0 => ?_)
  · rw [lg_cmp_lt, Int64.lt_iff_toInt_lt] at c0
    have c0 : x.toInt < 0 := c0
    repeat (first | refine Ex.p rfl ?_ | refine Ex.ldc rfl ?_ | refine Ex.ldc2 rfl ?_)
    refine Ex.zret rfl rfl (Or.inl rfl) (Nat.zero_le _) (Nat.zero_le _) rfl ⟨?_, rfl⟩
    rw [decide_eq_false (by omega)]; rfl
  · rw [lg_cmp_lt, Int64.lt_iff_toInt_lt] at c0
    have c0 : ¬ x.toInt < 0 := c0
    repeat (first | refine Ex.p rfl ?_ | refine Ex.ldc rfl ?_ | refine Ex.ldc2 rfl ?_)
    refine Ex.br rfl (fun c1 => ?_) (fun c1 => ?_)
    · rw [lg_cmp_ge, Int64.le_iff_toInt_le] at c1
      have c1 : 8 ≤ x.toInt := c1
      repeat (first | refine Ex.p rfl ?_ | refine Ex.ldc rfl ?_ | refine Ex.ldc2 rfl ?_)
      refine Ex.zret rfl rfl (Or.inl rfl) (Nat.zero_le _) (Nat.zero_le _) rfl ⟨?_, rfl⟩
      rw [decide_eq_false (by omega)]; rfl
    · rw [lg_cmp_ge, Int64.le_iff_toInt_le] at c1
      have c1 : ¬ 8 ≤ x.toInt := c1
      repeat (first | refine Ex.p rfl ?_ | refine Ex.ldc rfl ?_ | refine Ex.ldc2 rfl ?_)
      refine Ex.zret rfl rfl (Or.inr rfl) (Nat.zero_le _) (Nat.zero_le _) rfl ⟨?_, rfl⟩
      rw [decide_eq_true (by omega)]; rfl
theorem ct_Mo_isDiameter {x : Int64} : Ct l mMo_isDiameter D R [.long x] [] (fun v S => v = some (.int (b32 (decide (1 ≤ x.toInt ∧ x.toInt ≤ 10000)))) ∧ S = []) := by
  refine Ct.of rfl (by decide) tkMo_isDiameter (Nat.le_of_ble_eq_true rfl) (fun A => ?_)
  repeat (first | refine Ex.p rfl ?_ | refine Ex.ldc rfl ?_ | refine Ex.ldc2 rfl ?_)
  refine Ex.br rfl (fun c0 => ?_) (fun c0 => ?_)
  · rw [lg_cmp_lt, Int64.lt_iff_toInt_lt] at c0
    have c0 : x.toInt < 1 := c0
    repeat (first | refine Ex.p rfl ?_ | refine Ex.ldc rfl ?_ | refine Ex.ldc2 rfl ?_)
    refine Ex.zret rfl rfl (Or.inl rfl) (Nat.zero_le _) (Nat.zero_le _) rfl ⟨?_, rfl⟩
    rw [decide_eq_false (by omega)]; rfl
  · rw [lg_cmp_lt, Int64.lt_iff_toInt_lt] at c0
    have c0 : ¬ x.toInt < 1 := c0
    repeat (first | refine Ex.p rfl ?_ | refine Ex.ldc rfl ?_ | refine Ex.ldc2 rfl ?_)
    refine Ex.br rfl (fun c1 => ?_) (fun c1 => ?_)
    · rw [lg_cmp_gt, Int64.lt_iff_toInt_lt] at c1
      have c1 : 10000 < x.toInt := c1
      repeat (first | refine Ex.p rfl ?_ | refine Ex.ldc rfl ?_ | refine Ex.ldc2 rfl ?_)
      refine Ex.zret rfl rfl (Or.inl rfl) (Nat.zero_le _) (Nat.zero_le _) rfl ⟨?_, rfl⟩
      rw [decide_eq_false (by omega)]; rfl
    · rw [lg_cmp_gt, Int64.lt_iff_toInt_lt] at c1
      have c1 : ¬ 10000 < x.toInt := c1
      repeat (first | refine Ex.p rfl ?_ | refine Ex.ldc rfl ?_ | refine Ex.ldc2 rfl ?_)
      refine Ex.zret rfl rfl (Or.inr rfl) (Nat.zero_le _) (Nat.zero_le _) rfl ⟨?_, rfl⟩
      rw [decide_eq_true (by omega)]; rfl
theorem ct_Mo_isByte {x : Int32} : Ct l mMo_isByte D R [.int x] [] (fun v S => v = some (.int (b32 (decide (0 ≤ x.toInt ∧ x.toInt < 256)))) ∧ S = []) := by
  refine Ct.of rfl (by decide) tkMo_isByte (Nat.le_of_ble_eq_true rfl) (fun A => ?_)
  repeat (first | refine Ex.p rfl ?_ | refine Ex.ldc rfl ?_ | refine Ex.ldc2 rfl ?_)
  refine Ex.br rfl (fun c0 => ?_) (fun c0 => ?_)
  · have c0 : x < 0 := c0
    rw [Int32.lt_iff_toInt_lt] at c0
    have c0 : x.toInt < 0 := c0
    repeat (first | refine Ex.p rfl ?_ | refine Ex.ldc rfl ?_ | refine Ex.ldc2 rfl ?_)
    refine Ex.zret rfl rfl (Or.inl rfl) (Nat.zero_le _) (Nat.zero_le _) rfl ⟨?_, rfl⟩
    rw [decide_eq_false (by omega)]; rfl
  · have c0 : ¬ x < 0 := c0
    rw [Int32.lt_iff_toInt_lt] at c0
    have c0 : ¬ x.toInt < 0 := c0
    repeat (first | refine Ex.p rfl ?_ | refine Ex.ldc rfl ?_ | refine Ex.ldc2 rfl ?_)
    refine Ex.br rfl (fun c1 => ?_) (fun c1 => ?_)
    · have c1 : 256 ≤ x := c1
      rw [Int32.le_iff_toInt_le] at c1
      have c1 : 256 ≤ x.toInt := c1
      repeat (first | refine Ex.p rfl ?_ | refine Ex.ldc rfl ?_ | refine Ex.ldc2 rfl ?_)
      refine Ex.zret rfl rfl (Or.inl rfl) (Nat.zero_le _) (Nat.zero_le _) rfl ⟨?_, rfl⟩
      rw [decide_eq_false (by omega)]; rfl
    · have c1 : ¬ 256 ≤ x := c1
      rw [Int32.le_iff_toInt_le] at c1
      have c1 : ¬ 256 ≤ x.toInt := c1
      repeat (first | refine Ex.p rfl ?_ | refine Ex.ldc rfl ?_ | refine Ex.ldc2 rfl ?_)
      refine Ex.zret rfl rfl (Or.inr rfl) (Nat.zero_le _) (Nat.zero_le _) rfl ⟨?_, rfl⟩
      rw [decide_eq_true (by omega)]; rfl
theorem ct_Mo_isPlace {x y : Int64} : Ct l mMo_isPlace D R [.long x, .long y] [] (fun v S => v = some (.int (b32 (decide (near64 x y)))) ∧ S = []) := by
  refine Ct.of rfl (by decide) tkMo_isPlace (Nat.le_of_ble_eq_true rfl) (fun A => ?_)
  have no : ¬ near64 x y → Ex l mMo_isPlace D R A (xQ D A (fun v S => v = some (.int (b32 (decide (near64 x y)))) ∧ S = [])) R.cells R.slots 36 (lv_args 0 [.long x, .long y]) [] [] 0 0 := by
    intro h
    repeat (first | refine Ex.p rfl ?_ | refine Ex.ldc rfl ?_ | refine Ex.ldc2 rfl ?_)
    refine Ex.zret rfl rfl (Or.inl rfl) (Nat.zero_le _) (Nat.zero_le _) rfl ⟨?_, rfl⟩
    rw [decide_eq_false h]; rfl
  repeat (first | refine Ex.p rfl ?_ | refine Ex.ldc rfl ?_ | refine Ex.ldc2 rfl ?_)
  refine Ex.br rfl (fun c0 => ?_) (fun c0 => ?_)
  · rw [lg_cmp_lt, Int64.lt_iff_toInt_lt] at c0
    have c0 : x.toInt < -1000000 := c0
    exact no (by omega)
  · rw [lg_cmp_lt, Int64.lt_iff_toInt_lt] at c0
    have c0 : ¬ x.toInt < -1000000 := c0
    repeat (first | refine Ex.p rfl ?_ | refine Ex.ldc rfl ?_ | refine Ex.ldc2 rfl ?_)
    refine Ex.br rfl (fun c1 => ?_) (fun c1 => ?_)
    · rw [lg_cmp_gt, Int64.lt_iff_toInt_lt] at c1
      have c1 : 1000000 < x.toInt := c1
      exact no (by omega)
    · rw [lg_cmp_gt, Int64.lt_iff_toInt_lt] at c1
      have c1 : ¬ 1000000 < x.toInt := c1
      repeat (first | refine Ex.p rfl ?_ | refine Ex.ldc rfl ?_ | refine Ex.ldc2 rfl ?_)
      refine Ex.br rfl (fun c2 => ?_) (fun c2 => ?_)
      · rw [lg_cmp_lt, Int64.lt_iff_toInt_lt] at c2
        have c2 : y.toInt < -1000000 := c2
        exact no (by omega)
      · rw [lg_cmp_lt, Int64.lt_iff_toInt_lt] at c2
        have c2 : ¬ y.toInt < -1000000 := c2
        repeat (first | refine Ex.p rfl ?_ | refine Ex.ldc rfl ?_ | refine Ex.ldc2 rfl ?_)
        refine Ex.br rfl (fun c3 => ?_) (fun c3 => ?_)
        · rw [lg_cmp_gt, Int64.lt_iff_toInt_lt] at c3
          have c3 : 1000000 < y.toInt := c3
          exact no (by omega)
        · rw [lg_cmp_gt, Int64.lt_iff_toInt_lt] at c3
          have c3 : ¬ 1000000 < y.toInt := c3
          repeat (first | refine Ex.p rfl ?_ | refine Ex.ldc rfl ?_ | refine Ex.ldc2 rfl ?_)
          refine Ex.zret rfl rfl (Or.inr rfl) (Nat.zero_le _) (Nat.zero_le _) rfl ⟨?_, rfl⟩
          rw [decide_eq_true ⟨by omega, by omega, by omega, by omega⟩]; rfl
theorem ct_Mo_isTool {m : Nat} {B : Nat → Nat} {i : Int32} {th mn la ln ap bg wr fi fe wa wn fo st rf rt cu : Int32} {me hl : Bool} {L : Nat → List (Int32 × Bool)} {C : va_W} (h : IsMT D B L C) : Ct l mMo_isTool D R [.ref m, .int i] [sMo m B th mn la ln ap bg wr me fi fe wa wn fo st hl rf rt cu, C] (fun v S => v = some (.int (b32 (decide (0 ≤ i.toInt ∧ i.toInt < (L 0).length)))) ∧ S = [sMo m B th mn la ln ap bg wr me fi fe wa wn fo st hl rf rt cu, C]) := by
  obtain ⟨gT, gD, gP, rfl, hs⟩ := h
  obtain ⟨h1, h2, -⟩ := hs 0 (by omega)
  refine Ct.of rfl (by decide) tkMo_isTool (Nat.le_of_ble_eq_true rfl) (fun A => ?_)
  refine Ex.p rfl ?_
  refine Ex.br rfl (fun c0 => ?_) (fun c0 => ?_)
  · have c0 : i < 0 := c0
    rw [Int32.lt_iff_toInt_lt] at c0
    have c0 : i.toInt < 0 := c0
    refine Ex.p rfl ?_
    refine Ex.zret rfl rfl (Or.inl rfl) (Nat.zero_le _) (Nat.zero_le _) rfl ⟨?_, rfl⟩
    rw [decide_eq_false (by omega)]; rfl
  · have c0 : ¬ i < 0 := c0
    rw [Int32.lt_iff_toInt_lt] at c0
    have c0 : ¬ i.toInt < 0 := c0
    refine Ex.p rfl ?_
    refine Ex.p rfl ?_
    refine Ex.gf 0 0 rfl rfl rfl ?_
    refine Ex.p rfl ?_
    refine Ex.ial 1 0 0 rfl rfl rfl rfl (by decide) ?_
    rw [h1]
    refine Ex.br rfl (fun c1 => ?_) (fun c1 => ?_)
    · have c1 : nI (L 0).length ≤ i := c1
      rw [Int32.le_iff_toInt_le, nI_toInt (by omega)] at c1
      refine Ex.p rfl ?_
      refine Ex.zret rfl rfl (Or.inl rfl) (Nat.zero_le _) (Nat.zero_le _) rfl ⟨?_, rfl⟩
      rw [decide_eq_false (by omega)]; rfl
    · have c1 : ¬ nI (L 0).length ≤ i := c1
      rw [Int32.le_iff_toInt_le, nI_toInt (by omega)] at c1
      refine Ex.p rfl ?_
      refine Ex.p rfl ?_
      refine Ex.zret rfl rfl (Or.inr rfl) (Nat.zero_le _) (Nat.zero_le _) rfl ⟨?_, rfl⟩
      rw [decide_eq_true (by omega)]; rfl
theorem ct_Mo_isFile {m n : Nat} {B : Nat → Nat} {i : Int32} {th mn la ln ap bg wr fe wa wn fo st rf rt cu : Int32} {me hl : Bool} (hn : n < 2 ^ 31) : Ct l mMo_isFile D R [.ref m, .int i] [sMo m B th mn la ln ap bg wr me (nI n) fe wa wn fo st hl rf rt cu] (fun v S => v = some (.int (b32 (decide (0 ≤ i.toInt ∧ i.toInt < n)))) ∧ S = [sMo m B th mn la ln ap bg wr me (nI n) fe wa wn fo st hl rf rt cu]) := by
  refine Ct.of rfl (by decide) tkMo_isFile (Nat.le_of_ble_eq_true rfl) (fun A => ?_)
  refine Ex.p rfl ?_
  refine Ex.br rfl (fun c0 => ?_) (fun c0 => ?_)
  · have c0 : i < 0 := c0
    rw [Int32.lt_iff_toInt_lt] at c0
    have c0 : i.toInt < 0 := c0
    refine Ex.p rfl ?_
    refine Ex.zret rfl rfl (Or.inl rfl) (Nat.zero_le _) (Nat.zero_le _) rfl ⟨?_, rfl⟩
    rw [decide_eq_false (by omega)]; rfl
  · have c0 : ¬ i < 0 := c0
    rw [Int32.lt_iff_toInt_lt] at c0
    have c0 : ¬ i.toInt < 0 := c0
    refine Ex.p rfl ?_
    refine Ex.p rfl ?_
    refine Ex.gf 0 0 rfl rfl rfl ?_
    refine Ex.br rfl (fun c1 => ?_) (fun c1 => ?_)
    · have c1 : nI n ≤ i := c1
      rw [Int32.le_iff_toInt_le, nI_toInt hn] at c1
      refine Ex.p rfl ?_
      refine Ex.zret rfl rfl (Or.inl rfl) (Nat.zero_le _) (Nat.zero_le _) rfl ⟨?_, rfl⟩
      rw [decide_eq_false (by omega)]; rfl
    · have c1 : ¬ nI n ≤ i := c1
      rw [Int32.le_iff_toInt_le, nI_toInt hn] at c1
      refine Ex.p rfl ?_
      refine Ex.p rfl ?_
      refine Ex.zret rfl rfl (Or.inr rfl) (Nat.zero_le _) (Nat.zero_le _) rfl ⟨?_, rfl⟩
      rw [decide_eq_true (by omega)]; rfl
end MO0

/-! Hit, and small tests of the outer one -/
def rmOk (R : Room) (d c n : Nat) : Prop := d ≤ R.frames ∧ 40 * d ≤ R.locals ∧ c ≤ R.cells ∧ n ≤ R.slots
abbrev rm (d c n : Nat) : Room := { frames := d, cells := c, slots := n, locals := 40 * d }
theorem rm_ok (d c n : Nat) : rmOk (rm d c n) d c n := ⟨Nat.le_refl _, Nat.le_refl _, Nat.le_refl _, Nat.le_refl _⟩
abbrev HV : Type := Int32 × Int32 × Int32 × Int32 × Int32 × Int32 × Int32
abbrev hvs (h : HV) : List Value := [.int h.1, .int h.2.1, .int h.2.2.1, .int h.2.2.2.1, .int h.2.2.2.2.1, .int h.2.2.2.2.2.1, .int h.2.2.2.2.2.2]
abbrev cHit (a : Nat) (h : HV) : Nat × va_E := (a, .inr (3, hvs h))
def hslot (h : HV) : Bool := !(h.2.1 == h.2.2.2.1 && h.2.2.1 == h.2.2.2.2.1)
def abs32 (x : Int32) : Int32 := if 0 ≤ x then x else 0 - x
def max32 (x y : Int32) : Int32 := if x < y then y else x
def hway (a b : HV) : Int32 := max32 (abs32 (b.2.1 - a.2.2.2.1)) (abs32 (b.2.2.1 - a.2.2.2.2.1))
def b32 (b : Bool) : Int32 := if b then 1 else 0
theorem b32_01 (b : Bool) : b32 b = 0 ∨ b32 b = 1 := by cases b <;> simp [b32]
def hpart (h : HV) (w : Int32) : Int64 := if w = 0 then h.1.toInt64 else if w = 1 then h.2.1.toInt64 else if w = 2 then h.2.2.1.toInt64 else if w = 3 then h.2.2.2.1.toInt64 else if w = 4 then h.2.2.2.2.1.toInt64 else if w = 5 then h.2.2.2.2.2.1.toInt64 else if w = 6 then h.2.2.2.2.2.2.toInt64 else if hslot h then 1 else 0
section HI
variable {l : Launch} {D : xD} {R : Room}
theorem ct_Hi_init {a : Nat} {h : HV} (hr : rmOk R 1 0 0) : Ct l mHi_init D R (.ref a :: hvs h) [[(a, .inr (3, gdf 3))]] (fun v S => v = none ∧ S = [[cHit a h]]) := by
  refine Ct.of rfl (by decide) tkHi_init (Nat.le_of_ble_eq_true rfl) (fun A => ?_)
  refine Ex.p rfl ?_
  refine Ex.oi rfl lk_3_1 hr.1 (by simp; have := hr.2.1; omega) ?_
  refine Ex.p rfl ?_
  refine Ex.p rfl ?_
  refine Ex.pfF 0 0 rfl rfl rfl rfl rfl rfl rfl rfl ?_
  refine Ex.p rfl ?_
  refine Ex.p rfl ?_
  refine Ex.pfF 0 0 rfl rfl rfl rfl rfl rfl rfl rfl ?_
  refine Ex.p rfl ?_
  refine Ex.p rfl ?_
  refine Ex.pfF 0 0 rfl rfl rfl rfl rfl rfl rfl rfl ?_
  refine Ex.p rfl ?_
  refine Ex.p rfl ?_
  refine Ex.pfF 0 0 rfl rfl rfl rfl rfl rfl rfl rfl ?_
  refine Ex.p rfl ?_
  refine Ex.p rfl ?_
  refine Ex.pfF 0 0 rfl rfl rfl rfl rfl rfl rfl rfl ?_
  refine Ex.p rfl ?_
  refine Ex.p rfl ?_
  refine Ex.pfF 0 0 rfl rfl rfl rfl rfl rfl rfl rfl ?_
  refine Ex.p rfl ?_
  refine Ex.p rfl ?_
  refine Ex.pfF 0 0 rfl rfl rfl rfl rfl rfl rfl rfl ?_
  exact Ex.vret (S' := [[cHit a h]]) rfl rfl (Nat.zero_le _) (Nat.zero_le _) rfl ⟨rfl, rfl⟩
theorem ct_Hi_isSlot {a : Nat} {h : HV} : Ct l mHi_isSlot D R [.ref a] [[cHit a h]] (fun v S => v = some (.int (b32 (hslot h))) ∧ S = [[cHit a h]]) := by
  refine Ct.of rfl (by decide) tkHi_isSlot (Nat.le_of_ble_eq_true rfl) (fun A => ?_)
  repeat (first | refine Ex.p rfl ?_ | refine Ex.ldc rfl ?_ | refine Ex.ldc2 rfl ?_ | refine Ex.gf 0 0 rfl rfl rfl ?_)
  refine Ex.br rfl (fun c1 => ?_) (fun c1 => ?_)
  · repeat (first | refine Ex.p rfl ?_ | refine Ex.ldc rfl ?_ | refine Ex.ldc2 rfl ?_)
    refine Ex.zret rfl rfl (Or.inr rfl) (Nat.zero_le _) (Nat.zero_le _) rfl ⟨?_, rfl⟩
    simp [hslot, b32, c1]
  · repeat (first | refine Ex.p rfl ?_ | refine Ex.ldc rfl ?_ | refine Ex.ldc2 rfl ?_ | refine Ex.gf 0 0 rfl rfl rfl ?_)
    refine Ex.br rfl (fun c2 => ?_) (fun c2 => ?_)
    · repeat (first | refine Ex.p rfl ?_ | refine Ex.ldc rfl ?_ | refine Ex.ldc2 rfl ?_)
      refine Ex.zret rfl rfl (Or.inl rfl) (Nat.zero_le _) (Nat.zero_le _) rfl ⟨?_, rfl⟩
      simp at c1
      simp [hslot, b32, c1, c2]
    · repeat (first | refine Ex.p rfl ?_ | refine Ex.ldc rfl ?_ | refine Ex.ldc2 rfl ?_)
      refine Ex.zret rfl rfl (Or.inr rfl) (Nat.zero_le _) (Nat.zero_le _) rfl ⟨?_, rfl⟩
      simp [hslot, b32, c2]
theorem ct_Hi_wayTo {a b : Nat} {g h : HV} (hr : rmOk R 1 0 0) : Ct l mHi_wayTo D R [.ref a, .ref b] [[cHit a g], [cHit b h]] (fun v S => v = some (.int (hway g h)) ∧ S = [[cHit a g], [cHit b h]]) := by
  obtain ⟨r1, r2, r3, r4⟩ := hr
  refine Ct.of rfl (by decide) tkHi_wayTo (Nat.le_of_ble_eq_true rfl) (fun A => ?_)
  repeat (first | refine Ex.p rfl ?_ | refine Ex.ldc rfl ?_ | refine Ex.ldc2 rfl ?_ | refine Ex.gf 0 0 rfl rfl rfl ?_ | refine Ex.gf 1 0 rfl rfl rfl ?_)
  refine Ex.mabs rfl lk_3_31 r1 (Nat.le_trans (Nat.le_of_ble_eq_true rfl) r2) (Nat.zero_le _) (Nat.zero_le _) ?_
  repeat (first | refine Ex.p rfl ?_ | refine Ex.ldc rfl ?_ | refine Ex.ldc2 rfl ?_ | refine Ex.gf 0 0 rfl rfl rfl ?_ | refine Ex.gf 1 0 rfl rfl rfl ?_)
  refine Ex.mabs rfl lk_3_31 r1 (Nat.le_trans (Nat.le_of_ble_eq_true rfl) r2) (Nat.zero_le _) (Nat.zero_le _) ?_
  refine Ex.mmax rfl lk_3_37 r1 (Nat.le_trans (Nat.le_of_ble_eq_true rfl) r2) (Nat.zero_le _) (Nat.zero_le _) ?_
  exact Ex.iret rfl rfl (Nat.zero_le _) (Nat.zero_le _) rfl ⟨rfl, rfl⟩
theorem ct_isLayer {x : Int32} : Ct l mDa_isLayer D R [.int x] [] (fun v S => v = some (.int (b32 (decide (0 ≤ x.toInt ∧ x.toInt ≤ 7)))) ∧ S = []) := by
  refine Ct.of rfl (by decide) tkDa_isLayer (Nat.le_of_ble_eq_true rfl) (fun A => ?_)
  repeat (first | refine Ex.p rfl ?_ | refine Ex.ldc rfl ?_ | refine Ex.ldc2 rfl ?_)
  refine Ex.br rfl (fun c1 => ?_) (fun c1 => ?_)
  · rw [Int32.lt_iff_toInt_lt, i0_toInt] at c1
    repeat (first | refine Ex.p rfl ?_ | refine Ex.ldc rfl ?_ | refine Ex.ldc2 rfl ?_)
    refine Ex.zret rfl rfl (Or.inl rfl) (Nat.zero_le _) (Nat.zero_le _) rfl ⟨?_, rfl⟩
    rw [decide_eq_false (by omega)]; rfl
  · rw [Int32.lt_iff_toInt_lt, i0_toInt] at c1
    repeat (first | refine Ex.p rfl ?_ | refine Ex.ldc rfl ?_ | refine Ex.ldc2 rfl ?_)
    refine Ex.br rfl (fun c2 => ?_) (fun c2 => ?_)
    · rw [Int32.lt_iff_toInt_lt, show ((Int8.ofInt 7).toInt32).toInt = 7 from rfl] at c2
      repeat (first | refine Ex.p rfl ?_ | refine Ex.ldc rfl ?_ | refine Ex.ldc2 rfl ?_)
      refine Ex.zret rfl rfl (Or.inl rfl) (Nat.zero_le _) (Nat.zero_le _) rfl ⟨?_, rfl⟩
      rw [decide_eq_false (by omega)]; rfl
    · rw [Int32.lt_iff_toInt_lt, show ((Int8.ofInt 7).toInt32).toInt = 7 from rfl] at c2
      repeat (first | refine Ex.p rfl ?_ | refine Ex.ldc rfl ?_ | refine Ex.ldc2 rfl ?_)
      refine Ex.zret rfl rfl (Or.inr rfl) (Nat.zero_le _) (Nat.zero_le _) rfl ⟨?_, rfl⟩
      rw [decide_eq_true (by omega)]; rfl
theorem ct_isRole {x : Int32} : Ct l mDa_isRole D R [.int x] [] (fun v S => v = some (.int (b32 (decide (0 ≤ x.toInt ∧ x.toInt ≤ 7)))) ∧ S = []) := by
  refine Ct.of rfl (by decide) tkDa_isRole (Nat.le_of_ble_eq_true rfl) (fun A => ?_)
  repeat (first | refine Ex.p rfl ?_ | refine Ex.ldc rfl ?_ | refine Ex.ldc2 rfl ?_)
  refine Ex.br rfl (fun c1 => ?_) (fun c1 => ?_)
  · rw [Int32.lt_iff_toInt_lt, i0_toInt] at c1
    repeat (first | refine Ex.p rfl ?_ | refine Ex.ldc rfl ?_ | refine Ex.ldc2 rfl ?_)
    refine Ex.zret rfl rfl (Or.inl rfl) (Nat.zero_le _) (Nat.zero_le _) rfl ⟨?_, rfl⟩
    rw [decide_eq_false (by omega)]; rfl
  · rw [Int32.lt_iff_toInt_lt, i0_toInt] at c1
    repeat (first | refine Ex.p rfl ?_ | refine Ex.ldc rfl ?_ | refine Ex.ldc2 rfl ?_)
    refine Ex.br rfl (fun c2 => ?_) (fun c2 => ?_)
    · rw [Int32.lt_iff_toInt_lt, show ((Int8.ofInt 7).toInt32).toInt = 7 from rfl] at c2
      repeat (first | refine Ex.p rfl ?_ | refine Ex.ldc rfl ?_ | refine Ex.ldc2 rfl ?_)
      refine Ex.zret rfl rfl (Or.inl rfl) (Nat.zero_le _) (Nat.zero_le _) rfl ⟨?_, rfl⟩
      rw [decide_eq_false (by omega)]; rfl
    · rw [Int32.lt_iff_toInt_lt, show ((Int8.ofInt 7).toInt32).toInt = 7 from rfl] at c2
      repeat (first | refine Ex.p rfl ?_ | refine Ex.ldc rfl ?_ | refine Ex.ldc2 rfl ?_)
      refine Ex.zret rfl rfl (Or.inr rfl) (Nat.zero_le _) (Nat.zero_le _) rfl ⟨?_, rfl⟩
      rw [decide_eq_true (by omega)]; rfl
theorem ct_isByte {x : Int32} : Ct l mDa_isByte D R [.int x] [] (fun v S => v = some (.int (b32 (decide (0 ≤ x.toInt ∧ x.toInt < 256)))) ∧ S = []) := by
  refine Ct.of rfl (by decide) tkDa_isByte (Nat.le_of_ble_eq_true rfl) (fun A => ?_)
  repeat (first | refine Ex.p rfl ?_ | refine Ex.ldc rfl ?_ | refine Ex.ldc2 rfl ?_)
  refine Ex.br rfl (fun c1 => ?_) (fun c1 => ?_)
  · rw [Int32.lt_iff_toInt_lt, i0_toInt] at c1
    repeat (first | refine Ex.p rfl ?_ | refine Ex.ldc rfl ?_ | refine Ex.ldc2 rfl ?_)
    refine Ex.zret rfl rfl (Or.inl rfl) (Nat.zero_le _) (Nat.zero_le _) rfl ⟨?_, rfl⟩
    rw [decide_eq_false (by omega)]; rfl
  · rw [Int32.lt_iff_toInt_lt, i0_toInt] at c1
    repeat (first | refine Ex.p rfl ?_ | refine Ex.ldc rfl ?_ | refine Ex.ldc2 rfl ?_)
    refine Ex.br rfl (fun c2 => ?_) (fun c2 => ?_)
    · rw [Int32.le_iff_toInt_le, show ((Int16.ofInt 256).toInt32).toInt = 256 from rfl] at c2
      repeat (first | refine Ex.p rfl ?_ | refine Ex.ldc rfl ?_ | refine Ex.ldc2 rfl ?_)
      refine Ex.zret rfl rfl (Or.inl rfl) (Nat.zero_le _) (Nat.zero_le _) rfl ⟨?_, rfl⟩
      rw [decide_eq_false (by omega)]; rfl
    · rw [Int32.le_iff_toInt_le, show ((Int16.ofInt 256).toInt32).toInt = 256 from rfl] at c2
      repeat (first | refine Ex.p rfl ?_ | refine Ex.ldc rfl ?_ | refine Ex.ldc2 rfl ?_)
      refine Ex.zret rfl rfl (Or.inr rfl) (Nat.zero_le _) (Nat.zero_le _) rfl ⟨?_, rfl⟩
      rw [decide_eq_true (by omega)]; rfl
theorem ct_isDiameter {x : Int64} : Ct l mDa_isDiameter D R [.long x] [] (fun v S => v = some (.int (b32 (decide (1 ≤ x.toInt ∧ x.toInt ≤ 10000)))) ∧ S = []) := by
  refine Ct.of rfl (by decide) tkDa_isDiameter (Nat.le_of_ble_eq_true rfl) (fun A => ?_)
  repeat (first | refine Ex.p rfl ?_ | refine Ex.ldc rfl ?_ | refine Ex.ldc2 rfl ?_)
  refine Ex.br rfl (fun c0 => ?_) (fun c0 => ?_)
  · rw [lg_cmp_lt, Int64.lt_iff_toInt_lt] at c0
    have c0 : x.toInt < 1 := c0
    repeat (first | refine Ex.p rfl ?_ | refine Ex.ldc rfl ?_ | refine Ex.ldc2 rfl ?_)
    refine Ex.zret rfl rfl (Or.inl rfl) (Nat.zero_le _) (Nat.zero_le _) rfl ⟨?_, rfl⟩
    rw [decide_eq_false (by omega)]; rfl
  · rw [lg_cmp_lt, Int64.lt_iff_toInt_lt] at c0
    have c0 : ¬ x.toInt < 1 := c0
    repeat (first | refine Ex.p rfl ?_ | refine Ex.ldc rfl ?_ | refine Ex.ldc2 rfl ?_)
    refine Ex.br rfl (fun c1 => ?_) (fun c1 => ?_)
    · rw [lg_cmp_gt, Int64.lt_iff_toInt_lt] at c1
      have c1 : 10000 < x.toInt := c1
      repeat (first | refine Ex.p rfl ?_ | refine Ex.ldc rfl ?_ | refine Ex.ldc2 rfl ?_)
      refine Ex.zret rfl rfl (Or.inl rfl) (Nat.zero_le _) (Nat.zero_le _) rfl ⟨?_, rfl⟩
      rw [decide_eq_false (by omega)]; rfl
    · rw [lg_cmp_gt, Int64.lt_iff_toInt_lt] at c1
      have c1 : ¬ 10000 < x.toInt := c1
      repeat (first | refine Ex.p rfl ?_ | refine Ex.ldc rfl ?_ | refine Ex.ldc2 rfl ?_)
      refine Ex.zret rfl rfl (Or.inr rfl) (Nat.zero_le _) (Nat.zero_le _) rfl ⟨?_, rfl⟩
      rw [decide_eq_true (by omega)]; rfl
theorem ct_isPlace {x y : Int64} : Ct l mDa_isPlace D R [.long x, .long y] [] (fun v S => v = some (.int (b32 (decide (-1000000 ≤ x.toInt ∧ x.toInt ≤ 1000000 ∧ -1000000 ≤ y.toInt ∧ y.toInt ≤ 1000000)))) ∧ S = []) := by
  refine Ct.of rfl (by decide) tkDa_isPlace (Nat.le_of_ble_eq_true rfl) (fun A => ?_)
  repeat (first | refine Ex.p rfl ?_ | refine Ex.ldc rfl ?_ | refine Ex.ldc2 rfl ?_)
  refine Ex.br rfl (fun c0 => ?_) (fun c0 => ?_)
  · rw [lg_cmp_lt, Int64.lt_iff_toInt_lt] at c0
    have c0 : x.toInt < -1000000 := c0
    repeat (first | refine Ex.p rfl ?_ | refine Ex.ldc rfl ?_ | refine Ex.ldc2 rfl ?_)
    refine Ex.zret rfl rfl (Or.inl rfl) (Nat.zero_le _) (Nat.zero_le _) rfl ⟨?_, rfl⟩
    rw [decide_eq_false (by omega)]; rfl
  · rw [lg_cmp_lt, Int64.lt_iff_toInt_lt] at c0
    have c0 : ¬ x.toInt < -1000000 := c0
    repeat (first | refine Ex.p rfl ?_ | refine Ex.ldc rfl ?_ | refine Ex.ldc2 rfl ?_)
    refine Ex.br rfl (fun c1 => ?_) (fun c1 => ?_)
    · rw [lg_cmp_gt, Int64.lt_iff_toInt_lt] at c1
      have c1 : 1000000 < x.toInt := c1
      repeat (first | refine Ex.p rfl ?_ | refine Ex.ldc rfl ?_ | refine Ex.ldc2 rfl ?_)
      refine Ex.zret rfl rfl (Or.inl rfl) (Nat.zero_le _) (Nat.zero_le _) rfl ⟨?_, rfl⟩
      rw [decide_eq_false (by omega)]; rfl
    · rw [lg_cmp_gt, Int64.lt_iff_toInt_lt] at c1
      have c1 : ¬ 1000000 < x.toInt := c1
      repeat (first | refine Ex.p rfl ?_ | refine Ex.ldc rfl ?_ | refine Ex.ldc2 rfl ?_)
      refine Ex.br rfl (fun c2 => ?_) (fun c2 => ?_)
      · rw [lg_cmp_lt, Int64.lt_iff_toInt_lt] at c2
        have c2 : y.toInt < -1000000 := c2
        repeat (first | refine Ex.p rfl ?_ | refine Ex.ldc rfl ?_ | refine Ex.ldc2 rfl ?_)
        refine Ex.zret rfl rfl (Or.inl rfl) (Nat.zero_le _) (Nat.zero_le _) rfl ⟨?_, rfl⟩
        rw [decide_eq_false (by omega)]; rfl
      · rw [lg_cmp_lt, Int64.lt_iff_toInt_lt] at c2
        have c2 : ¬ y.toInt < -1000000 := c2
        repeat (first | refine Ex.p rfl ?_ | refine Ex.ldc rfl ?_ | refine Ex.ldc2 rfl ?_)
        refine Ex.br rfl (fun c3 => ?_) (fun c3 => ?_)
        · rw [lg_cmp_gt, Int64.lt_iff_toInt_lt] at c3
          have c3 : 1000000 < y.toInt := c3
          repeat (first | refine Ex.p rfl ?_ | refine Ex.ldc rfl ?_ | refine Ex.ldc2 rfl ?_)
          refine Ex.zret rfl rfl (Or.inl rfl) (Nat.zero_le _) (Nat.zero_le _) rfl ⟨?_, rfl⟩
          rw [decide_eq_false (by omega)]; rfl
        · rw [lg_cmp_gt, Int64.lt_iff_toInt_lt] at c3
          have c3 : ¬ 1000000 < y.toInt := c3
          repeat (first | refine Ex.p rfl ?_ | refine Ex.ldc rfl ?_ | refine Ex.ldc2 rfl ?_)
          refine Ex.zret rfl rfl (Or.inr rfl) (Nat.zero_le _) (Nat.zero_le _) rfl ⟨?_, rfl⟩
          rw [decide_eq_true (by omega)]; rfl
theorem ct_Hi_part {a : Nat} {h : HV} {w : Int32} (h0 : 0 ≤ w.toInt) (h7 : w.toInt ≤ 7) (hr : rmOk R 1 0 0) : Ct l mHi_part D R [.ref a, .int w] [[cHit a h]] (fun v S => v = some (.long (hpart h w)) ∧ S = [[cHit a h]]) := by
  obtain ⟨r1, r2, r3, r4⟩ := hr
  refine Ct.of rfl (by decide) tkHi_part (Nat.le_of_ble_eq_true rfl) (fun A => ?_)
  refine Ex.p rfl ?_
  have hw : w.toInt = 0 ∨ w.toInt = 1 ∨ w.toInt = 2 ∨ w.toInt = 3 ∨ w.toInt = 4 ∨ w.toInt = 5 ∨ w.toInt = 6 ∨ w.toInt = 7 := by omega
  rcases hw with e | e | e | e | e | e | e | e
  · have e : w = 0 := Int32.toInt_inj.mp e
    subst e
    refine Ex.swI (t := 44) tsHi_part_1 (by decide) (by decide) rfl rfl ?_
    repeat (first | refine Ex.p rfl ?_ | refine Ex.ldc rfl ?_ | refine Ex.ldc2 rfl ?_ | refine Ex.gf 0 0 rfl rfl rfl ?_)
    exact Ex.lret rfl rfl (Nat.zero_le _) (Nat.zero_le _) rfl ⟨rfl, rfl⟩
  · have e : w = 1 := Int32.toInt_inj.mp e
    subst e
    refine Ex.swI (t := 50) tsHi_part_1 (by decide) (by decide) rfl rfl ?_
    repeat (first | refine Ex.p rfl ?_ | refine Ex.ldc rfl ?_ | refine Ex.ldc2 rfl ?_ | refine Ex.gf 0 0 rfl rfl rfl ?_)
    exact Ex.lret rfl rfl (Nat.zero_le _) (Nat.zero_le _) rfl ⟨rfl, rfl⟩
  · have e : w = 2 := Int32.toInt_inj.mp e
    subst e
    refine Ex.swI (t := 56) tsHi_part_1 (by decide) (by decide) rfl rfl ?_
    repeat (first | refine Ex.p rfl ?_ | refine Ex.ldc rfl ?_ | refine Ex.ldc2 rfl ?_ | refine Ex.gf 0 0 rfl rfl rfl ?_)
    exact Ex.lret rfl rfl (Nat.zero_le _) (Nat.zero_le _) rfl ⟨rfl, rfl⟩
  · have e : w = 3 := Int32.toInt_inj.mp e
    subst e
    refine Ex.swI (t := 62) tsHi_part_1 (by decide) (by decide) rfl rfl ?_
    repeat (first | refine Ex.p rfl ?_ | refine Ex.ldc rfl ?_ | refine Ex.ldc2 rfl ?_ | refine Ex.gf 0 0 rfl rfl rfl ?_)
    exact Ex.lret rfl rfl (Nat.zero_le _) (Nat.zero_le _) rfl ⟨rfl, rfl⟩
  · have e : w = 4 := Int32.toInt_inj.mp e
    subst e
    refine Ex.swI (t := 68) tsHi_part_1 (by decide) (by decide) rfl rfl ?_
    repeat (first | refine Ex.p rfl ?_ | refine Ex.ldc rfl ?_ | refine Ex.ldc2 rfl ?_ | refine Ex.gf 0 0 rfl rfl rfl ?_)
    exact Ex.lret rfl rfl (Nat.zero_le _) (Nat.zero_le _) rfl ⟨rfl, rfl⟩
  · have e : w = 5 := Int32.toInt_inj.mp e
    subst e
    refine Ex.swI (t := 74) tsHi_part_1 (by decide) (by decide) rfl rfl ?_
    repeat (first | refine Ex.p rfl ?_ | refine Ex.ldc rfl ?_ | refine Ex.ldc2 rfl ?_ | refine Ex.gf 0 0 rfl rfl rfl ?_)
    exact Ex.lret rfl rfl (Nat.zero_le _) (Nat.zero_le _) rfl ⟨rfl, rfl⟩
  · have e : w = 6 := Int32.toInt_inj.mp e
    subst e
    refine Ex.swI (t := 80) tsHi_part_1 (by decide) (by decide) rfl rfl ?_
    repeat (first | refine Ex.p rfl ?_ | refine Ex.ldc rfl ?_ | refine Ex.ldc2 rfl ?_ | refine Ex.gf 0 0 rfl rfl rfl ?_)
    exact Ex.lret rfl rfl (Nat.zero_le _) (Nat.zero_le _) rfl ⟨rfl, rfl⟩
  · have e : w = 7 := Int32.toInt_inj.mp e
    subst e
    refine Ex.swO (t := 86) tsHi_part_1 (by decide) rfl ?_
    refine Ex.p rfl ?_
    refine Ex.cv (Mc := mHi_isSlot) (Rc := rm 0 0 0) (As := []) (rest := []) (Sr := []) (ic := 0) (jc := 0) [0] [] ct_Hi_isSlot rfl lk_3_41 lcHi_isSlot rfl rfl rfl rfl rfl (by decide) rfl rfl rfl (by decide) ⟨r1, by show 8 + (1 + 11) + 0 ≤ R.locals; omega⟩ (Nat.zero_le _) (Nat.zero_le _) (Nat.zero_le _) ?_
    rintro v S1 ⟨rfl, rfl⟩
    refine Ex.br rfl (fun c1 => ?_) (fun c1 => ?_)
    · repeat (first | refine Ex.p rfl ?_ | refine Ex.ldc rfl ?_ | refine Ex.ldc2 rfl ?_)
      refine Ex.lret rfl rfl (Nat.zero_le _) (Nat.zero_le _) rfl ⟨?_, rfl⟩
      cases hs : hslot h
      · simp [hpart, hs]
      · rw [hs] at c1; exact absurd c1 (by decide)
    · repeat (first | refine Ex.p rfl ?_ | refine Ex.ldc rfl ?_ | refine Ex.ldc2 rfl ?_)
      refine Ex.lret rfl rfl (Nat.zero_le _) (Nat.zero_le _) rfl ⟨?_, rfl⟩
      cases hs : hslot h
      · rw [hs] at c1; exact absurd rfl c1
      · simp [hpart, hs]
end HI

/-! the reference: say, sayNumber, sayPlace, sayTool, sayHit -/
theorem nL_toInt {n : Nat} (h : n < 2 ^ 63) : (Int64.ofNat n).toInt = n := Int64.toInt_ofNat_of_lt (by simpa using h)
theorem nL_div {a d : Nat} (ha : a < 2 ^ 63) (hd : d < 2 ^ 63) : Int64.ofNat a / Int64.ofNat d = Int64.ofNat (a / d) := by
  apply Int64.toInt_inj.mp
  have hq : a / d ≤ a := Nat.div_le_self _ _
  rw [Int64.toInt_div, nL_toInt ha, nL_toInt hd, nL_toInt (by omega), ← Int.ofNat_tdiv]
  generalize a / d = q at hq ⊢
  exact Int.bmod_eq_of_le (by omega) (by omega)
theorem nL_mul (a b : Nat) : Int64.ofNat a * Int64.ofNat b = Int64.ofNat (a * b) := (Int64.ofNat_mul a b).symm
theorem nL_rem {a d : Nat} (ha : a < 2 ^ 63) (hd : d < 2 ^ 63) : Int64.ofNat a - Int64.ofNat a / Int64.ofNat d * Int64.ofNat d = Int64.ofNat (a % d) := by
  have hm : a / d * d ≤ a := Nat.div_mul_le_self a d
  have := Nat.div_add_mod' a d
  rw [nL_div ha hd, nL_mul]
  apply Int64.toInt_inj.mp
  generalize a / d * d = q at hm this ⊢
  generalize a % d = r at this ⊢
  rw [Int64.toInt_sub, nL_toInt ha, nL_toInt (by omega), nL_toInt (by omega)]
  rw [Int.bmod_eq_of_le (by omega) (by omega)]
  omega
theorem nL_32 {a : Nat} (h : a < 2 ^ 31) : (Int64.ofNat a).toInt32 = nI a := by
  apply Int32.toInt_inj.mp
  rw [Int64.toInt_toInt32, nL_toInt (by omega), nI, Int32.toInt_ofNat']
theorem nL_ne {a : Nat} (h0 : 0 < a) (h : a < 2 ^ 63) : ¬ Int64.ofNat a = 0 := by
  intro e
  have e := congrArg Int64.toInt e
  rw [nL_toInt h, show (0 : Int64).toInt = 0 from rfl] at e
  omega
theorem nL_lt {a b : Nat} (ha : a < 2 ^ 63) (hb : b < 2 ^ 63) : Int64.ofNat a < Int64.ofNat b ↔ a < b := by
  rw [Int64.lt_iff_toInt_lt, nL_toInt ha, nL_toInt hb]
  omega
theorem nL_le {a b : Nat} (ha : a < 2 ^ 63) (hb : b < 2 ^ 63) : Int64.ofNat a ≤ Int64.ofNat b ↔ a ≤ b := by
  rw [Int64.le_iff_toInt_le, nL_toInt ha, nL_toInt hb]
  omega
def numT (v : Int32) : List Int32 := (if v.toInt < 0 then [45] else []) ++ ds v.toInt.natAbs 7
theorem numT_len (v : Int32) : (numT v).length ≤ 8 := by
  have := part_len 0 v
  have e : part 0 v = 0 :: numT v := rfl
  rw [e] at this
  simpa using this
theorem ds_top {w k : Nat} (h : w < 10 ^ (k + 1)) : ∀ m, ds w (k + 1 + m) = ds w (k + 1)
  | 0 => rfl
  | m + 1 => by
    show (if 10 ^ (k + 1 + m) ≤ w ∨ k + 1 + m = 0 then _ else []) ++ ds w (k + 1 + m) = _
    have h1 : 10 ^ (k + 1) ≤ 10 ^ (k + 1 + m) := Nat.pow_le_pow_right (by omega) (by omega)
    rw [if_neg (by omega), ds_top h m]
    rfl
/-- what lies on the page -/
def PgIs (g : Nat → Int32) (xs : List Int32) : Prop := ∀ (j : Nat) (h : j < xs.length), g j = xs[j]
section MOD
variable {l : Launch} {D : xD} {R : Room}
theorem ct_Mo_say {m : Nat} {B : Nat → Nat} {u : Int32} {xs : List Int32} {gW : Nat → Int32} {th mn ln ap bg wr fi fe wa wn fo st rf rt cu : Int32} {me hl : Bool} (hp : PgIs gW xs) (hlt : xs.length < 3000) : Ct l mMo_say D R [.ref m, .int u] [sMo m B th mn (nI xs.length) ln ap bg wr me fi fe wa wn fo st hl rf rt cu, cMW D B gW] (fun v S => v = none ∧ ∃ gW', S = [sMo m B th mn (nI (xs ++ [u]).length) ln ap bg wr me fi fe wa wn fo st hl rf rt cu, cMW D B gW'] ∧ PgIs gW' (xs ++ [u])) := by
  refine Ct.of rfl (by decide) tkMo_say (Nat.le_of_ble_eq_true rfl) (fun A => ?_)
  refine Ex.p rfl ?_
  refine Ex.gf 0 0 rfl rfl rfl ?_
  refine Ex.p rfl ?_
  refine Ex.gf 0 0 rfl rfl rfl ?_
  refine Ex.p rfl ?_
  refine Ex.ias 1 0 xs.length rfl rfl rfl (nI_toInt (by omega)) (by omega) ?_
  refine Ex.p rfl ?_
  refine Ex.p rfl ?_
  refine Ex.gf 0 0 rfl rfl rfl ?_
  refine Ex.p rfl ?_
  refine Ex.p rfl ?_
  rw [i_add1]
  refine Ex.pf 0 0 rfl rfl rfl rfl rfl rfl ?_
  refine Ex.vret (S' := [sMo m B th mn (nI (xs ++ [u]).length) ln ap bg wr me fi fe wa wn fo st hl rf rt cu, cMW D B (upd gW xs.length u)]) rfl rfl (Nat.zero_le _) (Nat.zero_le _) (by rw [List.length_append]; rfl) ⟨rfl, _, rfl, fun j hj => ?_⟩
  rcases Nat.lt_or_ge j xs.length with q | q
  · rw [upd_n _ _ (by omega), List.getElem_append_left q]
    exact hp j q
  · have ej : j = xs.length := by simp at hj; omega
    subst ej
    rw [upd_s, List.getElem_concat_length]
    rfl
theorem ct_Mo_sayNumber {m : Nat} {B : Nat → Nat} {x : Int32} {y9 : Int64} {xs : List Int32} {gW : Nat → Int32} {th mn ln ap bg wr fi fe wa wn fo st rf rt cu : Int32} {me hl : Bool} (hp : PgIs gW xs) (hlt : xs.length + 8 ≤ 3000) (hy : x.toInt64 = y9) (hx : x.toInt.natAbs ≤ 1000000) (hr : rmOk R 1 0 0) : Ct l mMo_sayNumber D R [.ref m, .long y9] [sMo m B th mn (nI xs.length) ln ap bg wr me fi fe wa wn fo st hl rf rt cu, cMW D B gW] (fun v S => v = none ∧ ∃ gW', S = [sMo m B th mn (nI (xs ++ numT x).length) ln ap bg wr me fi fe wa wn fo st hl rf rt cu, cMW D B gW'] ∧ PgIs gW' (xs ++ numT x)) := by
  obtain ⟨r1, r2, r3, r4⟩ := hr
  subst hy
  have hsz := abs64_n (x := x.toInt64) (Int32.toInt_toInt64 x) (by omega)
  have ew : abs64 x.toInt64 = Int64.ofNat x.toInt.natAbs := by
    apply Int64.toInt_inj.mp
    rw [hsz, nL_toInt (by omega)]
  have htl := numT_len x
  generalize hQ9 : xs ++ numT x = Y
  have hYl : Y.length ≤ 3000 := by rw [← hQ9, List.length_append]; omega
  refine Ct.of rfl (by decide) tkMo_sayNumber (Nat.le_of_ble_eq_true rfl) (fun A => ?_)
  generalize hQ : (fun (v : Option Value) S => v = none ∧ ∃ gW', S = [sMo m B th mn (nI Y.length) ln ap bg wr me fi fe wa wn fo st hl rf rt cu, cMW D B gW'] ∧ PgIs gW' Y) = Q
  generalize hw : x.toInt.natAbs = w at hx ew
  have digits : ∀ (j : Nat), j < 8 → ∀ (ys : List Int32) (g : Nat → Int32), PgIs g ys → ys ++ ds w j = Y → (∀ i, 0 < i → i < j → 10 ^ i ≤ w) → ∀ lv9 : List (Nat × Value), (∀ q ∈ [(5, Value.long (Int64.ofNat (uv j))), (3, .long (Int64.ofNat w)), (0, .ref m)], q ∈ lv9) → ∀ k8 n8 : Nat, k8 ≤ 0 → n8 ≤ 0 → Ex l mMo_sayNumber D R A (xQ D A Q) R.cells R.slots 42 lv9 [] [sMo m B th mn (nI ys.length) ln ap bg wr me fi fe wa wn fo st hl rf rt cu, cMW D B g] k8 n8 := by
    intro j
    induction j with
    | zero =>
      intro _ ys g hg e1 _ lv9 hlv k8 n8 hk8 hn8
      refine Ex.more (k' := 0) (n' := 0) hk8 hn8 ?_
      refine Ex.lv hlv ?_
      rw [show ds w 0 = [] from rfl, List.append_nil] at e1
      subst e1
      refine Ex.p rfl ?_
      refine Ex.p rfl ?_
      refine Ex.p rfl ?_
      refine Ex.br rfl (fun _ => ?_) (fun c => absurd (by decide) c)
      refine Ex.vret rfl rfl (Nat.zero_le _) (Nat.zero_le _) rfl ?_
      subst hQ
      exact ⟨rfl, g, rfl, hg⟩
    | succ j ih =>
      intro hj ys g hg e1 hbig lv9 hlv k8 n8 hk8 hn8
      refine Ex.more (k' := 0) (n' := 0) hk8 hn8 ?_
      refine Ex.lv hlv ?_
      obtain ⟨u1, u2⟩ := uv_pos (j + 1) hj (by omega)
      have hu : uv (j + 1) = 10 ^ j := rfl
      have e3 : ds w (j + 1) = nI (48 + w / uv (j + 1) % 10) :: ds w j := by
        show (if 10 ^ j ≤ w ∨ j = 0 then [nI (48 + w / 10 ^ j % 10)] else []) ++ ds w j = _
        rw [if_pos]
        · rfl
        · rcases Nat.eq_zero_or_pos j with q | q
          · exact Or.inr q
          · exact Or.inl (hbig j q (by omega))
      rw [e3] at e1
      have hyl : ys.length < 3000 := by
        have := congrArg List.length e1
        rw [List.length_append, List.length_cons] at this
        omega
      refine Ex.p rfl ?_
      refine Ex.p rfl ?_
      refine Ex.p rfl ?_
      refine Ex.br rfl (fun c => ?_) (fun _ => ?_)
      · rw [lg_cmp_le] at c
        have c : Int64.ofNat (uv (j + 1)) ≤ Int64.ofNat 0 := c
        rw [nL_le (by omega) (by omega)] at c
        omega
      · refine Ex.p rfl ?_
        refine Ex.p rfl ?_
        refine Ex.p rfl ?_
        refine Ex.ldiv rfl (nL_ne u1 (by omega)) ?_
        rw [nL_div (by omega) (by omega)]
        refine Ex.ldc2 rfl ?_
        refine Ex.lrem rfl (by decide) ?_
        have hwd : w / uv (j + 1) ≤ w := Nat.div_le_self _ _
        rw [show (10 : Int64) = Int64.ofNat 10 from rfl, nL_rem (by omega) (by omega)]
        refine Ex.p rfl ?_
        rw [nL_32 (by omega)]
        refine Ex.p rfl ?_
        refine Ex.p rfl ?_
        rw [show nI (w / uv (j + 1) % 10) + (Int8.ofInt 48).toInt32 = nI (48 + w / uv (j + 1) % 10) from by rw [Nat.add_comm 48]; exact nI_add _ 48]
        refine Ex.cv (Mc := mMo_say) (Rc := rm 0 0 0) (As := [.int (nI (48 + w / uv (j + 1) % 10))]) (rest := []) (Sr := []) (ic := 0) (jc := 0) (ci := 10) [0, 1] [] (ct_Mo_say hg hyl) rfl lk_10_152 lcMo_say rfl rfl rfl rfl rfl (by decide) rfl rfl rfl (by decide) ⟨by dsimp only [rm]; omega, by show 8 + (2 + 11) + 0 ≤ R.locals; omega⟩ (Nat.le_of_ble_eq_true rfl) (by first | (dsimp only [rm]; omega) | omega) (by first | (dsimp only [rm]; omega) | omega) ?_
        rintro v S1 ⟨rfl, g2, rfl, hg2⟩
        refine Ex.p rfl ?_
        refine Ex.ldc2 rfl ?_
        refine Ex.ldiv rfl (by decide) ?_
        rw [show (10 : Int64) = Int64.ofNat 10 from rfl, nL_div (by omega) (by omega), uv_div (j + 1) hj (by omega)]
        refine Ex.p rfl ?_
        refine Ex.p rfl ?_
        refine ih (by omega) (ys ++ [nI (48 + w / uv (j + 1) % 10)]) g2 hg2 (by rw [List.append_assoc]; exact e1) (fun i h1 h2 => hbig i h1 (by omega)) _ (fun q h => ?_) _ _ (by first | (dsimp only [rm]; omega) | omega) (by first | (dsimp only [rm]; omega) | omega)
        simp only [List.mem_cons, List.not_mem_nil, or_false] at h
        rcases h with rfl | rfl | rfl <;> first | (simp [xs1, xs2, lv_args, Value.category, b32, nI]; done) | (simp [xs1, xs2, lv_args, Value.category, b32, nI]; decide) | (simp [xs1, xs2, lv_args, Value.category, b32, nI]; exact Or.inr (by decide)) | (simp [xs1, xs2, lv_args, Value.category, b32, nI]; exact Or.inl (by decide))
  have grow : ∀ (k8 k : Nat) (ys : List Int32) (g : Nat → Int32), 7 - k < k8 → k ≤ 6 → (k = 0 ∨ 10 ^ k ≤ w) → PgIs g ys → ys ++ ds w 7 = Y → ∀ lv9 : List (Nat × Value), (∀ q ∈ [(5, Value.long (Int64.ofNat (10 ^ k))), (3, .long (Int64.ofNat w)), (0, .ref m)], q ∈ lv9) → Ex l mMo_sayNumber D R A (xQ D A Q) R.cells R.slots 20 lv9 [] [sMo m B th mn (nI ys.length) ln ap bg wr me fi fe wa wn fo st hl rf rt cu, cMW D B g] 0 0 := by
    intro k8
    induction k8 with
    | zero => intro k ys g h; omega
    | succ k8 ih =>
      intro k ys g hk8 hk h0 hg e1 lv9 hlv
      refine Ex.lv hlv ?_
      have hpk : 10 ^ k ≤ 1000000 := by
        have := Nat.pow_le_pow_right (n := 10) (by omega) hk
        exact Nat.le_trans this (by decide)
      have hp0 : 0 < 10 ^ k := Nat.pow_pos (by omega)
      have hwd : w / 10 ^ k ≤ w := Nat.div_le_self _ _
      refine Ex.p rfl ?_
      refine Ex.p rfl ?_
      refine Ex.ldiv rfl (nL_ne hp0 (by omega)) ?_
      rw [nL_div (by omega) (by omega)]
      refine Ex.ldc2 rfl ?_
      refine Ex.p rfl ?_
      refine Ex.br rfl (fun c => ?_) (fun c => ?_)
      · rw [lg_cmp_lt, show (10 : Int64) = Int64.ofNat 10 from rfl, nL_lt (by omega) (by omega)] at c
        have hlt9 : w < 10 ^ (k + 1) := by
          rw [Nat.pow_succ]
          exact (Nat.div_lt_iff_lt_mul hp0).mp c |> fun h => by rw [Nat.mul_comm]; exact h
        have hdt := ds_top hlt9 (7 - (k + 1))
        rw [show k + 1 + (7 - (k + 1)) = 7 by omega] at hdt
        rw [hdt] at e1
        refine digits (k + 1) (by omega) ys g hg e1 (fun i h1 h2 => ?_) _ (fun q h => ?_) 0 0 (Nat.le_refl _) (Nat.le_refl _)
        · rcases h0 with h0 | h0
          · omega
          · exact Nat.le_trans (Nat.pow_le_pow_right (by omega) (by omega)) h0
        · rw [show uv (k + 1) = 10 ^ k from rfl] at h
          simp only [List.mem_cons, List.not_mem_nil, or_false] at h
          rcases h with rfl | rfl | rfl <;> first | (simp [xs1, xs2, lv_args, Value.category, b32, nI]; done) | (simp [xs1, xs2, lv_args, Value.category, b32, nI]; decide) | (simp [xs1, xs2, lv_args, Value.category, b32, nI]; exact Or.inr (by decide)) | (simp [xs1, xs2, lv_args, Value.category, b32, nI]; exact Or.inl (by decide))
      · rw [lg_cmp_lt, show (10 : Int64) = Int64.ofNat 10 from rfl, nL_lt (by omega) (by omega)] at c
        have hge9 : 10 ^ (k + 1) ≤ w := by
          rw [Nat.pow_succ, Nat.mul_comm]
          exact (Nat.le_div_iff_mul_le hp0).mp (Nat.not_lt.mp c)
        have hk6 : k + 1 ≤ 6 := by
          by_cases q : k + 1 ≤ 6
          · exact q
          · have ek : k = 6 := by omega
            subst ek
            have : 10 ^ (6 + 1) = 10000000 := by decide
            omega
        refine Ex.ldc2 rfl ?_
        refine Ex.p rfl ?_
        refine Ex.p rfl ?_
        rw [show (10 : Int64) * Int64.ofNat (10 ^ k) = Int64.ofNat (10 ^ (k + 1)) from by rw [Nat.pow_succ, Nat.mul_comm]; exact nL_mul 10 _]
        refine Ex.p rfl ?_
        refine Ex.p rfl ?_
        refine ih (k + 1) ys g (by omega) hk6 (Or.inr hge9) hg e1 _ (fun q h => ?_)
        simp only [List.mem_cons, List.not_mem_nil, or_false] at h
        rcases h with rfl | rfl | rfl <;> first | (simp [xs1, xs2, lv_args, Value.category, b32, nI]; done) | (simp [xs1, xs2, lv_args, Value.category, b32, nI]; decide) | (simp [xs1, xs2, lv_args, Value.category, b32, nI]; exact Or.inr (by decide)) | (simp [xs1, xs2, lv_args, Value.category, b32, nI]; exact Or.inl (by decide))
  have s12 : ∀ (ys : List Int32) (g : Nat → Int32), PgIs g ys → ys ++ ds w 7 = Y → ∀ k8 n8 : Nat, k8 ≤ 0 → n8 ≤ 0 → Ex l mMo_sayNumber D R A (xQ D A Q) R.cells R.slots 12 (lv_args 0 [.ref m, .long x.toInt64]) [] [sMo m B th mn (nI ys.length) ln ap bg wr me fi fe wa wn fo st hl rf rt cu, cMW D B g] k8 n8 := by
    intro ys g hg e1 k8 n8 hk8 hn8
    refine Ex.more (k' := 0) (n' := 0) hk8 hn8 ?_
    refine Ex.p rfl ?_
    refine Ex.cs0 (Mc := mMo_size) (Rc := rm 0 0 0) (As := [.long x.toInt64]) (rest := []) (ct_Mo_size) rfl lk_10_119 lcMo_size rfl ⟨by dsimp only [rm]; omega, by show 8 + (2 + 11) + 0 ≤ R.locals; omega⟩ (Nat.le_of_ble_eq_true rfl) (by first | (dsimp only [rm]; omega) | omega) (by first | (dsimp only [rm]; omega) | omega) ?_
    rintro v S1 ⟨rfl, rfl⟩
    rw [ew]
    refine Ex.p rfl ?_
    refine Ex.p rfl ?_
    refine Ex.p rfl ?_
    refine grow 8 0 ys g (by omega) (by omega) (Or.inl rfl) hg e1 _ (fun q h => ?_)
    rw [show Int64.ofNat (10 ^ 0) = Int64.ofNat 1 from rfl] at h
    simp only [List.mem_cons, List.not_mem_nil, or_false] at h
    rcases h with rfl | rfl | rfl <;> first | (simp [xs1, xs2, lv_args, Value.category, b32, nI]; done) | (simp [xs1, xs2, lv_args, Value.category, b32, nI]; decide) | (simp [xs1, xs2, lv_args, Value.category, b32, nI]; exact Or.inr (by decide)) | (simp [xs1, xs2, lv_args, Value.category, b32, nI]; exact Or.inl (by decide))
  refine Ex.p rfl ?_
  refine Ex.p rfl ?_
  refine Ex.p rfl ?_
  refine Ex.br rfl (fun c => ?_) (fun c => ?_)
  · rw [lg_cmp_ge, Int64.le_iff_toInt_le, Int32.toInt_toInt64] at c
    have c : 0 ≤ x.toInt := c
    refine s12 xs gW hp ?_ 0 0 (Nat.le_refl _) (Nat.le_refl _)
    rw [← hQ9, numT, if_neg (by omega), hw]
    rfl
  · rw [lg_cmp_ge, Int64.le_iff_toInt_le, Int32.toInt_toInt64] at c
    have c : ¬ 0 ≤ x.toInt := c
    refine Ex.p rfl ?_
    refine Ex.p rfl ?_
    refine Ex.cv (Mc := mMo_say) (Rc := rm 0 0 0) (As := [.int 45]) (rest := []) (Sr := []) (ic := 0) (jc := 0) (ci := 10) [0, 1] [] (ct_Mo_say hp (by omega)) rfl lk_10_152 lcMo_say rfl rfl rfl rfl rfl (by decide) rfl rfl rfl (by decide) ⟨by dsimp only [rm]; omega, by show 8 + (2 + 11) + 0 ≤ R.locals; omega⟩ (Nat.le_of_ble_eq_true rfl) (by first | (dsimp only [rm]; omega) | omega) (by first | (dsimp only [rm]; omega) | omega) ?_
    rintro v S1 ⟨rfl, g2, rfl, hg2⟩
    refine s12 (xs ++ [45]) g2 hg2 ?_ _ _ (by first | (dsimp only [rm]; omega) | omega) (by first | (dsimp only [rm]; omega) | omega)
    rw [← hQ9, numT, if_pos (by omega), hw, List.append_assoc]
theorem ct_Mo_sayPlace {m : Nat} {B : Nat → Nat} {x y : Int32} {xs : List Int32} {gW : Nat → Int32} {th mn ln ap bg wr fi fe wa wn fo st rf rt cu : Int32} {me hl : Bool} (hp : PgIs gW xs) (hlt : xs.length + 18 ≤ 3000) (hx : x.toInt.natAbs ≤ 1000000) (hy : y.toInt.natAbs ≤ 1000000) (hr : rmOk R 2 0 0) : Ct l mMo_sayPlace D R [.ref m, .long x.toInt64, .long y.toInt64] [sMo m B th mn (nI xs.length) ln ap bg wr me fi fe wa wn fo st hl rf rt cu, cMW D B gW] (fun v S => v = none ∧ ∃ gW', S = [sMo m B th mn (nI (xs ++ (part 88 x ++ part 89 y)).length) ln ap bg wr me fi fe wa wn fo st hl rf rt cu, cMW D B gW'] ∧ PgIs gW' (xs ++ (part 88 x ++ part 89 y))) := by
  obtain ⟨r1, r2, r3, r4⟩ := hr
  have l1 := numT_len x
  refine Ct.of rfl (by decide) tkMo_sayPlace (Nat.le_of_ble_eq_true rfl) (fun A => ?_)
  refine Ex.p rfl ?_
  refine Ex.p rfl ?_
  refine Ex.cv (Mc := mMo_say) (Rc := rm 0 0 0) (As := [.int 88]) (rest := []) (Sr := []) (ic := 0) (jc := 0) (ci := 10) [0, 1] [] (ct_Mo_say hp (by omega)) rfl lk_10_152 lcMo_say rfl rfl rfl rfl rfl (by decide) rfl rfl rfl (by decide) ⟨by dsimp only [rm]; omega, by show 8 + (2 + 11) + 0 ≤ R.locals; omega⟩ (Nat.le_of_ble_eq_true rfl) (by first | (dsimp only [rm]; omega) | omega) (by first | (dsimp only [rm]; omega) | omega) ?_
  rintro v S1 ⟨rfl, g1, rfl, hg1⟩
  refine Ex.p rfl ?_
  refine Ex.p rfl ?_
  refine Ex.cv (Mc := mMo_sayNumber) (Rc := rm 1 0 0) (As := [.long x.toInt64]) (rest := []) (Sr := []) (ic := 0) (jc := 0) (ci := 10) [0, 1] [] (ct_Mo_sayNumber hg1 (by simp; omega) rfl hx (rm_ok _ _ _)) rfl lk_10_157 lcMo_sayNumber rfl rfl rfl rfl rfl (by decide) rfl rfl rfl (by decide) ⟨by dsimp only [rm]; omega, by show 8 + (7 + 11) + 40 ≤ R.locals; omega⟩ (Nat.le_of_ble_eq_true rfl) (by first | (dsimp only [rm]; omega) | omega) (by first | (dsimp only [rm]; omega) | omega) ?_
  rintro v S1 ⟨rfl, g2, rfl, hg2⟩
  refine Ex.p rfl ?_
  refine Ex.p rfl ?_
  refine Ex.cv (Mc := mMo_say) (Rc := rm 0 0 0) (As := [.int 89]) (rest := []) (Sr := []) (ic := 0) (jc := 0) (ci := 10) [0, 1] [] (ct_Mo_say hg2 (by simp; omega)) rfl lk_10_152 lcMo_say rfl rfl rfl rfl rfl (by decide) rfl rfl rfl (by decide) ⟨by dsimp only [rm]; omega, by show 8 + (2 + 11) + 0 ≤ R.locals; omega⟩ (Nat.le_of_ble_eq_true rfl) (by first | (dsimp only [rm]; omega) | omega) (by first | (dsimp only [rm]; omega) | omega) ?_
  rintro v S1 ⟨rfl, g3, rfl, hg3⟩
  refine Ex.p rfl ?_
  refine Ex.p rfl ?_
  refine Ex.cv (Mc := mMo_sayNumber) (Rc := rm 1 0 0) (As := [.long y.toInt64]) (rest := []) (Sr := []) (ic := 0) (jc := 0) (ci := 10) [0, 1] [] (ct_Mo_sayNumber hg3 (by simp; omega) rfl hy (rm_ok _ _ _)) rfl lk_10_157 lcMo_sayNumber rfl rfl rfl rfl rfl (by decide) rfl rfl rfl (by decide) ⟨by dsimp only [rm]; omega, by show 8 + (7 + 11) + 40 ≤ R.locals; omega⟩ (Nat.le_of_ble_eq_true rfl) (by first | (dsimp only [rm]; omega) | omega) (by first | (dsimp only [rm]; omega) | omega) ?_
  rintro v S1 ⟨rfl, g4, rfl, hg4⟩
  have e : xs ++ [88] ++ numT x ++ [89] ++ numT y = xs ++ (part 88 x ++ part 89 y) := by
    rw [show part 88 x = [88] ++ numT x from rfl, show part 89 y = [89] ++ numT y from rfl]
    simp only [List.append_assoc]
  rw [e] at hg4 ⊢
  exact Ex.vret rfl rfl (by first | (dsimp only [rm]; omega) | omega) (by first | (dsimp only [rm]; omega) | omega) rfl ⟨rfl, _, rfl, hg4⟩
theorem ct_Mo_sayTool {m t : Nat} {B : Nat → Nat} {xs : List Int32} {gW : Nat → Int32} {th mn ln ap bg wr fi fe wa wn fo st rf rt cu : Int32} {me hl : Bool} (hp : PgIs gW xs) (hlt : xs.length + 9 ≤ 3000) (ht : t ≤ 1000) (hr : rmOk R 2 0 0) : Ct l mMo_sayTool D R [.ref m, .int (nI t)] [sMo m B th mn (nI xs.length) ln ap bg wr me fi fe wa wn fo st hl rf rt cu, cMW D B gW] (fun v S => v = none ∧ ∃ gW', S = [sMo m B th mn (nI (xs ++ part 84 (nI t)).length) ln ap bg wr me fi fe wa wn fo st hl rf rt cu, cMW D B gW'] ∧ PgIs gW' (xs ++ part 84 (nI t))) := by
  obtain ⟨r1, r2, r3, r4⟩ := hr
  refine Ct.of rfl (by decide) tkMo_sayTool (Nat.le_of_ble_eq_true rfl) (fun A => ?_)
  refine Ex.p rfl ?_
  refine Ex.p rfl ?_
  refine Ex.cv (Mc := mMo_say) (Rc := rm 0 0 0) (As := [.int 84]) (rest := []) (Sr := []) (ic := 0) (jc := 0) (ci := 10) [0, 1] [] (ct_Mo_say hp (by omega)) rfl lk_10_152 lcMo_say rfl rfl rfl rfl rfl (by decide) rfl rfl rfl (by decide) ⟨by dsimp only [rm]; omega, by show 8 + (2 + 11) + 0 ≤ R.locals; omega⟩ (Nat.le_of_ble_eq_true rfl) (by first | (dsimp only [rm]; omega) | omega) (by first | (dsimp only [rm]; omega) | omega) ?_
  rintro v S1 ⟨rfl, g1, rfl, hg1⟩
  refine Ex.p rfl ?_
  refine Ex.p rfl ?_
  refine Ex.p rfl ?_
  refine Ex.cv (Mc := mMo_sayNumber) (Rc := rm 1 0 0) (As := [.long (nI t).toInt64]) (rest := []) (Sr := []) (ic := 0) (jc := 0) (ci := 10) [0, 1] [] (ct_Mo_sayNumber hg1 (by simp; omega) rfl (by rw [nI_toInt (by omega)]; omega) (rm_ok _ _ _)) rfl lk_10_157 lcMo_sayNumber rfl rfl rfl rfl rfl (by decide) rfl rfl rfl (by decide) ⟨by dsimp only [rm]; omega, by show 8 + (7 + 11) + 40 ≤ R.locals; omega⟩ (Nat.le_of_ble_eq_true rfl) (by first | (dsimp only [rm]; omega) | omega) (by first | (dsimp only [rm]; omega) | omega) ?_
  rintro v S1 ⟨rfl, g2, rfl, hg2⟩
  have e : xs ++ [84] ++ numT (nI t) = xs ++ part 84 (nI t) := by
    rw [show part 84 (nI t) = [84] ++ numT (nI t) from rfl]
    simp only [List.append_assoc]
  rw [e] at hg2 ⊢
  exact Ex.vret rfl rfl (by first | (dsimp only [rm]; omega) | omega) (by first | (dsimp only [rm]; omega) | omega) rfl ⟨rfl, _, rfl, hg2⟩
theorem ct_Mo_sayHit {m k : Nat} {B : Nat → Nat} {h : HV} {xs : List Int32} {gW : Nat → Int32} {th mn ln ap bg wr fi fe wa wn fo st rf rt cu : Int32} {me hl : Bool} {L : Nat → List HV} {C : va_W} (iH : IsMH D B L C) (hk : (L 0)[k]? = some h) (ho : hOK h) (hp : PgIs gW xs) (hlt : xs.length + 40 ≤ 3000) (hr : rmOk R 3 0 0) : Ct l mMo_sayHit D R [.ref m, .int (nI k)] [sMo m B th mn (nI xs.length) ln ap bg wr me fi fe wa wn fo st hl rf rt cu, C, cMW D B gW] (fun v S => v = none ∧ ∃ gW', S = [sMo m B th mn (nI (xs ++ hline h).length) ln ap bg wr me fi fe wa wn fo st hl rf rt cu, C, cMW D B gW'] ∧ PgIs gW' (xs ++ hline h)) := by
  obtain ⟨r1, r2, r3, r4⟩ := hr
  obtain ⟨gH, gO, gX, gY, gE, gG, gF, gU, gS, rfl, hs⟩ := iH
  obtain ⟨h1, h2, h3⟩ := hs 0 (by omega)
  have hkl := (List.getElem?_eq_some_iff.mp hk).1
  obtain ⟨-, q2, q3, q4, q5, -, -, q8⟩ := h3 k h hk
  rw [show 60 * 0 + k = k by omega] at q2 q3 q4 q5 q8
  obtain ⟨n1, n2, n3, n4⟩ := ho.1
  have l1 := part_len 88 h.2.1
  have l2 := part_len 89 h.2.2.1
  have l3 := part_len 88 h.2.2.2.1
  have l4 := part_len 89 h.2.2.2.2.1
  refine Ct.of rfl (by decide) tkMo_sayHit (Nat.le_of_ble_eq_true rfl) (fun A => ?_)
  have s59 : ∀ (ys : List Int32) (g : Nat → Int32), PgIs g ys → ys.length < 3000 → ys ++ [10] = xs ++ hline h → ∀ k8 n8 : Nat, k8 ≤ 0 → n8 ≤ 0 → Ex l mMo_sayHit D R A (xQ D A (fun v S => v = none ∧ ∃ gW', S = [sMo m B th mn (nI (xs ++ hline h).length) ln ap bg wr me fi fe wa wn fo st hl rf rt cu, cMH D B gH gO gX gY gE gG gF gU gS, cMW D B gW'] ∧ PgIs gW' (xs ++ hline h))) R.cells R.slots 59 (lv_args 0 [.ref m, .int (nI k)]) [] [sMo m B th mn (nI ys.length) ln ap bg wr me fi fe wa wn fo st hl rf rt cu, cMH D B gH gO gX gY gE gG gF gU gS, cMW D B g] k8 n8 := by
    intro ys g hg hyl e k8 n8 hk8 hn8
    refine Ex.more (k' := 0) (n' := 0) hk8 hn8 ?_
    refine Ex.p rfl ?_
    refine Ex.p rfl ?_
    refine Ex.cv (Mc := mMo_say) (Rc := rm 0 0 0) (As := [.int 10]) (rest := []) (Sr := [cMH D B gH gO gX gY gE gG gF gU gS]) (ic := 0) (jc := 0) (ci := 10) [0, 2] [1] (ct_Mo_say hg hyl) rfl lk_10_152 lcMo_say rfl rfl rfl rfl rfl (by decide) rfl rfl rfl (by decide) ⟨by dsimp only [rm]; omega, by show 8 + (2 + 11) + 0 ≤ R.locals; omega⟩ (Nat.le_of_ble_eq_true rfl) (by first | (dsimp only [rm]; omega) | omega) (by first | (dsimp only [rm]; omega) | omega) ?_
    rintro v S1 ⟨rfl, g1, rfl, hg1⟩
    rw [e] at hg1 ⊢
    refine Ex.sub (S' := [sMo m B th mn (nI (xs ++ hline h).length) ln ap bg wr me fi fe wa wn fo st hl rf rt cu, cMH D B gH gO gX gY gE gG gF gU gS, cMW D B g1]) [1, 0, 2] rfl rfl ?_
    exact Ex.vret rfl rfl (by first | (dsimp only [rm]; omega) | omega) (by first | (dsimp only [rm]; omega) | omega) rfl ⟨rfl, _, rfl, hg1⟩
  refine Ex.p rfl ?_
  refine Ex.p rfl ?_
  refine Ex.gf 0 0 rfl rfl rfl ?_
  refine Ex.p rfl ?_
  refine Ex.lal 1 2 k rfl rfl rfl (nI_toInt (by omega)) (by omega) ?_
  rw [q2]
  refine Ex.p rfl ?_
  refine Ex.gf 0 0 rfl rfl rfl ?_
  refine Ex.p rfl ?_
  refine Ex.lal 1 3 k rfl rfl rfl (nI_toInt (by omega)) (by omega) ?_
  rw [q3]
  refine Ex.cv (Mc := mMo_sayPlace) (Rc := rm 2 0 0) (As := [.long h.2.1.toInt64, .long h.2.2.1.toInt64]) (rest := []) (Sr := [cMH D B gH gO gX gY gE gG gF gU gS]) (ic := 0) (jc := 0) (ci := 10) [0, 2] [1] (ct_Mo_sayPlace hp (by omega) n1 n2 (rm_ok _ _ _)) rfl lk_10_161 lcMo_sayPlace rfl rfl rfl rfl rfl (by decide) rfl rfl rfl (by decide) ⟨by dsimp only [rm]; omega, by show 8 + (5 + 11) + 80 ≤ R.locals; omega⟩ (Nat.le_of_ble_eq_true rfl) (by first | (dsimp only [rm]; omega) | omega) (by first | (dsimp only [rm]; omega) | omega) ?_
  rintro v S1 ⟨rfl, g1, rfl, hg1⟩
  have hl1 : (xs ++ (part 88 h.2.1 ++ part 89 h.2.2.1)).length ≤ xs.length + 18 := by
    rw [List.length_append, List.length_append]
    omega
  generalize hy1 : xs ++ (part 88 h.2.1 ++ part 89 h.2.2.1) = ys at hg1 hl1
  refine Ex.sub (S' := [sMo m B th mn (nI ys.length) ln ap bg wr me fi fe wa wn fo st hl rf rt cu, cMH D B gH gO gX gY gE gG gF gU gS, cMW D B g1]) [1, 0, 2] rfl rfl ?_
  refine Ex.p rfl ?_
  refine Ex.gf 0 0 rfl rfl rfl ?_
  refine Ex.p rfl ?_
  refine Ex.zal 1 8 k rfl rfl rfl (nI_toInt (by omega)) (by omega) ?_
  rw [q8]
  cases hsl : hslot h with
  | false =>
    refine Ex.br rfl (fun _ => ?_) (fun c => absurd rfl c)
    refine s59 ys g1 hg1 (by omega) ?_ _ _ (by first | (dsimp only [rm]; omega) | omega) (by first | (dsimp only [rm]; omega) | omega)
    rw [← hy1, hline, hsl]
    simp
  | true =>
    refine Ex.br rfl (fun c => absurd c (show (1 : Int32) ≠ 0 by decide)) (fun _ => ?_)
    refine Ex.p rfl ?_
    refine Ex.p rfl ?_
    refine Ex.cv (Mc := mMo_say) (Rc := rm 0 0 0) (As := [.int 71]) (rest := []) (Sr := [cMH D B gH gO gX gY gE gG gF gU gS]) (ic := 0) (jc := 0) (ci := 10) [0, 2] [1] (ct_Mo_say hg1 (by omega)) rfl lk_10_152 lcMo_say rfl rfl rfl rfl rfl (by decide) rfl rfl rfl (by decide) ⟨by dsimp only [rm]; omega, by show 8 + (2 + 11) + 0 ≤ R.locals; omega⟩ (Nat.le_of_ble_eq_true rfl) (by first | (dsimp only [rm]; omega) | omega) (by first | (dsimp only [rm]; omega) | omega) ?_
    rintro v S1 ⟨rfl, g2, rfl, hg2⟩
    refine Ex.sub (S' := [sMo m B th mn _ ln ap bg wr me fi fe wa wn fo st hl rf rt cu, cMH D B gH gO gX gY gE gG gF gU gS, cMW D B g2]) [1, 0, 2] rfl rfl ?_
    refine Ex.p rfl ?_
    refine Ex.p rfl ?_
    refine Ex.cv (Mc := mMo_say) (Rc := rm 0 0 0) (As := [.int 56]) (rest := []) (Sr := [cMH D B gH gO gX gY gE gG gF gU gS]) (ic := 0) (jc := 0) (ci := 10) [0, 2] [1] (ct_Mo_say hg2 (by simp; omega)) rfl lk_10_152 lcMo_say rfl rfl rfl rfl rfl (by decide) rfl rfl rfl (by decide) ⟨by dsimp only [rm]; omega, by show 8 + (2 + 11) + 0 ≤ R.locals; omega⟩ (Nat.le_of_ble_eq_true rfl) (by first | (dsimp only [rm]; omega) | omega) (by first | (dsimp only [rm]; omega) | omega) ?_
    rintro v S1 ⟨rfl, g3, rfl, hg3⟩
    refine Ex.sub (S' := [sMo m B th mn _ ln ap bg wr me fi fe wa wn fo st hl rf rt cu, cMH D B gH gO gX gY gE gG gF gU gS, cMW D B g3]) [1, 0, 2] rfl rfl ?_
    refine Ex.p rfl ?_
    refine Ex.p rfl ?_
    refine Ex.cv (Mc := mMo_say) (Rc := rm 0 0 0) (As := [.int 53]) (rest := []) (Sr := [cMH D B gH gO gX gY gE gG gF gU gS]) (ic := 0) (jc := 0) (ci := 10) [0, 2] [1] (ct_Mo_say hg3 (by simp; omega)) rfl lk_10_152 lcMo_say rfl rfl rfl rfl rfl (by decide) rfl rfl rfl (by decide) ⟨by dsimp only [rm]; omega, by show 8 + (2 + 11) + 0 ≤ R.locals; omega⟩ (Nat.le_of_ble_eq_true rfl) (by first | (dsimp only [rm]; omega) | omega) (by first | (dsimp only [rm]; omega) | omega) ?_
    rintro v S1 ⟨rfl, g4, rfl, hg4⟩
    refine Ex.sub (S' := [sMo m B th mn _ ln ap bg wr me fi fe wa wn fo st hl rf rt cu, cMH D B gH gO gX gY gE gG gF gU gS, cMW D B g4]) [1, 0, 2] rfl rfl ?_
    refine Ex.p rfl ?_
    refine Ex.p rfl ?_
    refine Ex.gf 0 0 rfl rfl rfl ?_
    refine Ex.p rfl ?_
    refine Ex.lal 1 4 k rfl rfl rfl (nI_toInt (by omega)) (by omega) ?_
    rw [q4]
    refine Ex.p rfl ?_
    refine Ex.gf 0 0 rfl rfl rfl ?_
    refine Ex.p rfl ?_
    refine Ex.lal 1 5 k rfl rfl rfl (nI_toInt (by omega)) (by omega) ?_
    rw [q5]
    refine Ex.cv (Mc := mMo_sayPlace) (Rc := rm 2 0 0) (As := [.long h.2.2.2.1.toInt64, .long h.2.2.2.2.1.toInt64]) (rest := []) (Sr := [cMH D B gH gO gX gY gE gG gF gU gS]) (ic := 0) (jc := 0) (ci := 10) [0, 2] [1] (ct_Mo_sayPlace hg4 (by simp; omega) n3 n4 (rm_ok _ _ _)) rfl lk_10_161 lcMo_sayPlace rfl rfl rfl rfl rfl (by decide) rfl rfl rfl (by decide) ⟨by dsimp only [rm]; omega, by show 8 + (5 + 11) + 80 ≤ R.locals; omega⟩ (Nat.le_of_ble_eq_true rfl) (by first | (dsimp only [rm]; omega) | omega) (by first | (dsimp only [rm]; omega) | omega) ?_
    rintro v S1 ⟨rfl, g5, rfl, hg5⟩
    refine Ex.sub (S' := [sMo m B th mn _ ln ap bg wr me fi fe wa wn fo st hl rf rt cu, cMH D B gH gO gX gY gE gG gF gU gS, cMW D B g5]) [1, 0, 2] rfl rfl ?_
    refine s59 _ g5 hg5 (by simp; omega) ?_ _ _ (by first | (dsimp only [rm]; omega) | omega) (by first | (dsimp only [rm]; omega) | omega)
    rw [← hy1, hline, hsl]
    simp
end MOD

/-! the reference reads: small steps -/
/-- where reading stands inside a line: still right, and where -/
def eX (xs : List Int32) (u : Int32) (s : Bool × Nat) : Bool × Nat := if s.1 then (if gt xs s.2 = u then (true, s.2 + 1) else (false, s.2)) else s
def wS (xs : List Int32) (s : Bool × Nat) : Bool × Nat := if s.1 then (decide (s.2 < (pDig xs 7 s.2 0).2) && !isDg (gt xs (pDig xs 7 s.2 0).2), (pDig xs 7 s.2 0).2) else s
def wV (xs : List Int32) (s : Bool × Nat) : Nat := if s.1 then (pDig xs 7 s.2 0).1 else 0
def mS (xs : List Int32) (s : Bool × Nat) : Bool × Nat := if s.1 = true ∧ gt xs s.2 = 45 then (true, s.2 + 1) else s
def nS (xs : List Int32) (s : Bool × Nat) : Bool × Nat := wS xs (mS xs s)
def nV (xs : List Int32) (s : Bool × Nat) : Int32 := if gt xs s.2 = 45 then - nI (wV xs (mS xs s)) else nI (wV xs (mS xs s))
def wrF (s : Bool × Nat) : Int32 := if s.1 then -1 else nI s.2
def wrE (s : Bool × Nat) (me : Bool) (b : Nat) : Int32 := if s.1 && !me then nI b else wrF s
theorem eX_le {xs : List Int32} {u : Int32} {s : Bool × Nat} (hu : u ≠ -1) (h : s.2 ≤ xs.length) : s.2 ≤ (eX xs u s).2 ∧ (eX xs u s).2 ≤ xs.length := by
  unfold eX
  split
  · split
    · rename_i e
      have : s.2 < xs.length := gt_lt (by rw [e]; exact hu)
      exact ⟨by dsimp only; omega, by dsimp only; omega⟩
    · exact ⟨Nat.le_refl _, h⟩
  · exact ⟨Nat.le_refl _, h⟩
theorem wS_le {xs : List Int32} {s : Bool × Nat} (h : s.2 ≤ xs.length) : s.2 ≤ (wS xs s).2 ∧ (wS xs s).2 ≤ xs.length := by
  unfold wS
  split
  · have := pDig_le (xs := xs) (k := 7) (v := 0) h
    exact ⟨this.1, this.2.1⟩
  · exact ⟨Nat.le_refl _, h⟩
theorem mS_le {xs : List Int32} {s : Bool × Nat} (h : s.2 ≤ xs.length) : s.2 ≤ (mS xs s).2 ∧ (mS xs s).2 ≤ xs.length := by
  unfold mS
  split
  · rename_i e
    have : s.2 < xs.length := gt_lt (by rw [e.2]; decide)
    exact ⟨by dsimp only; omega, by dsimp only; omega⟩
  · exact ⟨Nat.le_refl _, h⟩
theorem nS_le {xs : List Int32} {s : Bool × Nat} (h : s.2 ≤ xs.length) : s.2 ≤ (nS xs s).2 ∧ (nS xs s).2 ≤ xs.length := by
  have h1 := mS_le h
  have h2 := wS_le h1.2
  unfold nS
  exact ⟨Nat.le_trans h1.1 h2.1, h2.2⟩
theorem wV_lt {xs : List Int32} {s : Bool × Nat} : wV xs s < 10000000 := by
  unfold wV
  split
  · have := pDig_val (xs := xs) (k := 7) (p := s.2) (v := 0)
    omega
  · omega
theorem dig64 {v : Nat} {c : Int32} (hv : v < 10000000) (hc : 48 ≤ c.toInt ∧ c.toInt ≤ 57) : (10 : Int64) * (nI v).toInt64 + c.toInt64 - 48 = (nI (v * 10 + (c.toInt - 48).toNat)).toInt64 := by
  apply Int64.toInt_inj.mp
  have e1 : ((nI v).toInt64).toInt = v := by
    rw [Int32.toInt_toInt64, nI_toInt (by omega)]
  have e2 : ((10 : Int64) * (nI v).toInt64).toInt = 10 * v := by
    rw [Int64.toInt_mul, e1]
    show ((10 : Int) * v).bmod (2 ^ 64) = _
    exact Int.bmod_eq_of_le (by omega) (by omega)
  have e3 : ((10 : Int64) * (nI v).toInt64 + c.toInt64).toInt = 10 * v + c.toInt := by
    rw [Int64.toInt_add, e2, Int32.toInt_toInt64]
    exact Int.bmod_eq_of_le (by omega) (by omega)
  rw [Int64.toInt_sub, e3, Int32.toInt_toInt64, nI_toInt (by omega)]
  show ((10 : Int) * v + c.toInt - 48).bmod (2 ^ 64) = _
  rw [Int.bmod_eq_of_le (by omega) (by omega)]
  omega
theorem neg64 {v : Nat} (hv : v < 10000000) : (0 : Int64) - (nI v).toInt64 = (- nI v).toInt64 := by
  apply Int64.toInt_inj.mp
  have e1 : (- nI v).toInt = - (v : Int) := by
    rw [Int32.toInt_neg, nI_toInt (by omega)]
    exact Int.bmod_eq_of_le (by omega) (by omega)
  rw [Int64.toInt_sub, Int32.toInt_toInt64, Int32.toInt_toInt64, e1, nI_toInt (by omega)]
  show ((0 : Int) - v).bmod (2 ^ 64) = _
  rw [Int.bmod_eq_of_le (by omega) (by omega)]
  omega
theorem nI_ne1 {n : Nat} (h : n < 2 ^ 31) : nI n ≠ -1 := by
  intro e
  have := nI_toInt h
  rw [e] at this
  have e9 : (-1 : Int32).toInt = -1 := by decide
  omega
section MOH
variable {l : Launch} {D : xD} {R : Room} {m : Nat} {B : Nat → Nat} {xs : List Int32} {th mn la ap bg wr fi fe wa wn fo st rf rt cu : Int32} {me hl : Bool} {CX : va_W}
theorem ct_Mo_now {p : Nat} (iX : IsMX D B xs CX) (hp : p ≤ xs.length) : Ct l mMo_now D R [.ref m] [sMo m B th mn la (nI xs.length) (nI p) bg wr me fi fe wa wn fo st hl rf rt cu, CX] (fun v S => v = some (.int (gt xs p)) ∧ S = [sMo m B th mn la (nI xs.length) (nI p) bg wr me fi fe wa wn fo st hl rf rt cu, CX]) := by
  obtain ⟨g, rfl, hxl, hx⟩ := iX
  refine Ct.of rfl (by decide) tkMo_now (Nat.le_of_ble_eq_true rfl) (fun A => ?_)
  refine Ex.p rfl ?_
  refine Ex.gf 0 0 rfl rfl rfl ?_
  refine Ex.p rfl ?_
  refine Ex.gf 0 0 rfl rfl rfl ?_
  refine Ex.br rfl (fun c => ?_) (fun c => ?_)
  · have c : nI xs.length ≤ nI p := c
    rw [nI_leI (by omega) (by omega)] at c
    refine Ex.p rfl ?_
    exact Ex.iret rfl rfl (Nat.zero_le _) (Nat.zero_le _) rfl ⟨by rw [gt_end c]; rfl, rfl⟩
  · have c : ¬ nI xs.length ≤ nI p := c
    rw [nI_leI (by omega) (by omega)] at c
    refine Ex.p rfl ?_
    refine Ex.gf 0 0 rfl rfl rfl ?_
    refine Ex.p rfl ?_
    refine Ex.gf 0 0 rfl rfl rfl ?_
    refine Ex.ial 1 0 p rfl rfl rfl (nI_toInt (by omega)) (by omega) ?_
    rw [hx p (by omega)]
    refine Ex.p rfl ?_
    refine Ex.iret rfl rfl (Nat.zero_le _) (Nat.zero_le _) rfl ⟨?_, rfl⟩
    unfold gt
    rw [List.getD_eq_getElem?_getD, List.getElem?_eq_getElem (by omega)]
    rfl
theorem ct_Mo_expect {u : Int32} {s : Bool × Nat} (iX : IsMX D B xs CX) (hp : s.2 ≤ xs.length) (hr : rmOk R 1 0 0) : Ct l mMo_expect D R [.ref m, .int u] [sMo m B th mn la (nI xs.length) (nI s.2) bg (wrF s) me fi fe wa wn fo st hl rf rt cu, CX] (fun v S => v = none ∧ S = [sMo m B th mn la (nI xs.length) (nI (eX xs u s).2) bg (wrF (eX xs u s)) me fi fe wa wn fo st hl rf rt cu, CX]) := by
  obtain ⟨r1, r2, r3, r4⟩ := hr
  have hxl : xs.length ≤ 2000 := by
    obtain ⟨_, -, h, -⟩ := id iX
    exact h
  obtain ⟨b, p⟩ := s
  have hp : p ≤ xs.length := hp
  refine Ct.of rfl (by decide) tkMo_expect (Nat.le_of_ble_eq_true rfl) (fun A => ?_)
  refine Ex.p rfl ?_
  refine Ex.gf 0 0 rfl rfl rfl ?_
  refine Ex.p rfl ?_
  cases b with
  | false =>
    refine Ex.br rfl (fun c => absurd c (nI_ne1 (by dsimp only; omega))) (fun _ => ?_)
    exact Ex.vret rfl rfl (Nat.zero_le _) (Nat.zero_le _) rfl ⟨rfl, rfl⟩
  | true =>
    refine Ex.br rfl (fun _ => ?_) (fun c => absurd rfl c)
    refine Ex.p rfl ?_
    refine Ex.cv (Mc := mMo_now) (Rc := rm 0 0 0) (As := []) (rest := []) (Sr := []) (ic := 0) (jc := 0) (ci := 10) [0, 1] [] (ct_Mo_now iX hp) rfl lk_10_181 lcMo_now rfl rfl rfl rfl rfl (by decide) rfl rfl rfl (by decide) ⟨by dsimp only [rm]; omega, by show 8 + (1 + 11) + 0 ≤ R.locals; omega⟩ (Nat.le_of_ble_eq_true rfl) (by first | (dsimp only [rm]; omega) | omega) (by first | (dsimp only [rm]; omega) | omega) ?_
    rintro v S1 ⟨rfl, rfl⟩
    refine Ex.p rfl ?_
    refine Ex.br rfl (fun c => ?_) (fun c => ?_)
    · have c : ¬ gt xs p = u := c
      refine Ex.p rfl ?_
      refine Ex.p rfl ?_
      refine Ex.gf 0 0 rfl rfl rfl ?_
      refine Ex.pf 0 0 rfl rfl rfl rfl rfl rfl ?_
      refine Ex.vret rfl rfl (by first | (dsimp only [rm]; omega) | omega) (by first | (dsimp only [rm]; omega) | omega) rfl ⟨rfl, ?_⟩
      have e : eX xs u (true, p) = (false, p) := by
        unfold eX
        rw [if_pos rfl, if_neg c]
      rw [e]
      rfl
    · have c : ¬ ¬ gt xs p = u := c
      have c := Decidable.not_not.mp c
      refine Ex.p rfl ?_
      refine Ex.p rfl ?_
      refine Ex.gf 0 0 rfl rfl rfl ?_
      refine Ex.p rfl ?_
      refine Ex.p rfl ?_
      rw [i_add1]
      refine Ex.pf 0 0 rfl rfl rfl rfl rfl rfl ?_
      refine Ex.p rfl ?_
      refine Ex.vret rfl rfl (by first | (dsimp only [rm]; omega) | omega) (by first | (dsimp only [rm]; omega) | omega) rfl ⟨rfl, ?_⟩
      have e : eX xs u (true, p) = (true, p + 1) := by
        unfold eX
        rw [if_pos rfl, if_pos c]
      rw [e]
      rfl
theorem ct_Mo_isDigit {p : Nat} (iX : IsMX D B xs CX) (hp : p ≤ xs.length) (hr : rmOk R 1 0 0) : Ct l mMo_isDigit D R [.ref m] [sMo m B th mn la (nI xs.length) (nI p) bg wr me fi fe wa wn fo st hl rf rt cu, CX] (fun v S => v = some (.int (b32 (isDg (gt xs p)))) ∧ S = [sMo m B th mn la (nI xs.length) (nI p) bg wr me fi fe wa wn fo st hl rf rt cu, CX]) := by
  obtain ⟨r1, r2, r3, r4⟩ := hr
  refine Ct.of rfl (by decide) tkMo_isDigit (Nat.le_of_ble_eq_true rfl) (fun A => ?_)
  refine Ex.p rfl ?_
  refine Ex.cv (Mc := mMo_now) (Rc := rm 0 0 0) (As := []) (rest := []) (Sr := []) (ic := 0) (jc := 0) (ci := 10) [0, 1] [] (ct_Mo_now iX hp) rfl lk_10_181 lcMo_now rfl rfl rfl rfl rfl (by decide) rfl rfl rfl (by decide) ⟨by dsimp only [rm]; omega, by show 8 + (1 + 11) + 0 ≤ R.locals; omega⟩ (Nat.le_of_ble_eq_true rfl) (by first | (dsimp only [rm]; omega) | omega) (by first | (dsimp only [rm]; omega) | omega) ?_
  rintro v S1 ⟨rfl, rfl⟩
  refine Ex.p rfl ?_
  refine Ex.br rfl (fun c => ?_) (fun c => ?_)
  · have c : gt xs p < nI 48 := c
    rw [Int32.lt_iff_toInt_lt, nI_toInt (by omega)] at c
    refine Ex.p rfl ?_
    refine Ex.zret rfl rfl (Or.inl rfl) (by first | (dsimp only [rm]; omega) | omega) (by first | (dsimp only [rm]; omega) | omega) rfl ⟨?_, rfl⟩
    rw [show isDg (gt xs p) = false from decide_eq_false (by omega)]
    rfl
  · have c : ¬ gt xs p < nI 48 := c
    rw [Int32.lt_iff_toInt_lt, nI_toInt (by omega)] at c
    refine Ex.p rfl ?_
    refine Ex.cv (Mc := mMo_now) (Rc := rm 0 0 0) (As := []) (rest := []) (Sr := []) (ic := 0) (jc := 0) (ci := 10) [0, 1] [] (ct_Mo_now iX hp) rfl lk_10_181 lcMo_now rfl rfl rfl rfl rfl (by decide) rfl rfl rfl (by decide) ⟨by dsimp only [rm]; omega, by show 8 + (1 + 11) + 0 ≤ R.locals; omega⟩ (Nat.le_of_ble_eq_true rfl) (by first | (dsimp only [rm]; omega) | omega) (by first | (dsimp only [rm]; omega) | omega) ?_
    rintro v S1 ⟨rfl, rfl⟩
    refine Ex.p rfl ?_
    refine Ex.br rfl (fun c1 => ?_) (fun c1 => ?_)
    · have c1 : nI 57 < gt xs p := c1
      rw [Int32.lt_iff_toInt_lt, nI_toInt (by omega)] at c1
      refine Ex.p rfl ?_
      refine Ex.zret rfl rfl (Or.inl rfl) (by first | (dsimp only [rm]; omega) | omega) (by first | (dsimp only [rm]; omega) | omega) rfl ⟨?_, rfl⟩
      rw [show isDg (gt xs p) = false from decide_eq_false (by omega)]
      rfl
    · have c1 : ¬ nI 57 < gt xs p := c1
      rw [Int32.lt_iff_toInt_lt, nI_toInt (by omega)] at c1
      refine Ex.p rfl ?_
      refine Ex.p rfl ?_
      refine Ex.zret rfl rfl (Or.inr rfl) (by first | (dsimp only [rm]; omega) | omega) (by first | (dsimp only [rm]; omega) | omega) rfl ⟨?_, rfl⟩
      rw [show isDg (gt xs p) = true from decide_eq_true (by omega)]
      rfl
theorem ct_Mo_whole {s : Bool × Nat} (iX : IsMX D B xs CX) (hp : s.2 ≤ xs.length) (hr : rmOk R 2 0 0) : Ct l mMo_whole D R [.ref m] [sMo m B th mn la (nI xs.length) (nI s.2) bg (wrF s) me fi fe wa wn fo st hl rf rt cu, CX] (fun v S => v = some (.long (nI (wV xs s)).toInt64) ∧ S = [sMo m B th mn la (nI xs.length) (nI (wS xs s).2) bg (wrF (wS xs s)) me fi fe wa wn fo st hl rf rt cu, CX]) := by
  obtain ⟨r1, r2, r3, r4⟩ := hr
  have hxl : xs.length ≤ 2000 := by
    obtain ⟨_, -, h, -⟩ := id iX
    exact h
  obtain ⟨b, p⟩ := s
  have hp : p ≤ xs.length := hp
  generalize hQ : (fun (v : Option Value) S => v = some (.long (nI (wV xs (b, p))).toInt64) ∧ S = [sMo m B th mn la (nI xs.length) (nI (wS xs (b, p)).2) bg (wrF (wS xs (b, p))) me fi fe wa wn fo st hl rf rt cu, CX]) = Q
  refine Ct.of rfl (by decide) tkMo_whole (Nat.le_of_ble_eq_true rfl) (fun A => ?_)
  cases b with
  | false =>
    refine Ex.p rfl ?_
    refine Ex.p rfl ?_
    refine Ex.p rfl ?_
    refine Ex.p rfl ?_
    refine Ex.p rfl ?_
    refine Ex.gf 0 0 rfl rfl rfl ?_
    refine Ex.p rfl ?_
    refine Ex.br rfl (fun _ => ?_) (fun c => absurd (nI_ne1 (by dsimp only; omega)) c)
    refine Ex.p rfl ?_
    refine Ex.gf 0 0 rfl rfl rfl ?_
    refine Ex.p rfl ?_
    refine Ex.br rfl (fun _ => ?_) (fun c => absurd (nI_ne1 (by dsimp only; omega)) c)
    refine Ex.p rfl ?_
    refine Ex.lret rfl rfl (Nat.zero_le _) (Nat.zero_le _) rfl ?_
    subst hQ
    exact ⟨rfl, rfl⟩
  | true =>
    generalize hd : pDig xs 7 p 0 = d
    have ewV : wV xs (true, p) = d.1 := by
      unfold wV
      rw [if_pos rfl, hd]
    have ewS : wS xs (true, p) = (decide (p < d.2) && !isDg (gt xs d.2), d.2) := by
      unfold wS
      rw [if_pos rfl, hd]
    rw [ewV, ewS] at hQ
    have ext : ∀ (n p' v : Nat), n ≤ 7 → p' = p + n → p' ≤ xs.length → (v, p') = d → ∀ lv9 : List (Nat × Value), (∀ q ∈ [(3, Value.int (nI n)), (1, .long (nI v).toInt64), (0, .ref m)], q ∈ lv9) → ∀ k8 n8 : Nat, k8 ≤ 0 → n8 ≤ 0 → Ex l mMo_whole D R A (xQ D A Q) R.cells R.slots 57 lv9 [] [sMo m B th mn la (nI xs.length) (nI p') bg (-1) me fi fe wa wn fo st hl rf rt cu, CX] k8 n8 := by
      intro n p' v hn7 ep hpl ed lv9 hlv k8 n8 hk8 hn8
      refine Ex.more (k' := 0) (n' := 0) hk8 hn8 ?_
      refine Ex.lv hlv ?_
      subst ed
      have s76 : (decide (p < p') && !isDg (gt xs p')) = false → ∀ lv9 : List (Nat × Value), (∀ q ∈ [(1, Value.long (nI v).toInt64), (0, .ref m)], q ∈ lv9) → ∀ k8 n8 : Nat, k8 ≤ 0 → n8 ≤ 0 → Ex l mMo_whole D R A (xQ D A Q) R.cells R.slots 76 lv9 [] [sMo m B th mn la (nI xs.length) (nI p') bg (-1) me fi fe wa wn fo st hl rf rt cu, CX] k8 n8 := by
        intro e lv9 hlv k8 n8 hk8 hn8
        refine Ex.more (k' := 0) (n' := 0) hk8 hn8 ?_
        refine Ex.lv hlv ?_
        refine Ex.p rfl ?_
        refine Ex.p rfl ?_
        refine Ex.gf 0 0 rfl rfl rfl ?_
        refine Ex.pf 0 0 rfl rfl rfl rfl rfl rfl ?_
        refine Ex.p rfl ?_
        refine Ex.lret rfl rfl (Nat.zero_le _) (Nat.zero_le _) rfl ?_
        subst hQ
        refine ⟨rfl, ?_⟩
        dsimp only
        rw [e]
        rfl
      refine Ex.p rfl ?_
      refine Ex.gf 0 0 rfl rfl rfl ?_
      refine Ex.p rfl ?_
      refine Ex.br rfl (fun c => absurd rfl c) (fun _ => ?_)
      refine Ex.p rfl ?_
      refine Ex.br rfl (fun c => ?_) (fun c => ?_)
      · have c : nI n = nI 0 := c
        rw [nI_eq (by omega) (by omega)] at c
        refine s76 (by rw [decide_eq_false (by omega)]; rfl) _ (fun q h => ?_) 0 0 (Nat.le_refl _) (Nat.le_refl _)
        simp only [List.mem_cons, List.not_mem_nil, or_false] at h
        rcases h with rfl | rfl <;> first | (simp [xs1, xs2, lv_args, Value.category, b32, nI]; done) | (simp [xs1, xs2, lv_args, Value.category, b32, nI]; decide) | (simp [xs1, xs2, lv_args, Value.category, b32, nI]; exact Or.inr (by decide)) | (simp [xs1, xs2, lv_args, Value.category, b32, nI]; exact Or.inl (by decide))
      · have c : ¬ nI n = nI 0 := c
        rw [nI_eq (by omega) (by omega)] at c
        refine Ex.p rfl ?_
        refine Ex.cv (Mc := mMo_isDigit) (Rc := rm 1 0 0) (As := []) (rest := []) (Sr := []) (ic := 0) (jc := 0) (ci := 10) [0, 1] [] (ct_Mo_isDigit iX (by omega) (rm_ok _ _ _)) rfl lk_10_189 lcMo_isDigit rfl rfl rfl rfl rfl (by decide) rfl rfl rfl (by decide) ⟨by dsimp only [rm]; omega, by show 8 + (1 + 11) + 40 ≤ R.locals; omega⟩ (Nat.le_of_ble_eq_true rfl) (by first | (dsimp only [rm]; omega) | omega) (by first | (dsimp only [rm]; omega) | omega) ?_
        rintro v9 S1 ⟨rfl, rfl⟩
        cases hdg : isDg (gt xs p') with
        | true =>
          refine Ex.br rfl (fun c => absurd c (show (1 : Int32) ≠ 0 by decide)) (fun _ => ?_)
          refine s76 (by rw [hdg]; simp) _ (fun q h => ?_) _ _ (by first | (dsimp only [rm]; omega) | omega) (by first | (dsimp only [rm]; omega) | omega)
          simp only [List.mem_cons, List.not_mem_nil, or_false] at h
          rcases h with rfl | rfl <;> first | (simp [xs1, xs2, lv_args, Value.category, b32, nI]; done) | (simp [xs1, xs2, lv_args, Value.category, b32, nI]; decide) | (simp [xs1, xs2, lv_args, Value.category, b32, nI]; exact Or.inr (by decide)) | (simp [xs1, xs2, lv_args, Value.category, b32, nI]; exact Or.inl (by decide))
        | false =>
          refine Ex.br rfl (fun _ => ?_) (fun c => absurd rfl c)
          refine Ex.p rfl ?_
          refine Ex.lret rfl rfl (by first | (dsimp only [rm]; omega) | omega) (by first | (dsimp only [rm]; omega) | omega) rfl ?_
          subst hQ
          refine ⟨rfl, ?_⟩
          dsimp only
          rw [hdg, decide_eq_true (show p < p' by omega)]
          rfl
    have loop : ∀ (k n p' v : Nat), n + k = 7 → p' = p + n → p' ≤ xs.length → v < 10 ^ n → pDig xs k p' v = d → ∀ lv9 : List (Nat × Value), (∀ q ∈ [(3, Value.int (nI n)), (1, .long (nI v).toInt64), (0, .ref m)], q ∈ lv9) → ∀ k8 n8 : Nat, k8 ≤ 0 → n8 ≤ 0 → Ex l mMo_whole D R A (xQ D A Q) R.cells R.slots 4 lv9 [] [sMo m B th mn la (nI xs.length) (nI p') bg (-1) me fi fe wa wn fo st hl rf rt cu, CX] k8 n8 := by
      intro k
      induction k with
      | zero =>
        intro n p' v hnk ep hpl hv hdd lv9 hlv k8 n8 hk8 hn8
        refine Ex.more (k' := 0) (n' := 0) hk8 hn8 ?_
        refine Ex.lv hlv ?_
        refine Ex.p rfl ?_
        refine Ex.gf 0 0 rfl rfl rfl ?_
        refine Ex.p rfl ?_
        refine Ex.br rfl (fun c => absurd rfl c) (fun _ => ?_)
        refine Ex.p rfl ?_
        refine Ex.p rfl ?_
        refine Ex.br rfl (fun c => ?_) (fun c => ?_)
        · refine ext n p' v (by omega) ep hpl hdd _ (fun q h => ?_) 0 0 (Nat.le_refl _) (Nat.le_refl _)
          simp only [List.mem_cons, List.not_mem_nil, or_false] at h
          rcases h with rfl | rfl | rfl <;> first | (simp [xs1, xs2, lv_args, Value.category, b32, nI]; done) | (simp [xs1, xs2, lv_args, Value.category, b32, nI]; decide) | (simp [xs1, xs2, lv_args, Value.category, b32, nI]; exact Or.inr (by decide)) | (simp [xs1, xs2, lv_args, Value.category, b32, nI]; exact Or.inl (by decide))
        · have c : ¬ nI 7 ≤ nI n := c
          rw [nI_leI (by omega) (by omega)] at c
          omega
      | succ k ih =>
        intro n p' v hnk ep hpl hv hdd lv9 hlv k8 n8 hk8 hn8
        have hv7 : v < 1000000 := Nat.lt_of_lt_of_le hv (show 10 ^ n ≤ 10 ^ 6 from Nat.pow_le_pow_right (by omega) (by omega))
        unfold pDig at hdd
        refine Ex.more (k' := 0) (n' := 0) hk8 hn8 ?_
        refine Ex.lv hlv ?_
        refine Ex.p rfl ?_
        refine Ex.gf 0 0 rfl rfl rfl ?_
        refine Ex.p rfl ?_
        refine Ex.br rfl (fun c => absurd rfl c) (fun _ => ?_)
        refine Ex.p rfl ?_
        refine Ex.p rfl ?_
        refine Ex.br rfl (fun c => ?_) (fun c => ?_)
        · have c : nI 7 ≤ nI n := c
          rw [nI_leI (by omega) (by omega)] at c
          omega
        · refine Ex.p rfl ?_
          refine Ex.cv (Mc := mMo_isDigit) (Rc := rm 1 0 0) (As := []) (rest := []) (Sr := []) (ic := 0) (jc := 0) (ci := 10) [0, 1] [] (ct_Mo_isDigit iX (by omega) (rm_ok _ _ _)) rfl lk_10_189 lcMo_isDigit rfl rfl rfl rfl rfl (by decide) rfl rfl rfl (by decide) ⟨by dsimp only [rm]; omega, by show 8 + (1 + 11) + 40 ≤ R.locals; omega⟩ (Nat.le_of_ble_eq_true rfl) (by first | (dsimp only [rm]; omega) | omega) (by first | (dsimp only [rm]; omega) | omega) ?_
          rintro v9 S1 ⟨rfl, rfl⟩
          cases hdg : isDg (gt xs p') with
          | true =>
            rw [hdg, if_pos rfl] at hdd
            have hdg : 48 ≤ (gt xs p').toInt ∧ (gt xs p').toInt ≤ 57 := of_decide_eq_true hdg
            have hlt : p' < xs.length := gt_lt (fun q => by rw [q] at hdg; exact absurd hdg (by decide))
            refine Ex.br rfl (fun c => absurd c (show (1 : Int32) ≠ 0 by decide)) (fun _ => ?_)
            refine Ex.ldc2 rfl ?_
            refine Ex.p rfl ?_
            refine Ex.p rfl ?_
            refine Ex.p rfl ?_
            refine Ex.cv (Mc := mMo_now) (Rc := rm 0 0 0) (As := []) (rest := [.long (10 * (nI v).toInt64)]) (Sr := []) (ic := 0) (jc := 0) (ci := 10) [0, 1] [] (ct_Mo_now iX (by omega)) rfl lk_10_181 lcMo_now rfl rfl rfl rfl rfl (by decide) rfl rfl rfl (by decide) ⟨by dsimp only [rm]; omega, by show 8 + (1 + 11) + 0 ≤ R.locals; omega⟩ (Nat.le_of_ble_eq_true rfl) (by first | (dsimp only [rm]; omega) | omega) (by first | (dsimp only [rm]; omega) | omega) ?_
            rintro v9 S1 ⟨rfl, rfl⟩
            refine Ex.p rfl ?_
            refine Ex.p rfl ?_
            refine Ex.ldc2 rfl ?_
            refine Ex.p rfl ?_
            rw [dig64 (by omega) hdg]
            refine Ex.p rfl ?_
            refine Ex.p rfl ?_
            refine Ex.p rfl ?_
            refine Ex.p rfl ?_
            rw [i_add1]
            refine Ex.gf 0 0 rfl rfl rfl ?_
            refine Ex.p rfl ?_
            refine Ex.p rfl ?_
            rw [i_add1]
            refine Ex.pf 0 0 rfl rfl rfl rfl rfl rfl ?_
            refine Ex.p rfl ?_
            refine ih (n + 1) (p' + 1) _ (by omega) (by omega) hlt ?_ hdd _ (fun q h => ?_) _ _ (by first | (dsimp only [rm]; omega) | omega) (by first | (dsimp only [rm]; omega) | omega)
            · rw [Nat.pow_succ]
              omega
            · simp only [List.mem_cons, List.not_mem_nil, or_false] at h
              rcases h with rfl | rfl | rfl <;> first | (simp [xs1, xs2, lv_args, Value.category, b32, nI]; done) | (simp [xs1, xs2, lv_args, Value.category, b32, nI]; decide) | (simp [xs1, xs2, lv_args, Value.category, b32, nI]; exact Or.inr (by decide)) | (simp [xs1, xs2, lv_args, Value.category, b32, nI]; exact Or.inl (by decide))
          | false =>
            rw [hdg] at hdd
            refine Ex.br rfl (fun _ => ?_) (fun c => absurd rfl c)
            refine ext n p' v (by omega) ep hpl (by simpa using hdd) _ (fun q h => ?_) _ _ (by first | (dsimp only [rm]; omega) | omega) (by first | (dsimp only [rm]; omega) | omega)
            simp only [List.mem_cons, List.not_mem_nil, or_false] at h
            rcases h with rfl | rfl | rfl <;> first | (simp [xs1, xs2, lv_args, Value.category, b32, nI]; done) | (simp [xs1, xs2, lv_args, Value.category, b32, nI]; decide) | (simp [xs1, xs2, lv_args, Value.category, b32, nI]; exact Or.inr (by decide)) | (simp [xs1, xs2, lv_args, Value.category, b32, nI]; exact Or.inl (by decide))
    refine Ex.p rfl ?_
    refine Ex.p rfl ?_
    refine Ex.p rfl ?_
    refine Ex.p rfl ?_
    refine loop 7 0 p 0 rfl rfl hp (by decide) hd _ (fun q h => ?_) 0 0 (Nat.le_refl _) (Nat.le_refl _)
    simp only [List.mem_cons, List.not_mem_nil, or_false] at h
    rcases h with rfl | rfl | rfl <;> first | (simp [xs1, xs2, lv_args, Value.category, b32, nI]; done) | (simp [xs1, xs2, lv_args, Value.category, b32, nI]; decide) | (simp [xs1, xs2, lv_args, Value.category, b32, nI]; exact Or.inr (by decide)) | (simp [xs1, xs2, lv_args, Value.category, b32, nI]; exact Or.inl (by decide))
end MOH

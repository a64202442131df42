/-! Planner: ways, the best of those left -/
/-- over 0 .. n-1 the first one with the least w among those that are ok -/
def nfold (ok : Nat → Bool) (w : Nat → Int32) : Nat → Option Nat × Int32
  | 0 => (none, 0)
  | n + 1 => if ok n = true ∧ ((nfold ok w n).1 = none ∨ w n < (nfold ok w n).2) then (some n, w n) else nfold ok w n
def bi (o : Option Nat) : Int32 := match o with
  | none => -1
  | some n => nI n
theorem nfold_lt {ok : Nat → Bool} {w : Nat → Int32} : ∀ {n b : Nat}, (nfold ok w n).1 = some b → b < n
  | 0, b, h => by cases h
  | n + 1, b, h => by
    unfold nfold at h
    split at h
    · cases h; omega
    · have := nfold_lt h; omega
theorem bi_m1 {o : Option Nat} (h : ∀ b, o = some b → b < 100) : bi o = -1 ↔ o = none := by
  cases o with
  | none => exact ⟨fun _ => rfl, fun _ => rfl⟩
  | some n =>
    have := h n rfl
    refine ⟨fun e => ?_, fun e => by cases e⟩
    have e : nI n = -1 := e
    have e := congrArg Int32.toInt e
    rw [nI_toInt (by omega), show (-1 : Int32).toInt = -1 from rfl] at e
    omega
theorem bit_t : ∀ s, s < 256 → ∀ n, n < 8 → (((nI s >>> (nI n &&& 31)) &&& Int32.ofInt 1) = 0 ↔ s.testBit n = false) := by decide +kernel
theorem bit_or : ∀ s, s < 256 → ∀ n, n < 8 → (nI s ||| (Int32.ofInt 1 <<< (nI n &&& 31))) = nI (s ||| 2 ^ n) ∧ (s ||| 2 ^ n) < 256 := by decide +kernel
section WA
variable {l : Launch} {D : xD} {R : Room}
theorem ct_wayG {S0 : List va_W} {C1 C2 : va_W} {i j i2 j2 a b : Nat} {g h : HV} (h1 : S0[i]? = some C1) (h1' : C1[j]? = some (cHit a g)) (h2 : S0[i2]? = some C2) (h2' : C2[j2]? = some (cHit b h)) (hr : rmOk R 1 0 0) : Ct l mHi_wayTo D R [.ref a, .ref b] S0 (fun v S => v = some (.int (hway g h)) ∧ S = S0) := by
  obtain ⟨r1, r2, r3, r4⟩ := hr
  refine Ct.of rfl (by decide) tkHi_wayTo (Nat.le_of_ble_eq_true rfl) (fun A => ?_)
  refine Ex.p rfl ?_
  refine Ex.gf i2 j2 h2 h2' rfl ?_
  refine Ex.p rfl ?_
  refine Ex.gf i j h1 h1' rfl ?_
  refine Ex.p rfl ?_
  refine Ex.mabs rfl lk_3_31 r1 (Nat.le_trans (Nat.le_of_ble_eq_true rfl) r2) (Nat.zero_le _) (Nat.zero_le _) ?_
  refine Ex.p rfl ?_
  refine Ex.gf i2 j2 h2 h2' rfl ?_
  refine Ex.p rfl ?_
  refine Ex.gf i j h1 h1' rfl ?_
  refine Ex.p rfl ?_
  refine Ex.mabs rfl lk_3_31 r1 (Nat.le_trans (Nat.le_of_ble_eq_true rfl) r2) (Nat.zero_le _) (Nat.zero_le _) ?_
  refine Ex.mmax rfl lk_3_37 r1 (Nat.le_trans (Nat.le_of_ble_eq_true rfl) r2) (Nat.zero_le _) (Nat.zero_le _) ?_
  exact Ex.iret rfl rfl (Nat.zero_le _) (Nat.zero_le _) rfl ⟨rfl, rfl⟩
theorem ct_Pl_nearest {a n i0 j0 ah : Nat} {fm : Nat → Option Nat} {fd fw fr : Nat → Int32} {lst : Int32} {Cp Hs C0 : va_W} {g : HV} {mv : Nat → HV} (hp : IsPl D a fm fd fw fr (nI n) lst Cp) (hn : n ≤ 60) (hm : ∀ j, j < n → ∃ (b i : Nat), fm j = some b ∧ Hs[i]? = some (cHit b (mv j))) (h0 : ([Cp, Hs] : List va_W)[i0]? = some C0) (h0' : C0[j0]? = some (cHit ah g)) (hpos : i0 = 0 → j0 = 1) (hr : rmOk R 2 0 0) :
    Ct l mPl_nearest D R [.ref a, .ref ah] [Cp, Hs] (fun v S => v = some (.int (bi (nfold (fun j => decide (fd j = 0)) (fun j => hway g (mv j)) n).1)) ∧ ∃ Cp', S = [Cp', Hs] ∧ IsPl D a fm fd fw fr (nI n) (nfold (fun j => decide (fd j = 0)) (fun j => hway g (mv j)) n).2 Cp') := by
  obtain ⟨og, mi, dn, wy, rs, rfl⟩ := hp
  obtain ⟨r1, r2, r3, r4⟩ := hr
  generalize hok : (fun j => decide (fd j = 0)) = ok
  generalize hwf : (fun j => hway g (mv j)) = w
  have hcell : ∀ lst', ∃ C0', ([sPl D a og mi dn wy rs fm fd fw fr (nI n) lst', Hs] : List va_W)[i0]? = some C0' ∧ C0'[j0]? = some (cHit ah g) := by
    intro lst'
    match i0, h0, hpos with
    | 0, h0, hpos =>
      have := hpos rfl
      subst this
      cases h0
      exact ⟨_, rfl, h0'⟩
    | 1, h0, _ => cases h0; exact ⟨_, rfl, h0'⟩
    | i + 2, h0, _ => simp at h0
  refine Ct.of rfl (by decide) tkPl_nearest (Nat.le_of_ble_eq_true rfl) (fun A => ?_)
  refine Ex.p rfl ?_
  refine Ex.p rfl ?_
  refine Ex.p rfl ?_
  refine Ex.p rfl ?_
  refine Ex.pf 0 0 rfl rfl rfl rfl rfl rfl ?_
  have loop : ∀ (m i : Nat), n - i < m → i ≤ n → ∀ lv9, (∃ z, lv9 = [(3, Value.int (nI i)), (2, .int (bi (nfold ok w i).1)), (4, .int z), (0, .ref a), (1, .ref ah)]) ∨ lv9 = [(3, Value.int (nI i)), (2, .int (bi (nfold ok w i).1)), (0, .ref a), (1, .ref ah)] →
      Ex l mPl_nearest D R A (xQ D A (fun v S => v = some (.int (bi (nfold ok w n).1)) ∧ ∃ Cp', S = [Cp', Hs] ∧ IsPl D a fm fd fw fr (nI n) (nfold ok w n).2 Cp')) R.cells R.slots 9 lv9 [] [sPl D a og mi dn wy rs fm fd fw fr (nI n) (nfold ok w i).2, Hs] 0 0 := by
    intro m
    induction m with
    | zero => intro i h; omega
    | succ m ih =>
      intro i him hi lv9 hlv
      refine Ex.lv (lv' := [(3, Value.int (nI i)), (2, .int (bi (nfold ok w i).1)), (0, .ref a), (1, .ref ah)]) (by
        rcases hlv with ⟨z, rfl⟩ | rfl
        · intro q h
          simp only [List.mem_cons, List.not_mem_nil, or_false] at h ⊢
          rcases h with h | h | h | h <;> simp [h]
        · exact fun q h => h) ?_
      repeat (first | refine Ex.p rfl ?_ | refine Ex.ldc rfl ?_ | refine Ex.ldc2 rfl ?_ | refine Ex.gf 0 0 rfl rfl rfl ?_)
      refine Ex.br rfl (fun c1 => ?_) (fun c1 => ?_)
      · rw [nI_leI (by omega) (by omega)] at c1
        have : i = n := by omega
        subst this
        refine Ex.p rfl ?_
        exact Ex.iret rfl rfl (Nat.zero_le _) (Nat.zero_le _) rfl ⟨rfl, _, rfl, og, mi, dn, wy, rs, rfl⟩
      · rw [nI_leI (by omega) (by omega)] at c1
        have hin : i < n := by omega
        repeat (first | refine Ex.p rfl ?_ | refine Ex.ldc rfl ?_ | refine Ex.ldc2 rfl ?_ | refine Ex.gf 0 0 rfl rfl rfl ?_)
        refine Ex.zal 0 3 i rfl rfl rfl (nI_toInt (by omega)) (by omega) ?_
        refine Ex.br rfl (fun c2 => ?_) (fun c2 => ?_)
        · have c2 : ¬ fd i = 0 := c2
          have e : nfold ok w (i + 1) = nfold ok w i := by
            show (if ok i = true ∧ ((nfold ok w i).1 = none ∨ w i < (nfold ok w i).2) then (some i, w i) else nfold ok w i) = _
            rw [if_neg]
            rw [← hok]
            simp [c2]
          refine Ex.p rfl ?_
          refine Ex.p rfl ?_
          rw [i_add1]
          have ih' := ih (i + 1) (by omega) (by omega)
          rw [e] at ih'
          exact ih' _ (Or.inr rfl)
        · have c2 : ¬ ¬ fd i = 0 := c2
          have c2 : fd i = 0 := Decidable.byContradiction c2
          have hoki : ok i = true := by rw [← hok]; simp [c2]
          obtain ⟨b, ib, eb, hat⟩ := hm i hin
          obtain ⟨C0', g0, g1⟩ := hcell (nfold ok w i).2
          repeat (first | refine Ex.p rfl ?_ | refine Ex.ldc rfl ?_ | refine Ex.ldc2 rfl ?_ | refine Ex.gf 0 0 rfl rfl rfl ?_)
          refine Ex.aal 0 2 i 4 rfl rfl rfl rfl (nI_toInt (by omega)) (by omega) ?_
          rw [eb]
          refine Ex.cv (Mc := mHi_wayTo) (Rc := rm 1 0 0) (As := [.ref b]) (rest := []) (Sr := []) (ic := i0) (jc := j0) (ci := 3) [0, 1] [] (ct_wayG g0 g1 (i2 := 1) rfl hat (rm_ok _ _ _)) rfl lk_4_82 lcHi_wayTo rfl rfl rfl rfl rfl (by decide) g0 g1 rfl (by decide) ⟨r1, by show 8 + (2 + 11) + 40 ≤ R.locals; omega⟩ (Nat.zero_le _) (Nat.zero_le _) (Nat.zero_le _) ?_
          rintro v S1 ⟨rfl, rfl⟩
          have hwi : hway g (mv i) = w i := by rw [← hwf]
          rw [hwi]
          have hb100 : ∀ b, (nfold ok w i).1 = some b → b < 100 := fun b hb => by have := nfold_lt hb; omega
          have take9 : ((nfold ok w i).1 = none ∨ w i < (nfold ok w i).2) → Ex l mPl_nearest D R A (xQ D A (fun v S => v = some (.int (bi (nfold ok w n).1)) ∧ ∃ Cp', S = [Cp', Hs] ∧ IsPl D a fm fd fw fr (nI n) (nfold ok w n).2 Cp')) R.cells R.slots 52 [(4, Value.int (w i)), (3, .int (nI i)), (2, .int (bi (nfold ok w i).1)), (0, .ref a), (1, .ref ah)] [] [sPl D a og mi dn wy rs fm fd fw fr (nI n) (nfold ok w i).2, Hs] 0 0 := by
            intro hc
            have e : nfold ok w (i + 1) = (some i, w i) := by
              show (if ok i = true ∧ ((nfold ok w i).1 = none ∨ w i < (nfold ok w i).2) then (some i, w i) else nfold ok w i) = _
              rw [if_pos ⟨hoki, hc⟩]
            refine Ex.p rfl ?_
            refine Ex.p rfl ?_
            refine Ex.p rfl ?_
            refine Ex.p rfl ?_
            refine Ex.pf 0 0 rfl rfl rfl rfl rfl rfl ?_
            refine Ex.p rfl ?_
            refine Ex.p rfl ?_
            rw [i_add1]
            have ih' := ih (i + 1) (by omega) (by omega)
            rw [e] at ih'
            exact ih' _ (Or.inl ⟨w i, rfl⟩)
          refine Ex.p rfl ?_
          refine Ex.p rfl ?_
          refine Ex.p rfl ?_
          refine Ex.br rfl (fun c3 => ?_) (fun c3 => ?_)
          · have c3 : bi (nfold ok w i).1 = -1 := c3
            rw [bi_m1 hb100] at c3
            exact take9 (Or.inl c3)
          · have c3 : ¬ bi (nfold ok w i).1 = -1 := c3
            rw [bi_m1 hb100] at c3
            repeat (first | refine Ex.p rfl ?_ | refine Ex.ldc rfl ?_ | refine Ex.ldc2 rfl ?_ | refine Ex.gf 0 0 rfl rfl rfl ?_)
            refine Ex.br rfl (fun c4 => ?_) (fun c4 => ?_)
            · have c4 : (nfold ok w i).2 ≤ w i := c4
              have e : nfold ok w (i + 1) = nfold ok w i := by
                show (if ok i = true ∧ ((nfold ok w i).1 = none ∨ w i < (nfold ok w i).2) then (some i, w i) else nfold ok w i) = _
                rw [if_neg]
                rintro ⟨-, q | q⟩
                · exact c3 q
                · rw [Int32.le_iff_toInt_le] at c4
                  rw [Int32.lt_iff_toInt_lt] at q
                  omega
              refine Ex.p rfl ?_
              refine Ex.p rfl ?_
              rw [i_add1]
              have ih' := ih (i + 1) (by omega) (by omega)
              rw [e] at ih'
              refine Ex.is [0, 2, 1, 3, 4] rfl rfl ?_
              exact ih' _ (Or.inl ⟨w i, rfl⟩)
            · have c4 : ¬ (nfold ok w i).2 ≤ w i := c4
              rw [Int32.le_iff_toInt_le] at c4
              exact take9 (Or.inr (Int32.lt_iff_toInt_lt.mpr (by omega)))
  refine Ex.p rfl ?_
  refine Ex.p rfl ?_
  exact loop (n + 1) 0 (by omega) (by omega) _ (Or.inr rfl)
end WA

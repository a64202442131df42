/-! Planner: bestNext, measureWays -/
/-- what bestNext weighs -/
def bw (fw fr : Nat → Int32) (s la j : Nat) : Int32 := fw (la * 8 + j) + fr ((s ||| 2 ^ j) * 8 + j)
section BN
variable {l : Launch} {D : xD} {R : Room}
theorem ct_Pl_bestNext {a n s la : Nat} {fm : Nat → Option Nat} {fd fw fr : Nat → Int32} {lst : Int32} {Cp : va_W} (hp : IsPl D a fm fd fw fr (nI n) lst Cp) (hn : n ≤ 8) (hs : s < 256) (hla : la ≤ 8) :
    Ct l mPl_bestNext D R [.ref a, .int (nI s), .int (nI la)] [Cp] (fun v S => v = some (.int (bi (nfold (fun j => !s.testBit j) (bw fw fr s la) n).1)) ∧ ∃ Cp', S = [Cp'] ∧ IsPl D a fm fd fw fr (nI n) (nfold (fun j => !s.testBit j) (bw fw fr s la) n).2 Cp') := by
  obtain ⟨og, mi, dn, wy, rs, rfl⟩ := hp
  generalize hok : (fun j => !s.testBit j) = ok
  generalize hwf : bw fw fr s la = w
  refine Ct.of rfl (by decide) tkPl_bestNext (Nat.le_of_ble_eq_true rfl) (fun A => ?_)
  refine Ex.p rfl ?_
  refine Ex.p rfl ?_
  refine Ex.p rfl ?_
  refine Ex.p rfl ?_
  refine Ex.pf 0 0 rfl rfl rfl rfl rfl rfl ?_
  have loop : ∀ (m i : Nat), n - i < m → i ≤ n → ∀ lv9 : List (Nat × Value), (∀ q ∈ [(4, Value.int (nI i)), (3, .int (bi (nfold ok w i).1)), (0, .ref a), (1, .int (nI s)), (2, .int (nI la))], q ∈ lv9) →
      Ex l mPl_bestNext D R A (xQ D A (fun v S => v = some (.int (bi (nfold ok w n).1)) ∧ ∃ Cp', S = [Cp'] ∧ IsPl D a fm fd fw fr (nI n) (nfold ok w n).2 Cp')) R.cells R.slots 10 lv9 [] [sPl D a og mi dn wy rs fm fd fw fr (nI n) (nfold ok w i).2] 0 0 := by
    intro m
    induction m with
    | zero => intro i h; omega
    | succ m ih =>
      intro i him hi lv9 hlv
      refine Ex.lv hlv ?_
      repeat (first | refine Ex.p rfl ?_ | refine Ex.ldc rfl ?_ | refine Ex.ldc2 rfl ?_ | refine Ex.gf 0 0 rfl rfl rfl ?_)
      refine Ex.br rfl (fun c1 => ?_) (fun c1 => ?_)
      · rw [nI_leI (by omega) (by omega)] at c1
        have : i = n := by omega
        subst this
        refine Ex.p rfl ?_
        exact Ex.iret rfl rfl (Nat.zero_le _) (Nat.zero_le _) rfl ⟨rfl, _, rfl, og, mi, dn, wy, rs, rfl⟩
      · rw [nI_leI (by omega) (by omega)] at c1
        have hin : i < n := by omega
        have hbt := bit_t s hs i (by omega)
        obtain ⟨ho1, ho2⟩ := bit_or s hs i (by omega)
        refine Ex.p rfl ?_
        refine Ex.p rfl ?_
        refine Ex.p rfl ?_
        refine Ex.p rfl ?_
        refine Ex.p rfl ?_
        refine Ex.br rfl (fun c2 => ?_) (fun c2 => ?_)
        · have c2 : ¬ ((nI s >>> (nI i &&& 31)) &&& Int32.ofInt 1) = 0 := c2
          rw [hbt] at c2
          have e : nfold ok w (i + 1) = nfold ok w i := by
            show (if ok i = true ∧ ((nfold ok w i).1 = none ∨ w i < (nfold ok w i).2) then (some i, w i) else nfold ok w i) = _
            rw [if_neg]
            rw [← hok]
            simp at c2
            simp [c2]
          refine Ex.p rfl ?_
          refine Ex.p rfl ?_
          rw [i_add1]
          have ih' := ih (i + 1) (by omega) (by omega)
          rw [e] at ih'
          refine ih' _ (fun q h => ?_)
          simp only [List.mem_cons, List.not_mem_nil, or_false] at h
          rcases h with rfl | rfl | rfl | rfl | rfl <;> simp [xs1, Value.category]
        · have c2 : ¬ ¬ ((nI s >>> (nI i &&& 31)) &&& Int32.ofInt 1) = 0 := c2
          have c2 : ((nI s >>> (nI i &&& 31)) &&& Int32.ofInt 1) = 0 := Decidable.byContradiction c2
          rw [hbt] at c2
          have hoki : ok i = true := by rw [← hok]; simp [c2]
          repeat (first | refine Ex.p rfl ?_ | refine Ex.ldc rfl ?_ | refine Ex.ldc2 rfl ?_ | refine Ex.gf 0 0 rfl rfl rfl ?_)
          rw [ho1, show (Int8.ofInt 8).toInt32 = nI 8 from rfl, pk_mul, nI_add]
          refine Ex.ial 0 5 ((s ||| 2 ^ i) * 8 + i) rfl rfl rfl (nI_toInt (by omega)) (by omega) ?_
          repeat (first | refine Ex.p rfl ?_ | refine Ex.ldc rfl ?_ | refine Ex.ldc2 rfl ?_ | refine Ex.gf 0 0 rfl rfl rfl ?_)
          rw [show (Int8.ofInt 8).toInt32 = nI 8 from rfl, pk_mul, nI_add]
          refine Ex.ial 0 4 (la * 8 + i) rfl rfl rfl (nI_toInt (by omega)) (by omega) ?_
          have hwi : fw (la * 8 + i) + fr ((s ||| 2 ^ i) * 8 + i) = w i := by rw [← hwf]; rfl
          refine Ex.p rfl ?_
          refine Ex.p rfl ?_
          rw [hwi]
          have hb100 : ∀ b, (nfold ok w i).1 = some b → b < 100 := fun b hb => by have := nfold_lt hb; omega
          have take9 : ((nfold ok w i).1 = none ∨ w i < (nfold ok w i).2) → Ex l mPl_bestNext D R A (xQ D A (fun v S => v = some (.int (bi (nfold ok w n).1)) ∧ ∃ Cp', S = [Cp'] ∧ IsPl D a fm fd fw fr (nI n) (nfold ok w n).2 Cp')) R.cells R.slots 78 [(6, Value.int (w i)), (5, .int (fr ((s ||| 2 ^ i) * 8 + i))), (4, .int (nI i)), (3, .int (bi (nfold ok w i).1)), (0, .ref a), (1, .int (nI s)), (2, .int (nI la))] [] [sPl D a og mi dn wy rs fm fd fw fr (nI n) (nfold ok w i).2] 0 0 := by
            intro hc
            have e : nfold ok w (i + 1) = (some i, w i) := by
              show (if ok i = true ∧ ((nfold ok w i).1 = none ∨ w i < (nfold ok w i).2) then (some i, w i) else nfold ok w i) = _
              rw [if_pos ⟨hoki, hc⟩]
            refine Ex.p rfl ?_
            refine Ex.p rfl ?_
            refine Ex.p rfl ?_
            refine Ex.p rfl ?_
            refine Ex.pf 0 0 rfl rfl rfl rfl rfl rfl ?_
            refine Ex.p rfl ?_
            refine Ex.p rfl ?_
            rw [i_add1]
            have ih' := ih (i + 1) (by omega) (by omega)
            rw [e] at ih'
            refine Ex.is [0, 1, 4, 5, 6] rfl rfl ?_
            exact ih' _ (fun q h => h)
          refine Ex.p rfl ?_
          refine Ex.p rfl ?_
          refine Ex.p rfl ?_
          refine Ex.br rfl (fun c3 => ?_) (fun c3 => ?_)
          · have c3 : bi (nfold ok w i).1 = -1 := c3
            rw [bi_m1 hb100] at c3
            exact take9 (Or.inl c3)
          · have c3 : ¬ bi (nfold ok w i).1 = -1 := c3
            rw [bi_m1 hb100] at c3
            repeat (first | refine Ex.p rfl ?_ | refine Ex.ldc rfl ?_ | refine Ex.ldc2 rfl ?_ | refine Ex.gf 0 0 rfl rfl rfl ?_)
            refine Ex.br rfl (fun c4 => ?_) (fun c4 => ?_)
            · have c4 : (nfold ok w i).2 ≤ w i := c4
              have e : nfold ok w (i + 1) = nfold ok w i := by
                show (if ok i = true ∧ ((nfold ok w i).1 = none ∨ w i < (nfold ok w i).2) then (some i, w i) else nfold ok w i) = _
                rw [if_neg]
                rintro ⟨-, q | q⟩
                · exact c3 q
                · rw [Int32.le_iff_toInt_le] at c4
                  rw [Int32.lt_iff_toInt_lt] at q
                  omega
              refine Ex.p rfl ?_
              refine Ex.p rfl ?_
              rw [i_add1]
              have ih' := ih (i + 1) (by omega) (by omega)
              rw [e] at ih'
              refine ih' _ (fun q h => ?_)
              simp only [List.mem_cons, List.not_mem_nil, or_false] at h
              rcases h with rfl | rfl | rfl | rfl | rfl <;> simp [xs1, Value.category]
            · have c4 : ¬ (nfold ok w i).2 ≤ w i := c4
              rw [Int32.le_iff_toInt_le] at c4
              exact take9 (Or.inr (Int32.lt_iff_toInt_lt.mpr (by omega)))
  refine Ex.p rfl ?_
  refine Ex.p rfl ?_
  exact loop (n + 1) 0 (by omega) (by omega) _ (fun q h => h)
end BN

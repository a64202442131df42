/-! Planner: measureWays -/
/-- the ways between k hits, and from 0, 0 -/
def WaysOK (k : Nat) (mv : Nat → HV) (fw : Nat → Int32) : Prop := (∀ la nx, la < k → nx < k → fw (la * 8 + nx) = hway (mv la) (mv nx)) ∧ ∀ nx, nx < k → fw (64 + nx) = hway ogv (mv nx)
section MW
variable {l : Launch} {D : xD} {R : Room}
theorem ct_Pl_measureWays {a n : Nat} {fm : Nat → Option Nat} {fd fw fr : Nat → Int32} {lst : Int32} {Cp Hs : va_W} {mv : Nat → HV} (hp : IsPl D a fm fd fw fr (nI n) lst Cp) (hn : n ≤ 8) (hm : ∀ j, j < n → ∃ (b i : Nat), fm j = some b ∧ Hs[i]? = some (cHit b (mv j))) (hr : rmOk R 2 0 0) :
    Ct l mPl_measureWays D R [.ref a] [Cp, Hs] (fun v S => v = none ∧ ∃ Cp' fw', S = [Cp', Hs] ∧ IsPl D a fm fd fw' fr (nI n) lst Cp' ∧ WaysOK n mv fw') := by
  obtain ⟨og, mi, dn, wy, rs, rfl⟩ := hp
  obtain ⟨r1, r2, r3, r4⟩ := hr
  refine Ct.of rfl (by decide) tkPl_measureWays (Nat.le_of_ble_eq_true rfl) (fun A => ?_)
  generalize hQ : (fun (v : Option Value) S => v = none ∧ ∃ Cp' fw', S = [Cp', Hs] ∧ IsPl D a fm fd fw' fr (nI n) lst Cp' ∧ WaysOK n mv fw') = Q
  have outer : ∀ (m i : Nat), n - i < m → i ≤ n → ∀ (fw' : Nat → Int32), (∀ la nx, la < n → nx < i → fw' (la * 8 + nx) = hway (mv la) (mv nx)) → (∀ nx, nx < i → fw' (64 + nx) = hway ogv (mv nx)) → ∀ lv9 : List (Nat × Value), (∀ q ∈ [(1, Value.int (nI i)), (0, .ref a)], q ∈ lv9) →
      Ex l mPl_measureWays D R A (xQ D A Q) R.cells R.slots 2 lv9 [] [sPl D a og mi dn wy rs fm fd fw' fr (nI n) lst, Hs] 0 0 := by
    intro m
    induction m with
    | zero => intro i h; omega
    | succ m ih =>
      intro i him hi fw' hw1 hw2 lv9 hlv
      refine Ex.lv hlv ?_
      repeat (first | refine Ex.p rfl ?_ | refine Ex.ldc rfl ?_ | refine Ex.ldc2 rfl ?_ | refine Ex.gf 0 0 rfl rfl rfl ?_)
      refine Ex.br rfl (fun c1 => ?_) (fun c1 => ?_)
      · rw [nI_leI (by omega) (by omega)] at c1
        have : i = n := by omega
        subst this
        refine Ex.vret rfl rfl (Nat.zero_le _) (Nat.zero_le _) rfl ?_
        subst hQ
        exact ⟨rfl, _, fw', rfl, ⟨og, mi, dn, wy, rs, rfl⟩, hw1, hw2⟩
      · rw [nI_leI (by omega) (by omega)] at c1
        have hin : i < n := by omega
        obtain ⟨b, ib, eb, hat⟩ := hm i hin
        have inner : ∀ (m2 j : Nat), n - j < m2 → j ≤ n → ∀ (fw2 : Nat → Int32), (∀ la nx, la < n → nx < i → fw2 (la * 8 + nx) = hway (mv la) (mv nx)) → (∀ nx, nx < i → fw2 (64 + nx) = hway ogv (mv nx)) → (∀ la, la < j → fw2 (la * 8 + i) = hway (mv la) (mv i)) →
            Ex l mPl_measureWays D R A (xQ D A Q) R.cells R.slots 12 [(2, Value.int (nI j)), (1, .int (nI i)), (0, .ref a)] [] [sPl D a og mi dn wy rs fm fd fw2 fr (nI n) lst, Hs] 0 0 := by
          intro m2
          induction m2 with
          | zero => intro j h; omega
          | succ m2 ih2 =>
            intro j hjm hj fw2 g1 g2 g3
            repeat (first | refine Ex.p rfl ?_ | refine Ex.ldc rfl ?_ | refine Ex.ldc2 rfl ?_ | refine Ex.gf 0 0 rfl rfl rfl ?_)
            refine Ex.br rfl (fun c2 => ?_) (fun c2 => ?_)
            · rw [nI_leI (by omega) (by omega)] at c2
              repeat (first | refine Ex.p rfl ?_ | refine Ex.ldc rfl ?_ | refine Ex.ldc2 rfl ?_ | refine Ex.gf 0 0 rfl rfl rfl ?_)
              refine Ex.aal 0 2 i 4 rfl rfl rfl rfl (nI_toInt (by omega)) (by omega) ?_
              rw [eb, show (Int8.ofInt 64).toInt32 = nI 64 from rfl, nI_add]
              refine Ex.cv (Mc := mHi_wayTo) (Rc := rm 1 0 0) (As := [.ref b]) (rest := [.int (nI (64 + i)), .ref wy]) (Sr := []) (ic := 0) (jc := 1) (ci := 3) [0, 1] [] (ct_wayG (S0 := [sPl D a og mi dn wy rs fm fd fw2 fr (nI n) lst, Hs]) (i := 0) (j := 1) (i2 := 1) rfl rfl rfl hat (rm_ok _ _ _)) rfl lk_4_82 lcHi_wayTo rfl rfl rfl rfl rfl (by decide) rfl rfl rfl (by decide) ⟨r1, by show 8 + (2 + 11) + 40 ≤ R.locals; omega⟩ (Nat.le_of_ble_eq_true rfl) (Nat.zero_le _) (Nat.zero_le _) ?_
              rintro v S1 ⟨rfl, rfl⟩
              refine Ex.ias 0 4 (64 + i) rfl rfl rfl (nI_toInt (by omega)) (by omega) ?_
              refine Ex.p rfl ?_
              refine Ex.p rfl ?_
              rw [i_add1]
              refine ih (i + 1) (by omega) (by omega) (upd fw2 (64 + i) (hway ogv (mv i))) ?_ ?_ _ (fun q h => ?_)
              · intro la nx h1 h2
                rw [pk_un (by omega)]
                by_cases e : nx = i
                · subst e; exact g3 la (by omega)
                · exact g1 la nx h1 (by omega)
              · intro nx h2
                by_cases e : nx = i
                · subst e; exact pk_us
                · rw [pk_un (by omega)]
                  exact g2 nx (by omega)
              · simp only [List.mem_cons, List.not_mem_nil, or_false] at h
                rcases h with rfl | rfl <;> simp [xs1, Value.category]
            · rw [nI_leI (by omega) (by omega)] at c2
              have hjn : j < n := by omega
              obtain ⟨b2, ib2, eb2, hat2⟩ := hm j hjn
              repeat (first | refine Ex.p rfl ?_ | refine Ex.ldc rfl ?_ | refine Ex.ldc2 rfl ?_ | refine Ex.gf 0 0 rfl rfl rfl ?_)
              rw [show (Int8.ofInt 8).toInt32 = nI 8 from rfl, pk_mul, nI_add]
              refine Ex.aal 0 2 j 4 rfl rfl rfl rfl (nI_toInt (by omega)) (by omega) ?_
              rw [eb2]
              repeat (first | refine Ex.p rfl ?_ | refine Ex.ldc rfl ?_ | refine Ex.ldc2 rfl ?_ | refine Ex.gf 0 0 rfl rfl rfl ?_)
              refine Ex.aal 0 2 i 4 rfl rfl rfl rfl (nI_toInt (by omega)) (by omega) ?_
              rw [eb]
              refine Ex.cv (Mc := mHi_wayTo) (Rc := rm 1 0 0) (As := [.ref b]) (rest := [.int (nI (j * 8 + i)), .ref wy]) (Sr := []) (ic := 1) (jc := ib2) (ci := 3) [0, 1] [] (ct_wayG (S0 := [sPl D a og mi dn wy rs fm fd fw2 fr (nI n) lst, Hs]) (i := 1) (i2 := 1) rfl hat2 rfl hat (rm_ok _ _ _)) rfl lk_4_82 lcHi_wayTo rfl rfl rfl rfl rfl (by decide) rfl hat2 rfl (by decide) ⟨r1, by show 8 + (2 + 11) + 40 ≤ R.locals; omega⟩ (Nat.le_of_ble_eq_true rfl) (Nat.zero_le _) (Nat.zero_le _) ?_
              rintro v S1 ⟨rfl, rfl⟩
              refine Ex.ias 0 4 (j * 8 + i) rfl rfl rfl (nI_toInt (by omega)) (by omega) ?_
              refine Ex.p rfl ?_
              refine Ex.p rfl ?_
              rw [i_add1]
              refine ih2 (j + 1) (by omega) (by omega) (upd fw2 (j * 8 + i) (hway (mv j) (mv i))) ?_ ?_ ?_
              · intro la nx h1 h2
                rw [pk_un (by omega)]
                exact g1 la nx h1 h2
              · intro nx h2
                rw [pk_un (by omega)]
                exact g2 nx h2
              · intro la h1
                by_cases e : la = j
                · subst e; exact pk_us
                · rw [pk_un (by omega)]
                  exact g3 la (by omega)
        refine Ex.p rfl ?_
        refine Ex.p rfl ?_
        exact inner (n + 1) 0 (by omega) (by omega) fw' hw1 hw2 (fun la h => by omega)
  refine Ex.p rfl ?_
  refine Ex.p rfl ?_
  exact outer (n + 1) 0 (by omega) (by omega) fw (fun la nx _ h => by omega) (fun nx h => by omega) _ (fun q h => h)
end MW

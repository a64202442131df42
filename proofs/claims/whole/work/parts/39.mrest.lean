/-! Planner: measureRest -/
theorem nfold_congr {ok : Nat → Bool} {w w' : Nat → Int32} : ∀ {n : Nat}, (∀ j, j < n → ok j = true → w j = w' j) → nfold ok w n = nfold ok w' n
  | 0, _ => rfl
  | n + 1, h => by
    have ih := nfold_congr (n := n) (fun j hj ho => h j (by omega) ho)
    unfold nfold
    rw [ih]
    by_cases ho : ok n = true
    · rw [h n (by omega) ho]
    · rw [if_neg (fun q => ho q.1), if_neg (fun q => ho q.1)]
theorem or_gt : ∀ s, s < 256 → ∀ j, j < 8 → s ≤ (s ||| 2 ^ j) ∧ (s.testBit j = false → s < (s ||| 2 ^ j)) := by decide +kernel
theorem sh_all : ∀ n, n ≤ 8 → (Int32.ofInt 1 <<< (nI n &&& 31)) - Int32.ofInt 1 = nI (2 ^ n - 1) ∧ 2 ^ n ≤ 256 ∧ 1 ≤ 2 ^ n := by decide +kernel
/-- the row of a set and its last: what is least behind it -/
def RestEq (n : Nat) (fw fr : Nat → Int32) (s la : Nat) : Prop := fr (s * 8 + la) = (nfold (fun j => !s.testBit j) (bw fw fr s la) n).2
def RestOK (n : Nat) (fw fr : Nat → Int32) : Prop := ∀ s la, 0 < s → s < 2 ^ n → la < n → s.testBit la = true → RestEq n fw fr s la
theorem RestEq.keep {n : Nat} {fw fr : Nat → Int32} {s la s0 la0 : Nat} {v : Int32} (hn : n ≤ 8) (hs : s < 256) (hla : la < n) (hla0 : la0 < n) (h : RestEq n fw fr s la) (hne : s0 < s ∨ (s0 = s ∧ la ≠ la0)) : RestEq n fw (upd fr (s0 * 8 + la0) v) s la := by
  unfold RestEq at h ⊢
  rw [pk_un (by omega), h]
  congr 1
  refine nfold_congr fun j hj ho => ?_
  have hg := or_gt s hs j (by omega)
  have hb : s.testBit j = false := by simpa using ho
  have := hg.2 hb
  unfold bw
  rw [pk_un (by omega)]
section MR
variable {l : Launch} {D : xD} {R : Room}
theorem ct_Pl_measureRest {a n : Nat} {fm : Nat → Option Nat} {fd fw fr : Nat → Int32} {lst : Int32} {Cp : va_W} (hp : IsPl D a fm fd fw fr (nI n) lst Cp) (hn : n ≤ 8) (hr : rmOk R 1 0 0) :
    Ct l mPl_measureRest D R [.ref a] [Cp] (fun v S => v = none ∧ ∃ Cp' fr' lst', S = [Cp'] ∧ IsPl D a fm fd fw fr' (nI n) lst' Cp' ∧ RestOK n fw fr') := by
  obtain ⟨og, mi, dn, wy, rs, rfl⟩ := hp
  obtain ⟨r1, r2, r3, r4⟩ := hr
  obtain ⟨hsh, h256, h1n⟩ := sh_all n hn
  refine Ct.of rfl (by decide) tkPl_measureRest (Nat.le_of_ble_eq_true rfl) (fun A => ?_)
  generalize hQ : (fun (v : Option Value) S => v = none ∧ ∃ Cp' fr' lst', S = [Cp'] ∧ IsPl D a fm fd fw fr' (nI n) lst' Cp' ∧ RestOK n fw fr') = Q
  have outer : ∀ (σ : Nat), σ < 2 ^ n → ∀ (og mi dn wy rs : Nat) (fr' : Nat → Int32) (lst' : Int32), (∀ s la, σ < s → s < 2 ^ n → la < n → s.testBit la = true → RestEq n fw fr' s la) → ∀ lv9 : List (Nat × Value), (∀ q ∈ [(1, Value.int (nI σ)), (0, .ref a)], q ∈ lv9) →
      Ex l mPl_measureRest D R A (xQ D A Q) R.cells R.slots 9 lv9 [] [sPl D a og mi dn wy rs fm fd fw fr' (nI n) lst'] 0 0 := by
    intro σ
    induction σ with
    | zero =>
      intro hσ og mi dn wy rs fr' lst' hrest lv9 hlv
      refine Ex.lv hlv ?_
      refine Ex.p rfl ?_
      refine Ex.br rfl (fun _ => ?_) (fun c => absurd (by decide) c)
      refine Ex.vret rfl rfl (Nat.zero_le _) (Nat.zero_le _) rfl ?_
      subst hQ
      exact ⟨rfl, _, fr', lst', rfl, ⟨og, mi, dn, wy, rs, rfl⟩, hrest⟩
    | succ σ ih =>
      intro hσ og mi dn wy rs fr' lst' hrest lv9 hlv
      refine Ex.lv hlv ?_
      refine Ex.p rfl ?_
      refine Ex.br rfl (fun c => absurd c (nI_nle (by omega) (by omega))) (fun _ => ?_)
      have inner : ∀ (m2 j : Nat), n - j < m2 → j ≤ n → ∀ (og mi dn wy rs : Nat) (fr2 : Nat → Int32) (lst2 : Int32), (∀ s la, σ + 1 < s → s < 2 ^ n → la < n → s.testBit la = true → RestEq n fw fr2 s la) → (∀ la, la < j → (σ + 1).testBit la = true → RestEq n fw fr2 (σ + 1) la) →
          Ex l mPl_measureRest D R A (xQ D A Q) R.cells R.slots 15 [(2, Value.int (nI j)), (1, .int (nI (σ + 1))), (0, .ref a)] [] [sPl D a og mi dn wy rs fm fd fw fr2 (nI n) lst2] 0 0 := by
        intro m2
        induction m2 with
        | zero => intro j h; omega
        | succ m2 ih2 =>
          intro j hjm hj og mi dn wy rs fr2 lst2 g1 g2
          repeat (first | refine Ex.p rfl ?_ | refine Ex.ldc rfl ?_ | refine Ex.ldc2 rfl ?_ | refine Ex.gf 0 0 rfl rfl rfl ?_)
          refine Ex.br rfl (fun c2 => ?_) (fun c2 => ?_)
          · rw [nI_leI (by omega) (by omega)] at c2
            refine Ex.p rfl ?_
            refine Ex.p rfl ?_
            rw [show nI (σ + 1) + Int32.ofInt (-1) = nI σ from pk_m1 σ]
            refine ih (by omega) og mi dn wy rs fr2 lst2 ?_ _ (fun q h => ?_)
            · intro s la h1 h2 h3 h4
              by_cases e : s = σ + 1
              · subst e; exact g2 la (by omega) h4
              · exact g1 s la (by omega) h2 h3 h4
            · simp only [List.mem_cons, List.not_mem_nil, or_false] at h
              rcases h with rfl | rfl <;> simp [xs1, Value.category]
          · rw [nI_leI (by omega) (by omega)] at c2
            have hjn : j < n := by omega
            have hbt := bit_t (σ + 1) (by omega) j (by omega)
            refine Ex.p rfl ?_
            refine Ex.p rfl ?_
            refine Ex.p rfl ?_
            refine Ex.p rfl ?_
            refine Ex.p rfl ?_
            refine Ex.br rfl (fun c3 => ?_) (fun c3 => ?_)
            · have c3 : ((nI (σ + 1) >>> (nI j &&& 31)) &&& Int32.ofInt 1) = 0 := c3
              rw [hbt] at c3
              refine Ex.p rfl ?_
              refine Ex.p rfl ?_
              rw [i_add1]
              refine ih2 (j + 1) (by omega) (by omega) og mi dn wy rs fr2 lst2 g1 ?_
              intro la h1 h2
              by_cases e : la = j
              · subst e; rw [c3] at h2; cases h2
              · exact g2 la (by omega) h2
            · have c3 : ¬ ((nI (σ + 1) >>> (nI j &&& 31)) &&& Int32.ofInt 1) = 0 := c3
              rw [hbt] at c3
              refine Ex.p rfl ?_
              refine Ex.p rfl ?_
              refine Ex.p rfl ?_
              refine Ex.cv (Mc := mPl_bestNext) (Rc := rm 0 0 0) (As := [.int (nI (σ + 1)), .int (nI j)]) (rest := []) (Sr := []) (ic := 0) (jc := 0) (ci := 4) [0] [] (ct_Pl_bestNext ⟨og, mi, dn, wy, rs, rfl⟩ hn (by omega) (by omega)) rfl lk_4_86 lcPl_bestNext rfl rfl rfl rfl rfl (by decide) rfl rfl rfl (by decide) ⟨r1, by show 8 + (7 + 11) + 0 ≤ R.locals; omega⟩ (Nat.zero_le _) (Nat.zero_le _) (Nat.zero_le _) ?_
              rintro v S1 ⟨rfl, Cp', rfl, og', mi', dn', wy', rs', rfl⟩
              repeat (first | refine Ex.p rfl ?_ | refine Ex.ldc rfl ?_ | refine Ex.ldc2 rfl ?_ | refine Ex.gf 0 0 rfl rfl rfl ?_)
              rw [show (Int8.ofInt 8).toInt32 = nI 8 from rfl, pk_mul, nI_add]
              repeat (first | refine Ex.p rfl ?_ | refine Ex.ldc rfl ?_ | refine Ex.ldc2 rfl ?_ | refine Ex.gf 0 0 rfl rfl rfl ?_)
              refine Ex.ias 0 5 ((σ + 1) * 8 + j) rfl rfl rfl (nI_toInt (by omega)) (by omega) ?_
              refine Ex.p rfl ?_
              refine Ex.p rfl ?_
              rw [i_add1]
              refine ih2 (j + 1) (by omega) (by omega) og' mi' dn' wy' rs' _ _ ?_ ?_
              · intro s la h1 h2 h3 h4
                exact (g1 s la h1 h2 h3 h4).keep hn (by omega) h3 hjn (Or.inl h1)
              · intro la h1 h2
                by_cases e : la = j
                · subst e
                  unfold RestEq
                  rw [pk_us]
                  congr 1
                  refine nfold_congr fun j2 hj2 ho => ?_
                  have hb : (σ + 1).testBit j2 = false := by simpa using ho
                  have := (or_gt (σ + 1) (by omega) j2 (by omega)).2 hb
                  unfold bw
                  rw [pk_un (by omega)]
                · exact (g2 la (by omega) h2).keep hn (by omega) (by omega) hjn (Or.inr ⟨rfl, e⟩)
      refine Ex.p rfl ?_
      refine Ex.p rfl ?_
      exact inner (n + 1) 0 (by omega) (by omega) og mi dn wy rs fr' lst' hrest (fun la h => by omega)
  refine Ex.p rfl ?_
  refine Ex.p rfl ?_
  refine Ex.gf 0 0 rfl rfl rfl ?_
  refine Ex.p rfl ?_
  refine Ex.p rfl ?_
  refine Ex.p rfl ?_
  rw [hsh]
  refine Ex.p rfl ?_
  exact outer (2 ^ n - 1) (by omega) og mi dn wy rs fr lst (fun s la h1 h2 => by omega) _ (fun q h => h)
end MR

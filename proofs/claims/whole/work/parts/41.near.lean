/-! Planner: planNearest -/
def npk (n : Nat) (mv : Nat → HV) : Nat → (Nat → Int32) → HV → List (Nat × Int32)
  | 0, _, _ => []
  | k + 1, fd, g => match (nfold (fun j => decide (fd j = 0)) (fun j => hway g (mv j)) n).1 with
    | none => []
    | some b => (b, (nfold (fun j => decide (fd j = 0)) (fun j => hway g (mv j)) n).2) :: npk n mv k (upd fd b 1) (mv b)
def nacc : Int64 → List (Nat × Int32) → Int64
  | v, [] => v
  | v, b :: bs => nacc (v + b.2.toInt64) bs
section NE
variable {l : Launch} {D : xD} {R : Room}
theorem ct_Pl_planNearest {a n t ch co : Nat} {fm : Nat → Option Nat} {fd fw fr : Nat → Int32} {lst dm : Int32} {pl pn : Bool} {len : Int64} {ns : List Nat} {mv : Nat → HV} {Cp C Hs : va_W} (hp : IsPl D a fm fd fw fr (nI n) lst Cp) (ht : IsTool D t dm pl (ns.map nI) [] len pn ch co C) (hn : n ≤ 60) (hns : ns.length = n) (hm : ∀ j, j < n → ∃ (b i : Nat), fm j = some b ∧ Hs[i]? = some (cHit b (mv j)))
    (hr : rmOk R 4 ((capN co 0 (npk n mv n fd ogv).length - co) / 8) (2 * (capN co 0 (npk n mv n fd ogv).length - co))) :
    Ct l mPl_planNearest D R [.ref a, .ref t] [Cp, C, Hs] (fun v S => v = none ∧ ∃ Cp' C' fd' lst', S = [Cp', C', Hs] ∧ IsPl D a fm fd' fw fr (nI n) lst' Cp' ∧ IsTool D t dm pl (ns.map nI) ((npk n mv n fd ogv).map (fun b => nI (ns.getD b.1 0))) (nacc len (npk n mv n fd ogv)) pn ch (capN co 0 (npk n mv n fd ogv).length) C') := by
  obtain ⟨r1, r2, r3, r4⟩ := hr
  generalize hall : npk n mv n fd ogv = P at r3 r4 ⊢
  refine Ct.of rfl (by decide) tkPl_planNearest (Nat.le_of_ble_eq_true rfl) (fun A => ?_)
  generalize hQ : (fun (v : Option Value) S => v = none ∧ ∃ Cp' C' fd' lst', S = [Cp', C', Hs] ∧ IsPl D a fm fd' fw fr (nI n) lst' Cp' ∧ IsTool D t dm pl (ns.map nI) (P.map (fun b => nI (ns.getD b.1 0))) (nacc len P) pn ch (capN co 0 P.length) C') = Q
  have loop : ∀ (k i : Nat), i + k = n → ∀ (og mi dn wy rs ah : Nat) (g : HV) (fd' : Nat → Int32) (ps : List (Nat × Int32)) (cp : Nat) (v : Int64) (lst' : Int32) (C' : va_W), ((∃ j : Nat, Hs[j]? = some (cHit ah g)) ∨ (ah = og ∧ g = ogv)) → IsTool D t dm pl (ns.map nI) (ps.map (fun b => nI (ns.getD b.1 0))) v pn ch cp C' → ps.length = i → P = ps ++ npk n mv k fd' g → nacc len P = nacc v (npk n mv k fd' g) → co ≤ cp → capN co 0 P.length = capN cp i (npk n mv k fd' g).length → ∀ lv9 : List (Nat × Value), (∀ q ∈ [(3, Value.int (nI i)), (2, .ref ah), (0, .ref a), (1, .ref t)], q ∈ lv9) →
      Ex l mPl_planNearest D R A (xQ D A Q) R.cells R.slots 7 lv9 [] [sPl D a og mi dn wy rs fm fd' fw fr (nI n) lst', C', Hs] (0 + (cp - co) / 8) (0 + 2 * (cp - co)) := by
    intro k
    induction k with
    | zero =>
      intro i hik og mi dn wy rs ah g fd' ps cp v lst' C' hloc ht' hpl hP hacc hco hcap lv9 hlv
      refine Ex.lv hlv ?_
      repeat (first | refine Ex.p rfl ?_ | refine Ex.ldc rfl ?_ | refine Ex.ldc2 rfl ?_ | refine Ex.gf 0 0 rfl rfl rfl ?_)
      refine Ex.br rfl (fun _ => ?_) (fun c => absurd (by rw [nI_leI (by omega) (by omega)]; omega) c)
      rw [show npk n mv 0 fd' g = [] from rfl] at hP hacc hcap
      rw [List.append_nil] at hP
      have hacc : nacc len P = v := hacc
      have hcap : capN co 0 P.length = cp := hcap
      refine Ex.vret rfl rfl (by omega) (by omega) rfl ?_
      subst hQ
      rw [hacc, hcap, hP]
      exact ⟨rfl, _, _, fd', lst', rfl, ⟨og, mi, dn, wy, rs, rfl⟩, ht'⟩
    | succ k ih =>
      intro i hik og mi dn wy rs ah g fd' ps cp v lst' C' hloc ht' hpl hP hacc hco hcap lv9 hlv
      have hge := capN_ge (npk n mv (k + 1) fd' g).length cp i
      refine Ex.lv hlv ?_
      repeat (first | refine Ex.p rfl ?_ | refine Ex.ldc rfl ?_ | refine Ex.ldc2 rfl ?_ | refine Ex.gf 0 0 rfl rfl rfl ?_)
      refine Ex.br rfl (fun c => absurd (by rw [nI_leI (by omega) (by omega)] at c; exact c) (by omega)) (fun _ => ?_)
      refine Ex.p rfl ?_
      refine Ex.p rfl ?_
      have hnear : Ct l mPl_nearest D (rm 2 0 0) [.ref a, .ref ah] [sPl D a og mi dn wy rs fm fd' fw fr (nI n) lst', Hs] (fun v S => v = some (.int (bi (nfold (fun j => decide (fd' j = 0)) (fun j => hway g (mv j)) n).1)) ∧ ∃ Cp', S = [Cp', Hs] ∧ IsPl D a fm fd' fw fr (nI n) (nfold (fun j => decide (fd' j = 0)) (fun j => hway g (mv j)) n).2 Cp') := by
        rcases hloc with ⟨j, hj⟩ | ⟨rfl, rfl⟩
        · exact ct_Pl_nearest (i0 := 1) (j0 := j) ⟨og, mi, dn, wy, rs, rfl⟩ hn hm rfl hj (fun h => by cases h) (rm_ok _ _ _)
        · exact ct_Pl_nearest (i0 := 0) (j0 := 1) ⟨_, mi, dn, wy, rs, rfl⟩ hn hm rfl rfl (fun _ => rfl) (rm_ok _ _ _)
      refine Ex.cv (Mc := mPl_nearest) (Rc := rm 2 0 0) (As := [.ref ah]) (rest := []) (Sr := [C']) (ic := 0) (jc := 0) (ci := 4) [0, 2] [1] hnear rfl lk_4_97 lcPl_nearest rfl rfl rfl rfl rfl (by decide) rfl rfl rfl (by decide) ⟨by dsimp only [rm]; omega, by show 8 + (5 + 11) + 80 ≤ R.locals; omega⟩ (Nat.zero_le _) (by dsimp only [rm]; omega) (by dsimp only [rm]; omega) ?_
      rintro w S1 ⟨rfl, Cp2, rfl, hp2⟩
      generalize hnf : nfold (fun j => decide (fd' j = 0)) (fun j => hway g (mv j)) n = nf at hp2 ⊢
      have hpk : npk n mv (k + 1) fd' g = match nf.1 with
          | none => []
          | some b => (b, nf.2) :: npk n mv k (upd fd' b 1) (mv b) := by rw [← hnf]; rfl
      cases ho : nf.1 with
      | none =>
        rw [ho] at hpk
        refine Ex.p rfl ?_
        refine Ex.p rfl ?_
        refine Ex.p rfl ?_
        refine Ex.br rfl (fun c => absurd rfl c) (fun _ => ?_)
        rw [hpk] at hP hacc hcap
        rw [List.append_nil] at hP
        have hacc : nacc len P = v := hacc
        have hcap : capN co 0 P.length = cp := hcap
        refine Ex.sub (S' := [Cp2, C', Hs]) [1, 0, 2] rfl rfl ?_
        refine Ex.vret rfl rfl (by dsimp only [rm]; omega) (by dsimp only [rm]; omega) rfl ?_
        subst hQ
        rw [hacc, hcap, hP]
        exact ⟨rfl, _, _, _, _, rfl, hp2, ht'⟩
      | some b =>
        rw [ho] at hpk
        have hbn : b < n := nfold_lt (by rw [hnf]; exact ho)
        have hbi : ¬ bi (some b) = -1 := by rw [bi_m1 (fun b' h => by cases h; omega)]; simp
        obtain ⟨og2, mi2, dn2, wy2, rs2, rfl⟩ := id hp2
        obtain ⟨rh, ro, Ch, Co, rfl, hrh, hro⟩ := id ht'
        obtain ⟨arr, f, rfl, x1, x2, x3, x4, x5, x6⟩ := id hrh
        obtain ⟨hb, ib, ehb, hat⟩ := hm b hbn
        rw [hpk] at hP hacc hcap hge
        have hcap : capN co 0 P.length = capN (rcap cp i) (i + 1) (npk n mv k (upd fd' b 1) (mv b)).length := hcap
        have hge2 := capN_ge (npk n mv k (upd fd' b 1) (mv b)).length (rcap cp i) (i + 1)
        have hge3 := rcap_ge cp i
        refine Ex.p rfl ?_
        refine Ex.p rfl ?_
        refine Ex.p rfl ?_
        refine Ex.br rfl (fun _ => ?_) (fun c => absurd hbi c)
        repeat (first | refine Ex.p rfl ?_ | refine Ex.ldc rfl ?_ | refine Ex.ldc2 rfl ?_ | refine Ex.gf 0 0 rfl rfl rfl ?_)
        refine Ex.seg (S' := [[(t, .inr (9, [.int dm, .int (b32 pl), .ref rh, .ref ro, .long v, .int (b32 pn)]))], sRow D rh arr ch f 60 (ns.map nI).length, Co, sPl D a og2 mi2 dn2 wy2 rs2 fm fd' fw fr (nI n) nf.2, Hs]) (by simp) ?_
        refine Ex.cv (Mc := mRo_get) (Rc := rm 0 0 0) (As := [.int (bi (some b))]) (rest := [.ref t]) (Sr := [[(t, .inr (9, [.int dm, .int (b32 pl), .ref rh, .ref ro, .long v, .int (b32 pn)]))], Co, sPl D a og2 mi2 dn2 wy2 rs2 fm fd' fw fr (nI n) nf.2, Hs]) (ic := 1) (jc := 0) (ci := 5) [1] [0, 2, 3, 4] (ct_Ro_get hrh) rfl lk_4_72 lcRo_get rfl rfl rfl rfl rfl (by decide) rfl rfl rfl (by decide) ⟨by dsimp only [rm]; omega, by show 8 + (2 + 11) + 0 ≤ R.locals; omega⟩ (Nat.le_of_ble_eq_true rfl) (by dsimp only [rm]; omega) (by dsimp only [rm]; omega) ?_
        rintro w S1 ⟨rfl, rfl⟩
        rw [show bi (some b) = nI b from rfl, rget_nI (by omega) (by omega)]
        repeat (first | refine Ex.p rfl ?_ | refine Ex.ldc rfl ?_ | refine Ex.ldc2 rfl ?_ | refine Ex.gf 2 0 rfl rfl rfl ?_)
        refine Ex.sub (S' := [[(t, .inr (9, [.int dm, .int (b32 pl), .ref rh, .ref ro, .long v, .int (b32 pn)]))], sRow D rh arr ch f 60 (ns.map nI).length, Co, sPl D a og2 mi2 dn2 wy2 rs2 fm fd' fw fr (nI n) nf.2, Hs]) [0, 4, 1, 2, 3] rfl rfl ?_
        refine Ex.seg (S' := [(t, .inr (9, [.int dm, .int (b32 pl), .ref rh, .ref ro, .long v, .int (b32 pn)])) :: (sRow D rh arr ch f 60 (ns.map nI).length ++ Co), sPl D a og2 mi2 dn2 wy2 rs2 fm fd' fw fr (nI n) nf.2, Hs]) (by simp) ?_
        have hol : (ps.map (fun b => nI (ns.getD b.1 0))).length = i := by simp [hpl]
        have hct := ct_To_planNext (l := l) (R := rm 3 ((rcap cp (ps.map (fun b => nI (ns.getD b.1 0))).length - cp) / 8) (2 * (rcap cp (ps.map (fun b => nI (ns.getD b.1 0))).length - cp))) (x := nI (ns.getD b 0)) (w := nf.2) ht' (by rw [hol]; omega) (rm_ok _ _ _)
        rw [hol] at hct
        refine Ex.cv (Mc := mTo_planNext) (Rc := rm 3 ((rcap cp i - cp) / 8) (2 * (rcap cp i - cp))) (As := [.int (nI (ns.getD b 0)), .int nf.2]) (rest := []) (Sr := [sPl D a og2 mi2 dn2 wy2 rs2 fm fd' fw fr (nI n) nf.2, Hs]) (ic := 0) (jc := 0) (ci := 9) [0] [1, 2] hct rfl lk_4_93 lcTo_planNext rfl rfl rfl rfl rfl (by decide) rfl rfl rfl (by decide) ⟨by dsimp only [rm]; omega, by show 8 + (3 + 11) + 120 ≤ R.locals; omega⟩ (Nat.zero_le _) (by dsimp only [rm]; omega) (by dsimp only [rm]; omega) ?_
        rintro w S1 ⟨rfl, C2, rfl, hC2⟩
        repeat (first | refine Ex.p rfl ?_ | refine Ex.ldc rfl ?_ | refine Ex.ldc2 rfl ?_ | refine Ex.gf 0 0 rfl rfl rfl ?_)
        refine Ex.zas 0 3 b rfl rfl rfl (nI_toInt (by omega)) (by omega) (Or.inr rfl) ?_
        repeat (first | refine Ex.p rfl ?_ | refine Ex.ldc rfl ?_ | refine Ex.ldc2 rfl ?_ | refine Ex.gf 0 0 rfl rfl rfl ?_)
        refine Ex.aal 0 2 b 4 rfl rfl rfl rfl (nI_toInt (by omega)) (by omega) ?_
        rw [ehb]
        refine Ex.p rfl ?_
        refine Ex.p rfl ?_
        refine Ex.p rfl ?_
        rw [i_add1]
        refine Ex.sub (S' := [sPl D a og2 mi2 dn2 wy2 rs2 fm (upd fd' b 1) fw fr (nI n) nf.2, C2, Hs]) [0, 2, 1] rfl rfl ?_
        refine Ex.more (k' := 0 + (rcap cp i - co) / 8) (n' := 0 + 2 * (rcap cp i - co)) (by dsimp only [rm]; omega) (by dsimp only [rm]; omega) ?_
        refine Ex.is [0, 1, 3, 4] rfl rfl ?_
        refine ih (i + 1) (by omega) og2 mi2 dn2 wy2 rs2 hb (mv b) (upd fd' b 1) (ps ++ [(b, nf.2)]) (rcap cp i) (v + nf.2.toInt64) nf.2 C2 (Or.inl ⟨ib, hat⟩) ?_ (by simp [hpl]) ?_ hacc (by omega) hcap _ (fun q h => h)
        · rw [List.map_append]; exact hC2
        · rw [hP, List.append_assoc]; rfl
  obtain ⟨og, mi, dn, wy, rs, rfl⟩ := id hp
  refine Ex.more (k' := 0 + (co - co) / 8) (n' := 0 + 2 * (co - co)) (Nat.zero_le _) (Nat.zero_le _) ?_
  refine Ex.p rfl ?_
  refine Ex.gf 0 0 rfl rfl rfl ?_
  refine Ex.p rfl ?_
  refine Ex.p rfl ?_
  refine Ex.p rfl ?_
  exact loop n 0 (by omega) og mi dn wy rs og ogv fd [] co len lst C (Or.inr ⟨rfl, rfl⟩) ht rfl (by rw [hall]; rfl) (by rw [hall]) (Nat.le_refl _) (by rw [hall]) _ (fun q h => h)
end NE

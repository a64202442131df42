/-! Planner: planLeast -/
def picks (n : Nat) (fw fr : Nat → Int32) : Nat → Nat → Nat → List Nat
  | 0, _, _ => []
  | k + 1, s, la => match (nfold (fun j => !s.testBit j) (bw fw fr s la) n).1 with
    | none => []
    | some b => b :: picks n fw fr k (s ||| 2 ^ b) b
/-- the ways of picks, summed onto v -/
def pacc (fw : Nat → Int32) : Int64 → Nat → List Nat → Int64
  | v, _, [] => v
  | v, la, b :: bs => pacc fw (v + (fw (la * 8 + b)).toInt64) b bs
section LE
variable {l : Launch} {D : xD} {R : Room}
theorem ct_Pl_planLeast {a n t ch co : Nat} {fm : Nat → Option Nat} {fd fw fr : Nat → Int32} {lst dm : Int32} {pl pn : Bool} {len : Int64} {ns : List Nat} {Cp C : va_W} (hp : IsPl D a fm fd fw fr (nI n) lst Cp) (ht : IsTool D t dm pl (ns.map nI) [] len pn ch co C) (hn : n ≤ 8) (hns : ns.length = n) (hn31 : ∀ x ∈ ns, x < 1000)
    (hr : rmOk R 4 ((capN co 0 (picks n fw fr n 0 8).length - co) / 8) (2 * (capN co 0 (picks n fw fr n 0 8).length - co))) :
    Ct l mPl_planLeast D R [.ref a, .ref t] [Cp, C] (fun v S => v = none ∧ ∃ Cp' C' lst', S = [Cp', C'] ∧ IsPl D a fm fd fw fr (nI n) lst' Cp' ∧ IsTool D t dm pl (ns.map nI) ((picks n fw fr n 0 8).map (fun b => nI (ns.getD b 0))) (pacc fw len 8 (picks n fw fr n 0 8)) pn ch (capN co 0 (picks n fw fr n 0 8).length) C') := by
  obtain ⟨r1, r2, r3, r4⟩ := hr
  generalize hall : picks n fw fr n 0 8 = P at r3 r4 ⊢
  refine Ct.of rfl (by decide) tkPl_planLeast (Nat.le_of_ble_eq_true rfl) (fun A => ?_)
  generalize hQ : (fun (v : Option Value) S => v = none ∧ ∃ Cp' C' lst', S = [Cp', C'] ∧ IsPl D a fm fd fw fr (nI n) lst' Cp' ∧ IsTool D t dm pl (ns.map nI) (P.map (fun b => nI (ns.getD b 0))) (pacc fw len 8 P) pn ch (capN co 0 P.length) C') = Q
  have loop : ∀ (k i s la : Nat), i + k = n → s < 256 → la ≤ 8 → ∀ (ps : List Nat) (cp : Nat) (v : Int64) (lst' : Int32) (Cp' C' : va_W), IsPl D a fm fd fw fr (nI n) lst' Cp' → IsTool D t dm pl (ns.map nI) (ps.map (fun b => nI (ns.getD b 0))) v pn ch cp C' → ps.length = i → P = ps ++ picks n fw fr k s la → pacc fw len 8 P = pacc fw v la (picks n fw fr k s la) → co ≤ cp → capN co 0 P.length = capN cp i (picks n fw fr k s la).length → ∀ lv9 : List (Nat × Value), (∀ q ∈ [(4, Value.int (nI i)), (3, .int (nI la)), (2, .int (nI s)), (0, .ref a), (1, .ref t)], q ∈ lv9) →
      Ex l mPl_planLeast D R A (xQ D A Q) R.cells R.slots 8 lv9 [] [Cp', C'] (0 + (cp - co) / 8) (0 + 2 * (cp - co)) := by
    intro k
    induction k with
    | zero =>
      intro i s la hik hs hla ps cp v lst' Cp' C' hp' ht' hpl hP hacc hco hcap lv9 hlv
      obtain ⟨og, mi, dn, wy, rs, rfl⟩ := id hp'
      refine Ex.lv hlv ?_
      repeat (first | refine Ex.p rfl ?_ | refine Ex.ldc rfl ?_ | refine Ex.ldc2 rfl ?_ | refine Ex.gf 0 0 rfl rfl rfl ?_)
      refine Ex.br rfl (fun _ => ?_) (fun c => absurd (by rw [nI_leI (by omega) (by omega)]; omega) c)
      rw [show picks n fw fr 0 s la = [] from rfl] at hP hacc hcap
      rw [List.append_nil] at hP
      have hacc : pacc fw len 8 P = v := hacc
      have hcap : capN co 0 P.length = cp := hcap
      refine Ex.vret rfl rfl (by omega) (by omega) rfl ?_
      subst hQ
      rw [hacc, hcap, hP]
      exact ⟨rfl, _, _, lst', rfl, hp', ht'⟩
    | succ k ih =>
      intro i s la hik hs hla ps cp v lst' Cp' C' hp' ht' hpl hP hacc hco hcap lv9 hlv
      obtain ⟨og, mi, dn, wy, rs, rfl⟩ := id hp'
      have hge := capN_ge (picks n fw fr (k + 1) s la).length cp i
      refine Ex.lv hlv ?_
      repeat (first | refine Ex.p rfl ?_ | refine Ex.ldc rfl ?_ | refine Ex.ldc2 rfl ?_ | refine Ex.gf 0 0 rfl rfl rfl ?_)
      refine Ex.br rfl (fun c => absurd (by rw [nI_leI (by omega) (by omega)] at c; exact c) (by omega)) (fun _ => ?_)
      refine Ex.p rfl ?_
      refine Ex.p rfl ?_
      refine Ex.p rfl ?_
      refine Ex.cv (Mc := mPl_bestNext) (Rc := rm 0 0 0) (As := [.int (nI s), .int (nI la)]) (rest := []) (Sr := [C']) (ic := 0) (jc := 0) (ci := 4) [0] [1] (ct_Pl_bestNext hp' hn hs hla) rfl lk_4_86 lcPl_bestNext rfl rfl rfl rfl rfl (by decide) rfl rfl rfl (by decide) ⟨by dsimp only [rm]; omega, by show 8 + (7 + 11) + 0 ≤ R.locals; omega⟩ (Nat.zero_le _) (by dsimp only [rm]; omega) (by dsimp only [rm]; omega) ?_
      rintro w S1 ⟨rfl, Cp2, rfl, hp2⟩
      generalize hnf : nfold (fun j => !s.testBit j) (bw fw fr s la) n = nf at hp2 ⊢
      have hpk : picks n fw fr (k + 1) s la = match nf.1 with
          | none => []
          | some b => b :: picks n fw fr k (s ||| 2 ^ b) b := by rw [← hnf]; rfl
      cases ho : nf.1 with
      | none =>
        rw [ho] at hpk
        refine Ex.p rfl ?_
        refine Ex.p rfl ?_
        refine Ex.p rfl ?_
        refine Ex.br rfl (fun c => absurd rfl c) (fun _ => ?_)
        rw [hpk] at hP hacc hcap
        rw [List.append_nil] at hP
        have hacc : pacc fw len 8 P = v := hacc
        have hcap : capN co 0 P.length = cp := hcap
        refine Ex.sub (S' := [Cp2, C']) [1, 0] rfl rfl ?_
        refine Ex.vret rfl rfl (by dsimp only [rm]; omega) (by dsimp only [rm]; omega) rfl ?_
        subst hQ
        rw [hacc, hcap, hP]
        exact ⟨rfl, _, _, _, rfl, hp2, ht'⟩
      | some b =>
        rw [ho] at hpk
        have hbn : b < n := nfold_lt (by rw [hnf]; exact ho)
        have hbi : ¬ bi (some b) = -1 := by rw [bi_m1 (fun b' h => by cases h; omega)]; simp
        obtain ⟨og2, mi2, dn2, wy2, rs2, rfl⟩ := id hp2
        obtain ⟨rh, ro, Ch, Co, rfl, hrh, hro⟩ := id ht'
        obtain ⟨arr, f, rfl, x1, x2, x3, x4, x5, x6⟩ := id hrh
        obtain ⟨ho1, ho2⟩ := bit_or s hs b (by omega)
        rw [hpk] at hP hacc hcap hge
        have hcap : capN co 0 P.length = capN (rcap cp i) (i + 1) (picks n fw fr k (s ||| 2 ^ b) b).length := hcap
        have hge2 := capN_ge (picks n fw fr k (s ||| 2 ^ b) b).length (rcap cp i) (i + 1)
        have hge3 := rcap_ge cp i
        refine Ex.p rfl ?_
        refine Ex.p rfl ?_
        refine Ex.p rfl ?_
        refine Ex.br rfl (fun _ => ?_) (fun c => absurd hbi c)
        repeat (first | refine Ex.p rfl ?_ | refine Ex.ldc rfl ?_ | refine Ex.ldc2 rfl ?_ | refine Ex.gf 0 0 rfl rfl rfl ?_)
        refine Ex.seg (S' := [[(t, .inr (9, [.int dm, .int (b32 pl), .ref rh, .ref ro, .long v, .int (b32 pn)]))], sRow D rh arr ch f 60 (ns.map nI).length, Co, sPl D a og2 mi2 dn2 wy2 rs2 fm fd fw fr (nI n) nf.2]) (by simp) ?_
        refine Ex.cv (Mc := mRo_get) (Rc := rm 0 0 0) (As := [.int (bi (some b))]) (rest := [.ref t]) (Sr := [[(t, .inr (9, [.int dm, .int (b32 pl), .ref rh, .ref ro, .long v, .int (b32 pn)]))], Co, sPl D a og2 mi2 dn2 wy2 rs2 fm fd fw fr (nI n) nf.2]) (ic := 1) (jc := 0) (ci := 5) [1] [0, 2, 3] (ct_Ro_get hrh) rfl lk_4_72 lcRo_get rfl rfl rfl rfl rfl (by decide) rfl rfl rfl (by decide) ⟨by dsimp only [rm]; omega, by show 8 + (2 + 11) + 0 ≤ R.locals; omega⟩ (Nat.le_of_ble_eq_true rfl) (by dsimp only [rm]; omega) (by dsimp only [rm]; omega) ?_
        rintro w S1 ⟨rfl, rfl⟩
        rw [show bi (some b) = nI b from rfl, rget_nI (by omega) (by omega)]
        repeat (first | refine Ex.p rfl ?_ | refine Ex.ldc rfl ?_ | refine Ex.ldc2 rfl ?_ | refine Ex.gf 2 0 rfl rfl rfl ?_)
        rw [show (Int8.ofInt 8).toInt32 = nI 8 from rfl, pk_mul, nI_add]
        refine Ex.ial 2 4 (la * 8 + b) rfl rfl rfl (nI_toInt (by omega)) (by omega) ?_
        refine Ex.sub (S' := [[(t, .inr (9, [.int dm, .int (b32 pl), .ref rh, .ref ro, .long v, .int (b32 pn)]))], sRow D rh arr ch f 60 (ns.map nI).length, Co, sPl D a og2 mi2 dn2 wy2 rs2 fm fd fw fr (nI n) nf.2]) [0, 3, 1, 2] rfl rfl ?_
        refine Ex.seg (S' := [(t, .inr (9, [.int dm, .int (b32 pl), .ref rh, .ref ro, .long v, .int (b32 pn)])) :: (sRow D rh arr ch f 60 (ns.map nI).length ++ Co), sPl D a og2 mi2 dn2 wy2 rs2 fm fd fw fr (nI n) nf.2]) (by simp) ?_
        have hol : (ps.map (fun b => nI (ns.getD b 0))).length = i := by simp [hpl]
        have hct := ct_To_planNext (l := l) (R := rm 3 ((rcap cp (ps.map (fun b => nI (ns.getD b 0))).length - cp) / 8) (2 * (rcap cp (ps.map (fun b => nI (ns.getD b 0))).length - cp))) (x := nI (ns.getD b 0)) (w := fw (la * 8 + b)) ht' (by rw [hol]; omega) (rm_ok _ _ _)
        rw [hol] at hct
        refine Ex.cv (Mc := mTo_planNext) (Rc := rm 3 ((rcap cp i - cp) / 8) (2 * (rcap cp i - cp))) (As := [.int (nI (ns.getD b 0)), .int (fw (la * 8 + b))]) (rest := []) (Sr := [sPl D a og2 mi2 dn2 wy2 rs2 fm fd fw fr (nI n) nf.2]) (ic := 0) (jc := 0) (ci := 9) [0] [1] hct rfl lk_4_93 lcTo_planNext rfl rfl rfl rfl rfl (by decide) rfl rfl rfl (by decide) ⟨by dsimp only [rm]; omega, by show 8 + (3 + 11) + 120 ≤ R.locals; omega⟩ (Nat.zero_le _) (by dsimp only [rm]; omega) (by dsimp only [rm]; omega) ?_
        rintro w S1 ⟨rfl, C2, rfl, hC2⟩
        refine Ex.p rfl ?_
        refine Ex.p rfl ?_
        refine Ex.p rfl ?_
        refine Ex.p rfl ?_
        refine Ex.p rfl ?_
        rw [ho1]
        refine Ex.p rfl ?_
        refine Ex.p rfl ?_
        refine Ex.p rfl ?_
        refine Ex.p rfl ?_
        refine Ex.p rfl ?_
        rw [i_add1]
        refine Ex.more (k' := 0 + (rcap cp i - co) / 8) (n' := 0 + 2 * (rcap cp i - co)) (by dsimp only [rm]; omega) (by dsimp only [rm]; omega) ?_
        refine Ex.is [0, 1, 2, 4, 5] rfl rfl ?_
        refine ih (i + 1) (s ||| 2 ^ b) b (by omega) ho2 (by omega) (ps ++ [b]) (rcap cp i) (v + (fw (la * 8 + b)).toInt64) nf.2 _ C2 hp2 ?_ (by simp [hpl]) ?_ hacc (by omega) hcap _ (fun q h => h)
        · rw [List.map_append]; exact hC2
        · rw [hP, List.append_assoc]; rfl
  obtain ⟨og, mi, dn, wy, rs, rfl⟩ := id hp
  refine Ex.more (k' := 0 + (co - co) / 8) (n' := 0 + 2 * (co - co)) (Nat.zero_le _) (Nat.zero_le _) ?_
  refine Ex.p rfl ?_
  refine Ex.p rfl ?_
  refine Ex.p rfl ?_
  refine Ex.p rfl ?_
  refine Ex.p rfl ?_
  refine Ex.p rfl ?_
  exact loop n 0 0 8 (by omega) (by omega) (by omega) [] co len lst _ C hp ht rfl (by rw [hall]; rfl) (by rw [hall]) (Nat.le_refl _) (by rw [hall]) _ (fun q h => h)
end LE

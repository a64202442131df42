/-! the reference: files -/
def xkw (M : xM) (pc : Nat) : Option Int32 := match xfe M.2.2.2.2.2 pc with
  | some (.ldc_w ix) => xf3 gCI M.1 ix
  | _ => none
theorem Ex.ldcw {l : Launch} {M : xM} {D : xD} {R : Room} {A : Nat → Prop} {Q : Array Value → State → Outcome → State → Prop} {mc ms pc k n : Nat} {lv : List (Nat × Value)} {st : List Value} {S : List va_W} {v : Int32} (hg : xkw M pc = some v) (kk : Ex l M D R A Q mc ms (pc + 3) lv (.int v :: st) S k n) : Ex l M D R A Q mc ms pc lv st S k n := by
  intro p e s m args below meth c H locs ls F hS hP hD hl
  obtain ⟨ho, hx, hb, -, -, hown, hts, -, hin, hK, hN, hX, hA, htb⟩ := id F
  unfold xkw at hg
  split at hg
  · rename_i ix hf
    have hd := htb _ (xfe_mem _ _ _ hf)
    have h1 := List.all_eq_true.mp gCI_b _ (xf3_mem _ _ _ _ hg)
    simp only [decide_eq_true_eq, gON_D ho] at h1
    exact lv_ldcw hx hb hown (hts _ h1) hd (kk p e s m args below meth c H locs ls F hS hP hD hl)
  · cases hg
section MO5
variable {l : Launch} {D : xD} {R : Room}
theorem ct_Mo_fileWith {m ro : Nat} {B : Nat → Nat} {th mn la ln ap bg wr fe wa wn fo st rf rt cu : Int32} {me hl : Bool} {fl : List (Nat × List Nat)} {C : va_W} (h : IsMF D B fl C) (hro : ro < 8) : Ct l mMo_fileWith D R [.ref m, .int (nI ro)] [sMo m B th mn la ln ap bg wr me (nI fl.length) fe wa wn fo st hl rf rt cu, C] (fun v S => S = [sMo m B th mn la ln ap bg wr me (nI fl.length) fe wa wn fo st hl rf rt cu, C] ∧ ((v = some (.int (-1)) ∧ ∀ x ∈ fl, x.1 ≠ ro) ∨ ∃ i x, fl[i]? = some x ∧ x.1 = ro ∧ v = some (.int (nI i)) ∧ ∀ j y, j < i → fl[j]? = some y → y.1 ≠ ro)) := by
  obtain ⟨gr, gs, gb, rfl, h8, hs⟩ := h
  refine Ct.of rfl (by decide) tkMo_fileWith (Nat.le_of_ble_eq_true rfl) (fun A => ?_)
  generalize hQ : (fun (v : Option Value) S => S = [sMo m B th mn la ln ap bg wr me (nI fl.length) fe wa wn fo st hl rf rt cu, cMF D B gr gs gb] ∧ ((v = some (.int (-1)) ∧ ∀ x ∈ fl, x.1 ≠ ro) ∨ ∃ i x, fl[i]? = some x ∧ x.1 = ro ∧ v = some (.int (nI i)) ∧ ∀ j y, j < i → fl[j]? = some y → y.1 ≠ ro)) = Q
  have loop : ∀ (k i : Nat), fl.length - i < k → i ≤ fl.length → (∀ j y, j < i → fl[j]? = some y → y.1 ≠ ro) → ∀ lv9 : List (Nat × Value), (∀ q ∈ [(2, Value.int (nI i)), (1, .int (nI ro)), (0, .ref m)], q ∈ lv9) → Ex l mMo_fileWith D R A (xQ D A Q) R.cells R.slots 2 lv9 [] [sMo m B th mn la ln ap bg wr me (nI fl.length) fe wa wn fo st hl rf rt cu, cMF D B gr gs gb] 0 0 := by
    intro k
    induction k with
    | zero => intro i h; omega
    | succ k ih =>
      intro i hk hi hno lv9 hlv
      refine Ex.lv hlv ?_
      refine Ex.p rfl ?_
      refine Ex.p rfl ?_
      refine Ex.gf 0 0 rfl rfl rfl ?_
      refine Ex.br rfl (fun c => ?_) (fun c => ?_)
      · have c : nI fl.length ≤ nI i := c
        rw [nI_leI (by omega) (by omega)] at c
        refine Ex.p rfl ?_
        refine Ex.iret rfl rfl (Nat.zero_le _) (Nat.zero_le _) rfl ?_
        subst hQ
        refine ⟨rfl, Or.inl ⟨rfl, fun x hx => ?_⟩⟩
        obtain ⟨j, hj⟩ := List.mem_iff_getElem?.mp hx
        exact hno j x (by have := (List.getElem?_eq_some_iff.mp hj).1; omega) hj
      · have c : ¬ nI fl.length ≤ nI i := c
        rw [nI_leI (by omega) (by omega)] at c
        have hi2 : fl[i]? = some fl[i] := List.getElem?_eq_getElem (by omega)
        obtain ⟨a1, a2, a3, a4, a5⟩ := hs i _ hi2
        refine Ex.p rfl ?_
        refine Ex.gf 0 0 rfl rfl rfl ?_
        refine Ex.p rfl ?_
        refine Ex.ial 1 0 i rfl rfl rfl (nI_toInt (by omega)) (by omega) ?_
        rw [a1]
        refine Ex.p rfl ?_
        refine Ex.br rfl (fun c1 => ?_) (fun c1 => ?_)
        · have c1 : ¬ nI fl[i].1 = nI ro := c1
          rw [nI_eq (by omega) (by omega)] at c1
          refine Ex.p rfl ?_
          refine Ex.p rfl ?_
          rw [i_add1]
          refine ih (i + 1) (by omega) (by omega) (fun j y hj hy => ?_) _ (fun q h => ?_)
          · rcases Nat.lt_or_ge j i with q | q
            · exact hno j y q hy
            · have ej : j = i := by omega
              subst ej
              rw [hi2] at hy
              cases hy
              exact c1
          · simp only [List.mem_cons, List.not_mem_nil, or_false] at h
            rcases h with rfl | rfl | rfl <;> first | (simp [xs1, lv_args, Value.category, b32, nI]; done) | (simp [xs1, lv_args, Value.category, b32, nI]; decide) | (simp [xs1, lv_args, Value.category, b32, nI]; exact Or.inr (by decide))
        · have c1 : ¬ ¬ nI fl[i].1 = nI ro := c1
          have c1 := Decidable.not_not.mp c1
          rw [nI_eq (by omega) (by omega)] at c1
          refine Ex.p rfl ?_
          refine Ex.iret rfl rfl (Nat.zero_le _) (Nat.zero_le _) rfl ?_
          subst hQ
          exact ⟨rfl, Or.inr ⟨i, _, hi2, c1, rfl, hno⟩⟩
  refine Ex.p rfl ?_
  refine Ex.p rfl ?_
  refine loop (fl.length + 1) 0 (by omega) (by omega) (fun j y hj => by omega) _ (fun q h => ?_)
  simp only [List.mem_cons, List.not_mem_nil, or_false] at h
  rcases h with rfl | rfl | rfl <;> first | (simp [xs1, lv_args, Value.category, b32, nI]; done) | (simp [xs1, lv_args, Value.category, b32, nI]; decide) | (simp [xs1, lv_args, Value.category, b32, nI]; exact Or.inr (by decide))
theorem ct_Mo_file {m : Nat} {z : SD} {ro th : Int32} {S : List va_W} (h : IsMo D m z th S) (hnd : ∀ r : Nat, r < 8 → fhas z.2.2.2.2 r = false → z.2.2.2.2.length < 8) (hr : rmOk R 1 0 0) : Ct l mMo_file D R [.ref m, .int ro] S (QM D m (.int 0) (aFile z ro)) := by
  obtain ⟨r1, r2, r3, r4⟩ := hr
  obtain ⟨B, mn, la, ap, bg, wr, wa, wn, fo, st, rf, rt, cu, me, hl, LT, LH, CT, CH, CX, CF, CE, gR, gQ, gL, gW, rfl, hT, hH, iT, iH, iX, iF, iE⟩ := h
  generalize hP : aFile z ro = P
  unfold aFile at hP
  refine Ct.of rfl (by decide) tkMo_file (Nat.le_of_ble_eq_true rfl) (fun A => ?_)
  refine Ex.p rfl ?_
  refine Ex.p rfl ?_
  refine Ex.p rfl ?_
  refine Ex.cs0 (Mc := mMo_isLayer) (Rc := rm 0 0 0) (As := [.long ro.toInt64]) (rest := [.ref m]) (ct_Mo_isLayer) rfl lk_10_108 lcMo_isLayer rfl ⟨by dsimp only [rm]; omega, by show 8 + (2 + 11) + 0 ≤ R.locals; omega⟩ (Nat.le_of_ble_eq_true rfl) (by first | (dsimp only [rm]; omega) | omega) (by first | (dsimp only [rm]; omega) | omega) ?_
  rintro v S1 ⟨rfl, rfl⟩
  rw [Int32.toInt_toInt64]
  by_cases g1 : 0 ≤ ro.toInt ∧ ro.toInt ≤ 7
  · rw [decide_eq_true g1]
    rw [if_pos g1] at hP
    have ero := nI_nat g1.1
    generalize hro : ro.toInt.toNat = rn at hP ero
    subst ero
    have hrn : rn < 8 := by omega
    refine Ex.br rfl (fun c => absurd c (show (1 : Int32) ≠ 0 by decide)) (fun _ => ?_)
    refine Ex.p rfl ?_
    refine Ex.p rfl ?_
    refine Ex.pf 0 0 rfl rfl rfl rfl rfl rfl ?_
    refine Ex.p rfl ?_
    refine Ex.gf 0 0 rfl rfl rfl ?_
    refine Ex.br rfl (fun _ => ?_) (fun c => absurd rfl c)
    refine Ex.p rfl ?_
    refine Ex.p rfl ?_
    refine Ex.cv (Mc := mMo_fileWith) (Rc := rm 0 0 0) (As := [.int (nI rn)]) (rest := []) (Sr := [CT, CH, cMO D B gR gQ gL, cMW D B gW, CX, CE]) (ic := 0) (jc := 0) (ci := 10) [0, 6] [1, 2, 3, 4, 5, 7] (ct_Mo_fileWith iF hrn) rfl lk_10_248 lcMo_fileWith rfl rfl rfl rfl rfl (by decide) rfl rfl rfl (by decide) ⟨by dsimp only [rm]; omega, by show 8 + (3 + 11) + 0 ≤ R.locals; omega⟩ (Nat.le_of_ble_eq_true rfl) (by first | (dsimp only [rm]; omega) | omega) (by first | (dsimp only [rm]; omega) | omega) ?_
    rintro v S1 ⟨rfl, h9⟩
    refine Ex.sub (S' := [sMo m B 0 mn la (nI z.2.2.1.length) ap bg wr me (nI z.2.2.2.2.length) (nI z.2.2.2.1.length) wa wn fo st hl rf rt cu, CT, CH, cMO D B gR gQ gL, cMW D B gW, CX, CF, CE]) [6, 0, 1, 2, 3, 4, 7, 5] rfl rfl ?_
    rcases h9 with ⟨rfl, hno⟩ | ⟨i, x, hi, hx, rfl, -⟩
    · have hf : fhas z.2.2.2.2 rn = false := by
        unfold fhas
        rw [List.any_eq_false]
        intro x hx
        simpa using hno x hx
      have hl8 := hnd rn hrn hf
      rw [if_pos ⟨hf, hl8⟩] at hP
      obtain ⟨gr, gs, gb, rfl, h8, hs⟩ := iF
      refine Ex.p rfl ?_
      refine Ex.br rfl (fun _ => ?_) (fun c => absurd rfl c)
      refine Ex.p rfl ?_
      refine Ex.gf 0 0 rfl rfl rfl ?_
      refine Ex.p rfl ?_
      refine Ex.gf 0 0 rfl rfl rfl ?_
      refine Ex.p rfl ?_
      refine Ex.ias 6 0 z.2.2.2.2.length rfl rfl rfl (nI_toInt (by omega)) (by omega) ?_
      refine Ex.p rfl ?_
      refine Ex.gf 0 0 rfl rfl rfl ?_
      refine Ex.p rfl ?_
      refine Ex.gf 0 0 rfl rfl rfl ?_
      refine Ex.p rfl ?_
      refine Ex.ias 6 1 z.2.2.2.2.length rfl rfl rfl (nI_toInt (by omega)) (by omega) ?_
      refine Ex.p rfl ?_
      refine Ex.p rfl ?_
      refine Ex.gf 0 0 rfl rfl rfl ?_
      refine Ex.p rfl ?_
      refine Ex.p rfl ?_
      rw [i_add1]
      refine Ex.pf 0 0 rfl rfl rfl rfl rfl rfl ?_
      refine Ex.p rfl ?_
      refine Ex.gf 0 0 rfl rfl rfl ?_
      refine Ex.p rfl ?_
      refine Ex.p rfl ?_
      rw [i_sub1]
      refine Ex.iret rfl rfl (by first | (dsimp only [rm]; omega) | omega) (by first | (dsimp only [rm]; omega) | omega) rfl ?_
      refine QM.ret hP.symm ⟨B, mn, la, ap, bg, wr, wa, wn, fo, st, rf, rt, cu, me, hl, LT, LH, CT, CH, CX, cMF D B (upd gr z.2.2.2.2.length (nI rn)) (upd gs z.2.2.2.2.length 0) gb, CE, gR, gQ, gL, gW, (by rw [List.length_append]; rfl), hT, hH, iT, iH, iX, ⟨_, _, _, rfl, (by simp; omega), fun i x hi => ?_⟩, iE⟩
      rcases app_at hi with hi | ⟨rfl, rfl⟩
      · have := (List.getElem?_eq_some_iff.mp hi).1
        rw [upd_n _ _ (by omega), upd_n _ _ (by omega)]
        exact hs i x hi
      · rw [upd_s, upd_s]
        exact ⟨rfl, rfl, hrn, by simp, fun j h => by simp at h⟩
    · have hf : ¬ (fhas z.2.2.2.2 rn = false ∧ z.2.2.2.2.length < 8) := by
        intro q
        have q := q.1
        unfold fhas at q
        rw [List.any_eq_false] at q
        have := q x (List.mem_of_getElem? hi)
        simp [hx] at this
      rw [if_neg hf] at hP
      have hil := (List.getElem?_eq_some_iff.mp hi).1
      obtain ⟨gr, gs, gb, -, h8, -⟩ := id iF
      refine Ex.p rfl ?_
      refine Ex.br rfl (fun c => ?_) (fun _ => ?_)
      · have c := congrArg Int32.toInt c
        rw [nI_toInt (by omega), show (Int32.ofInt (-1)).toInt = -1 from rfl] at c
        omega
      · refine Ex.p rfl ?_
        refine Ex.iret rfl rfl (by first | (dsimp only [rm]; omega) | omega) (by first | (dsimp only [rm]; omega) | omega) rfl ?_
        exact QM.ret hP.symm ⟨B, mn, la, ap, bg, wr, wa, wn, fo, st, rf, rt, cu, me, hl, LT, LH, CT, CH, CX, CF, CE, gR, gQ, gL, gW, rfl, hT, hH, iT, iH, iX, iF, iE⟩
  · rw [decide_eq_false g1]
    rw [if_neg g1] at hP
    refine Ex.br rfl (fun _ => ?_) (fun c => absurd rfl c)
    refine Ex.p rfl ?_
    refine Ex.pf 0 0 rfl rfl rfl rfl rfl rfl ?_
    refine Ex.p rfl ?_
    refine Ex.gf 0 0 rfl rfl rfl ?_
    refine Ex.br rfl (fun c => absurd c (show (1 : Int32) ≠ 0 by decide)) (fun _ => ?_)
    refine Ex.p rfl ?_
    refine Ex.iret rfl rfl (by first | (dsimp only [rm]; omega) | omega) (by first | (dsimp only [rm]; omega) | omega) rfl ?_
    exact QM.thr hP.symm ⟨B, mn, la, ap, bg, wr, wa, wn, fo, st, rf, rt, cu, me, hl, LT, LH, CT, CH, CX, CF, CE, gR, gQ, gL, gW, rfl, hT, hH, iT, iH, iX, iF, iE⟩
theorem ct_Mo_byteOf {m : Nat} {z : SD} {i b9 th : Int32} {S : List va_W} (h : IsMo D m z th S) (hr : rmOk R 1 0 0) : Ct l mMo_byteOf D R [.ref m, .int i, .int b9] S (QM D m (.int 0) (aByte z i b9)) := by
  obtain ⟨r1, r2, r3, r4⟩ := hr
  obtain ⟨B, mn, la, ap, bg, wr, wa, wn, fo, st, rf, rt, cu, me, hl, LT, LH, CT, CH, CX, CF, CE, gR, gQ, gL, gW, rfl, hT, hH, iT, iH, iX, iF, iE⟩ := h
  obtain ⟨gr, gs, gb, eF, h8, hs⟩ := id iF
  generalize hP : aByte z i b9 = P
  unfold aByte at hP
  refine Ct.of rfl (by decide) tkMo_byteOf (Nat.le_of_ble_eq_true rfl) (fun A => ?_)
  have s25 : ∀ k9 : Nat, k9 ≠ 0 → k9 < 10 → P = (.inl k9, z) → ∀ (k n : Nat), k ≤ R.cells → n ≤ R.slots → Ex l mMo_byteOf D R A (xQ D A (QM D m (.int 0) P)) R.cells R.slots 25 (lv_args 0 [.ref m, .int i, .int b9]) [.int (nI k9), .ref m] [sMo m B th mn la (nI z.2.2.1.length) ap bg wr me (nI z.2.2.2.2.length) (nI z.2.2.2.1.length) wa wn fo st hl rf rt cu, CT, CH, cMO D B gR gQ gL, cMW D B gW, CX, CF, CE] k n := by
    intro k9 hk hk10 e k n hk9 hn9
    refine Ex.pf 0 0 rfl rfl rfl rfl rfl rfl ?_
    refine Ex.p rfl ?_
    refine Ex.gf 0 0 rfl rfl rfl ?_
    refine Ex.br rfl (fun _ => ?_) (fun c => absurd (fun q => hk (by rwa [show (0 : Int32) = nI 0 from rfl, nI_eq (by omega) (by omega)] at q)) c)
    refine Ex.p rfl ?_
    refine Ex.zret rfl rfl (Or.inl rfl) hk9 hn9 rfl ?_
    exact QM.thr e ⟨B, mn, la, ap, bg, wr, wa, wn, fo, st, rf, rt, cu, me, hl, LT, LH, CT, CH, CX, CF, CE, gR, gQ, gL, gW, rfl, hT, hH, iT, iH, iX, iF, iE⟩
  refine Ex.p rfl ?_
  refine Ex.p rfl ?_
  refine Ex.p rfl ?_
  refine Ex.cv (Mc := mMo_isFile) (Rc := rm 0 0 0) (As := [.int i]) (rest := [.ref m]) (Sr := [CT, CH, cMO D B gR gQ gL, cMW D B gW, CX, CF, CE]) (ic := 0) (jc := 0) (ci := 10) [0] [1, 2, 3, 4, 5, 6, 7] (ct_Mo_isFile (n := z.2.2.2.2.length) (by omega)) rfl lk_10_252 lcMo_isFile rfl rfl rfl rfl rfl (by decide) rfl rfl rfl (by decide) ⟨by dsimp only [rm]; omega, by show 8 + (2 + 11) + 0 ≤ R.locals; omega⟩ (Nat.le_of_ble_eq_true rfl) (by first | (dsimp only [rm]; omega) | omega) (by first | (dsimp only [rm]; omega) | omega) ?_
  rintro v S1 ⟨rfl, rfl⟩
  refine Ex.sub (S' := [sMo m B th mn la (nI z.2.2.1.length) ap bg wr me (nI z.2.2.2.2.length) (nI z.2.2.2.1.length) wa wn fo st hl rf rt cu, CT, CH, cMO D B gR gQ gL, cMW D B gW, CX, CF, CE]) [7, 0, 1, 2, 3, 4, 5, 6] rfl rfl ?_
  by_cases g0 : 0 ≤ i.toInt ∧ i.toInt < z.2.2.2.2.length
  · rw [decide_eq_true g0]
    have hlt : i.toInt.toNat < z.2.2.2.2.length := by omega
    have hi2 : z.2.2.2.2[i.toInt.toNat]? = some z.2.2.2.2[i.toInt.toNat] := List.getElem?_eq_getElem hlt
    generalize z.2.2.2.2[i.toInt.toNat] = x at hi2
    have hi : ixo z.2.2.2.2 i = some x := by
      unfold ixo
      rw [if_pos g0.1, hi2]
    rw [hi] at hP
    dsimp only at hP
    obtain ⟨a1, a2, a3, a4, a5⟩ := hs _ _ hi2
    refine Ex.br rfl (fun _ => ?_) (fun c => absurd (show (1 : Int32) ≠ 0 by decide) c)
    refine Ex.p rfl ?_
    refine Ex.cs0 (Mc := mMo_isByte) (Rc := rm 0 0 0) (As := [.int b9]) (rest := [.ref m]) (ct_Mo_isByte) rfl lk_10_255 lcMo_isByte rfl ⟨by dsimp only [rm]; omega, by show 8 + (1 + 11) + 0 ≤ R.locals; omega⟩ (Nat.le_of_ble_eq_true rfl) (by first | (dsimp only [rm]; omega) | omega) (by first | (dsimp only [rm]; omega) | omega) ?_
    rintro v S1 ⟨rfl, rfl⟩
    by_cases g1 : 0 ≤ b9.toInt ∧ b9.toInt < 256
    · rw [decide_eq_true g1]
      rw [if_pos g1] at hP
      refine Ex.br rfl (fun c => absurd c (show (1 : Int32) ≠ 0 by decide)) (fun _ => ?_)
      refine Ex.p rfl ?_
      refine Ex.p rfl ?_
      refine Ex.pf 0 0 rfl rfl rfl rfl rfl rfl ?_
      refine Ex.p rfl ?_
      refine Ex.gf 0 0 rfl rfl rfl ?_
      refine Ex.br rfl (fun c => absurd rfl c) (fun _ => ?_)
      refine Ex.p rfl ?_
      refine Ex.gf 0 0 rfl rfl rfl ?_
      refine Ex.p rfl ?_
      refine Ex.ial 6 1 i.toInt.toNat rfl (by rw [eF]; rfl) rfl (by omega) (by omega) ?_
      rw [a2]
      refine Ex.p rfl ?_
      refine Ex.br rfl (fun c => ?_) (fun c => ?_)
      · have c : ¬ nI x.2.length = nI 300 := c
        rw [nI_eq (by omega) (by omega)] at c
        rw [if_pos (by omega)] at hP
        subst eF
        have e300 : Int32.ofInt 300 * i = nI (300 * i.toInt.toNat) := by
          conv => lhs; rw [← nI_nat g0.1]
          exact pk_mul 300 _
        refine Ex.p rfl ?_
        refine Ex.gf 0 0 rfl rfl rfl ?_
        refine Ex.p rfl ?_
        refine Ex.p rfl ?_
        refine Ex.p rfl ?_
        refine Ex.p rfl ?_
        refine Ex.gf 0 0 rfl rfl rfl ?_
        refine Ex.p rfl ?_
        refine Ex.ial 6 1 i.toInt.toNat rfl rfl rfl (by omega) (by omega) ?_
        rw [a2]
        refine Ex.p rfl ?_
        have e301 : (Int16.ofInt 300).toInt32 * i = nI (300 * i.toInt.toNat) := e300
        rw [e301, nI_add]
        refine Ex.p rfl ?_
        refine Ex.ias 6 2 (300 * i.toInt.toNat + x.2.length) rfl rfl rfl (nI_toInt (by omega)) (by omega) ?_
        refine Ex.p rfl ?_
        refine Ex.gf 0 0 rfl rfl rfl ?_
        refine Ex.p rfl ?_
        refine Ex.p rfl ?_
        refine Ex.ial 6 1 i.toInt.toNat rfl rfl rfl (by omega) (by omega) ?_
        rw [a2]
        refine Ex.p rfl ?_
        refine Ex.p rfl ?_
        rw [i_add1]
        refine Ex.ias 6 1 i.toInt.toNat rfl rfl rfl (by omega) (by omega) ?_
        refine Ex.p rfl ?_
        refine Ex.zret rfl rfl (Or.inr rfl) (by first | (dsimp only [rm]; omega) | omega) (by first | (dsimp only [rm]; omega) | omega) rfl ?_
        refine QM.ret hP.symm ⟨B, mn, la, ap, bg, wr, wa, wn, fo, st, rf, rt, cu, me, hl, LT, LH, CT, CH, CX, cMF D B gr (upd gs i.toInt.toNat (nI (x.2.length + 1))) (upd gb (300 * i.toInt.toNat + x.2.length) b9), CE, gR, gQ, gL, gW, (by rw [List.length_set]; rfl), hT, hH, iT, iH, iX, ⟨_, _, _, rfl, (by rw [List.length_set]; exact h8), fun j u hj => ?_⟩, iE⟩
        by_cases hij : i.toInt.toNat = j
        · subst hij
          rw [List.getElem?_set_self hlt] at hj
          cases hj
          rw [upd_s]
          refine ⟨a1, by simp, a3, by simp; omega, fun q hq => ?_⟩
          rcases Nat.lt_or_ge q x.2.length with g | g
          · rw [upd_n _ _ (by omega)]
            have := a5 q g
            simp only [List.getElem_append_left g]
            exact this
          · have eq9 : q = x.2.length := by simp at hq; omega
            subst eq9
            rw [upd_s]
            simp only [List.getElem_concat_length]
            exact ⟨(nI_nat g1.1).symm, by omega⟩
        · rw [List.getElem?_set_ne hij] at hj
          obtain ⟨b1, b2, b3, b4, b5⟩ := hs j u hj
          rw [upd_n _ _ (Ne.symm hij)]
          refine ⟨b1, b2, b3, b4, fun q hq => ?_⟩
          rw [upd_n _ _ (by omega)]
          exact b5 q hq
      · have c : ¬ ¬ nI x.2.length = nI 300 := c
        have c := Decidable.not_not.mp c
        rw [nI_eq (by omega) (by omega)] at c
        rw [if_neg (by omega)] at hP
        refine Ex.p rfl ?_
        refine Ex.zret rfl rfl (Or.inl rfl) (by first | (dsimp only [rm]; omega) | omega) (by first | (dsimp only [rm]; omega) | omega) rfl ?_
        exact QM.ret hP.symm ⟨B, mn, la, ap, bg, wr, wa, wn, fo, st, rf, rt, cu, me, hl, LT, LH, CT, CH, CX, CF, CE, gR, gQ, gL, gW, rfl, hT, hH, iT, iH, iX, iF, iE⟩
    · rw [decide_eq_false g1]
      rw [if_neg g1] at hP
      refine Ex.br rfl (fun _ => ?_) (fun c => absurd rfl c)
      refine Ex.p rfl ?_
      exact s25 2 (by omega) (by omega) hP.symm _ _ (by first | (dsimp only [rm]; omega) | omega) (by first | (dsimp only [rm]; omega) | omega)
  · rw [decide_eq_false g0]
    have hi : ixo z.2.2.2.2 i = none := ixo_none (by omega)
    rw [hi] at hP
    dsimp only at hP
    refine Ex.br rfl (fun c => absurd rfl c) (fun _ => ?_)
    refine Ex.p rfl ?_
    refine Ex.p rfl ?_
    exact s25 1 (by omega) (by omega) hP.symm _ _ (by first | (dsimp only [rm]; omega) | omega) (by first | (dsimp only [rm]; omega) | omega)
theorem ct_Mo_sumOf {m i : Nat} {B : Nat → Nat} {x : Nat × List Nat} {th mn la ln ap bg wr fi fe wa wn fo st rf rt cu : Int32} {me hl : Bool} {fl : List (Nat × List Nat)} {C : va_W} (h : IsMF D B fl C) (hi : fl[i]? = some x) : Ct l mMo_sumOf D R [.ref m, .int (nI i)] [sMo m B th mn la ln ap bg wr me fi fe wa wn fo st hl rf rt cu, C] (fun v S => v = some (.int (nI (fsum x.2))) ∧ S = [sMo m B th mn la ln ap bg wr me fi fe wa wn fo st hl rf rt cu, C]) := by
  obtain ⟨gr, gs, gb, rfl, h8, hs⟩ := h
  have hil := (List.getElem?_eq_some_iff.mp hi).1
  obtain ⟨a1, a2, a3, a4, a5⟩ := hs i x hi
  refine Ct.of rfl (by decide) tkMo_sumOf (Nat.le_of_ble_eq_true rfl) (fun A => ?_)
  have loop : ∀ (k j : Nat), x.2.length - j < k → j ≤ x.2.length → ∀ lv9 : List (Nat × Value), (∀ q ∈ [(3, Value.int (nI j)), (2, .int (nI (fsum (x.2.take j)))), (1, .int (nI i)), (0, .ref m)], q ∈ lv9) → Ex l mMo_sumOf D R A (xQ D A (fun v S => v = some (.int (nI (fsum x.2))) ∧ S = [sMo m B th mn la ln ap bg wr me fi fe wa wn fo st hl rf rt cu, cMF D B gr gs gb])) R.cells R.slots 4 lv9 [] [sMo m B th mn la ln ap bg wr me fi fe wa wn fo st hl rf rt cu, cMF D B gr gs gb] 0 0 := by
    intro k
    induction k with
    | zero => intro j h; omega
    | succ k ih =>
      intro j hk hj lv9 hlv
      refine Ex.lv hlv ?_
      refine Ex.p rfl ?_
      refine Ex.p rfl ?_
      refine Ex.gf 0 0 rfl rfl rfl ?_
      refine Ex.p rfl ?_
      refine Ex.ial 1 1 i rfl rfl rfl (nI_toInt (by omega)) (by omega) ?_
      rw [a2]
      refine Ex.br rfl (fun c => ?_) (fun c => ?_)
      · have c : nI x.2.length ≤ nI j := c
        rw [nI_leI (by omega) (by omega)] at c
        have ej : j = x.2.length := by omega
        subst ej
        refine Ex.p rfl ?_
        refine Ex.iret rfl rfl (Nat.zero_le _) (Nat.zero_le _) rfl ⟨?_, rfl⟩
        rw [List.take_length]
      · have c : ¬ nI x.2.length ≤ nI j := c
        rw [nI_leI (by omega) (by omega)] at c
        have hjl : j < x.2.length := by omega
        obtain ⟨b1, b2⟩ := a5 j hjl
        have hfs := fsum_lt (x.2.take j)
        have e300 : (Int16.ofInt 300).toInt32 * nI i = nI (300 * i) := pk_mul 300 i
        refine Ex.p rfl ?_
        refine Ex.p rfl ?_
        refine Ex.p rfl ?_
        refine Ex.p rfl ?_
        rw [i_add1]
        refine Ex.p rfl ?_
        refine Ex.gf 0 0 rfl rfl rfl ?_
        refine Ex.p rfl ?_
        refine Ex.p rfl ?_
        refine Ex.p rfl ?_
        rw [e300]
        refine Ex.p rfl ?_
        refine Ex.p rfl ?_
        rw [nI_add]
        refine Ex.ial 1 2 (300 * i + j) rfl rfl rfl (nI_toInt (by omega)) (by omega) ?_
        rw [b1]
        refine Ex.p rfl ?_
        rw [pk_mul]
        refine Ex.p rfl ?_
        rw [nI_add]
        refine Ex.ldcw rfl ?_
        refine Ex.irem rfl (by decide) ?_
        have hm : (j + 1) * x.2[j] ≤ 300 * 255 := Nat.mul_le_mul (by omega) (by omega)
        rw [show (65521 : Int32) = nI 65521 from rfl, pk_rem (by omega) (by omega) (by omega)]
        have e1 : (fsum (x.2.take j) + (j + 1) * x.2[j]) % 65521 = fsum (x.2.take (j + 1)) := by
          rw [List.take_succ_eq_append_getElem hjl, fsum_snoc, List.length_take, Nat.min_eq_left (by omega), Nat.mul_comm x.2[j]]
        rw [e1]
        refine Ex.p rfl ?_
        refine Ex.p rfl ?_
        refine Ex.p rfl ?_
        rw [i_add1]
        refine ih (j + 1) (by omega) (by omega) _ (fun q h => ?_)
        simp only [List.mem_cons, List.not_mem_nil, or_false] at h
        rcases h with rfl | rfl | rfl | rfl <;> first | (simp [xs1, lv_args, Value.category, b32, nI]; done) | (simp [xs1, lv_args, Value.category, b32, nI]; decide) | (simp [xs1, lv_args, Value.category, b32, nI]; exact Or.inr (by decide))
  refine Ex.p rfl ?_
  refine Ex.p rfl ?_
  refine Ex.p rfl ?_
  refine Ex.p rfl ?_
  refine loop (x.2.length + 1) 0 (by omega) (by omega) _ (fun q h => ?_)
  simp only [List.mem_cons, List.not_mem_nil, or_false] at h
  rcases h with rfl | rfl | rfl | rfl <;> first | (simp [xs1, lv_args, Value.category, b32, nI]; done) | (simp [xs1, lv_args, Value.category, b32, nI]; decide) | (simp [xs1, lv_args, Value.category, b32, nI]; exact Or.inr (by decide))
theorem ct_Mo_sum {m : Nat} {z : SD} {i th : Int32} {S : List va_W} (h : IsMo D m z th S) (hr : rmOk R 1 0 0) : Ct l mMo_sum D R [.ref m, .int i] S (QM D m (.long 0) (aSum z i)) := by
  obtain ⟨r1, r2, r3, r4⟩ := hr
  obtain ⟨B, mn, la, ap, bg, wr, wa, wn, fo, st, rf, rt, cu, me, hl, LT, LH, CT, CH, CX, CF, CE, gR, gQ, gL, gW, rfl, hT, hH, iT, iH, iX, iF, iE⟩ := h
  obtain ⟨gr, gs, gb, eF, h8, hs⟩ := id iF
  generalize hP : aSum z i = P
  unfold aSum at hP
  refine Ct.of rfl (by decide) tkMo_sum (Nat.le_of_ble_eq_true rfl) (fun A => ?_)
  refine Ex.p rfl ?_
  refine Ex.p rfl ?_
  refine Ex.p rfl ?_
  refine Ex.cv (Mc := mMo_isFile) (Rc := rm 0 0 0) (As := [.int i]) (rest := [.ref m]) (Sr := [CT, CH, cMO D B gR gQ gL, cMW D B gW, CX, CF, CE]) (ic := 0) (jc := 0) (ci := 10) [0] [1, 2, 3, 4, 5, 6, 7] (ct_Mo_isFile (n := z.2.2.2.2.length) (by omega)) rfl lk_10_252 lcMo_isFile rfl rfl rfl rfl rfl (by decide) rfl rfl rfl (by decide) ⟨by dsimp only [rm]; omega, by show 8 + (2 + 11) + 0 ≤ R.locals; omega⟩ (Nat.le_of_ble_eq_true rfl) (by first | (dsimp only [rm]; omega) | omega) (by first | (dsimp only [rm]; omega) | omega) ?_
  rintro v S1 ⟨rfl, rfl⟩
  refine Ex.sub (S' := [sMo m B th mn la (nI z.2.2.1.length) ap bg wr me (nI z.2.2.2.2.length) (nI z.2.2.2.1.length) wa wn fo st hl rf rt cu, CT, CH, cMO D B gR gQ gL, cMW D B gW, CX, CF, CE]) [7, 0, 1, 2, 3, 4, 5, 6] rfl rfl ?_
  by_cases g0 : 0 ≤ i.toInt ∧ i.toInt < z.2.2.2.2.length
  · rw [decide_eq_true g0]
    have hlt : i.toInt.toNat < z.2.2.2.2.length := by omega
    have hi2 : z.2.2.2.2[i.toInt.toNat]? = some z.2.2.2.2[i.toInt.toNat] := List.getElem?_eq_getElem hlt
    generalize z.2.2.2.2[i.toInt.toNat] = x at hi2
    have hi : ixo z.2.2.2.2 i = some x := by
      unfold ixo
      rw [if_pos g0.1, hi2]
    rw [hi] at hP
    dsimp only at hP
    have ei := nI_nat g0.1
    generalize hin : i.toInt.toNat = jn at hi2 ei hlt
    subst ei
    refine Ex.br rfl (fun c => absurd c (show (1 : Int32) ≠ 0 by decide)) (fun _ => ?_)
    refine Ex.p rfl ?_
    refine Ex.p rfl ?_
    refine Ex.pf 0 0 rfl rfl rfl rfl rfl rfl ?_
    refine Ex.p rfl ?_
    refine Ex.gf 0 0 rfl rfl rfl ?_
    refine Ex.br rfl (fun c => absurd rfl c) (fun _ => ?_)
    refine Ex.p rfl ?_
    refine Ex.p rfl ?_
    refine Ex.cv (Mc := mMo_sumOf) (Rc := rm 0 0 0) (As := [.int (nI jn)]) (rest := []) (Sr := [CT, CH, cMO D B gR gQ gL, cMW D B gW, CX, CE]) (ic := 0) (jc := 0) (ci := 10) [0, 6] [1, 2, 3, 4, 5, 7] (ct_Mo_sumOf iF hi2) rfl lk_10_259 lcMo_sumOf rfl rfl rfl rfl rfl (by decide) rfl rfl rfl (by decide) ⟨by dsimp only [rm]; omega, by show 8 + (4 + 11) + 0 ≤ R.locals; omega⟩ (Nat.le_of_ble_eq_true rfl) (by first | (dsimp only [rm]; omega) | omega) (by first | (dsimp only [rm]; omega) | omega) ?_
    rintro v S1 ⟨rfl, rfl⟩
    refine Ex.sub (S' := [sMo m B 0 mn la (nI z.2.2.1.length) ap bg wr me (nI z.2.2.2.2.length) (nI z.2.2.2.1.length) wa wn fo st hl rf rt cu, CT, CH, cMO D B gR gQ gL, cMW D B gW, CX, CF, CE]) [6, 0, 1, 2, 3, 4, 7, 5] rfl rfl ?_
    refine Ex.p rfl ?_
    refine Ex.p rfl ?_
    refine Ex.lret rfl rfl (by first | (dsimp only [rm]; omega) | omega) (by first | (dsimp only [rm]; omega) | omega) rfl ?_
    exact QM.ret hP.symm ⟨B, mn, la, ap, bg, wr, wa, wn, fo, st, rf, rt, cu, me, hl, LT, LH, CT, CH, CX, CF, CE, gR, gQ, gL, gW, rfl, hT, hH, iT, iH, iX, iF, iE⟩
  · rw [decide_eq_false g0]
    have hi : ixo z.2.2.2.2 i = none := ixo_none (by omega)
    rw [hi] at hP
    dsimp only at hP
    refine Ex.br rfl (fun _ => ?_) (fun c => absurd rfl c)
    refine Ex.p rfl ?_
    refine Ex.pf 0 0 rfl rfl rfl rfl rfl rfl ?_
    refine Ex.p rfl ?_
    refine Ex.gf 0 0 rfl rfl rfl ?_
    refine Ex.br rfl (fun _ => ?_) (fun c => absurd (show (1 : Int32) ≠ 0 by decide) c)
    refine Ex.p rfl ?_
    refine Ex.lret rfl rfl (by first | (dsimp only [rm]; omega) | omega) (by first | (dsimp only [rm]; omega) | omega) rfl ?_
    exact QM.thr hP.symm ⟨B, mn, la, ap, bg, wr, wa, wn, fo, st, rf, rt, cu, me, hl, LT, LH, CT, CH, CX, CF, CE, gR, gQ, gL, gW, rfl, hT, hH, iT, iH, iX, iF, iE⟩
end MO5

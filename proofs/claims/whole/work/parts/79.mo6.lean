/-! the reference: archive -/
theorem bat_snoc {pre : List Nat} {b i : Nat} : bat (pre ++ [b]) i = if pre.length = i then nI b else bat pre i := by
  unfold bat
  rcases Nat.lt_trichotomy i pre.length with h | h | h
  · rw [List.getElem?_append_left h, if_neg (by omega)]
  · subst h
    rw [if_pos rfl, List.getElem?_concat_length]
  · rw [if_neg (by omega), List.getElem?_eq_none (by simp; omega), List.getElem?_eq_none (by omega)]
theorem fallB_len : ∀ (fl : List (Nat × List Nat)), (∀ x ∈ fl, x.2.length ≤ 300) → (fallB fl).length ≤ 305 * fl.length
  | [], _ => Nat.le_refl _
  | x :: r, h => by
    have h1 := fallB_len r (fun y hy => h y (by simp [hy]))
    have h2 := h x (by simp)
    show (fbytes x.1 x.2 ++ fallB r).length ≤ 305 * (r.length + 1)
    rw [List.length_append, fbytes_len]
    omega
theorem fallB_snoc {fl : List (Nat × List Nat)} {x : Nat × List Nat} : fallB (fl ++ [x]) = fallB fl ++ fbytes x.1 x.2 := by
  unfold fallB
  rw [List.flatMap_append]
  simp
section MO6
variable {l : Launch} {D : xD} {R : Room}
theorem ct_Mo_put {m i b : Nat} {B : Nat → Nat} {pre : List Nat} {th mn la ln ap bg wr fi fe st rf rt cu : Int32} {me hl : Bool} (hi : i < 2 ^ 31) (hp : pre.length < 2 ^ 30) : Ct l mMo_put D R [.ref m, .int (nI b)] [sMo m B th mn la ln ap bg wr me fi fe (nI i) (nI pre.length) (bat pre i) st hl rf rt cu] (fun v S => v = none ∧ S = [sMo m B th mn la ln ap bg wr me fi fe (nI i) (nI (pre ++ [b]).length) (bat (pre ++ [b]) i) st hl rf rt cu]) := by
  refine Ct.of rfl (by decide) tkMo_put (Nat.le_of_ble_eq_true rfl) (fun A => ?_)
  have s16 : ∀ fo : Int32, fo = bat (pre ++ [b]) i → Ex l mMo_put D R A (xQ D A (fun v S => v = none ∧ S = [sMo m B th mn la ln ap bg wr me fi fe (nI i) (nI (pre ++ [b]).length) (bat (pre ++ [b]) i) st hl rf rt cu])) R.cells R.slots 16 (lv_args 0 [.ref m, .int (nI b)]) [] [sMo m B th mn la ln ap bg wr me fi fe (nI i) (nI pre.length) fo st hl rf rt cu] 0 0 := by
    intro fo e
    subst e
    refine Ex.p rfl ?_
    refine Ex.p rfl ?_
    refine Ex.gf 0 0 rfl rfl rfl ?_
    refine Ex.p rfl ?_
    refine Ex.p rfl ?_
    rw [i_add1]
    refine Ex.pf 0 0 rfl rfl rfl rfl rfl rfl ?_
    refine Ex.vret rfl rfl (Nat.zero_le _) (Nat.zero_le _) rfl ⟨rfl, ?_⟩
    rw [List.length_append]
    rfl
  refine Ex.p rfl ?_
  refine Ex.gf 0 0 rfl rfl rfl ?_
  refine Ex.p rfl ?_
  refine Ex.gf 0 0 rfl rfl rfl ?_
  refine Ex.br rfl (fun c => ?_) (fun c => ?_)
  · have c : ¬ nI pre.length = nI i := c
    rw [nI_eq (by omega) (by omega)] at c
    exact s16 _ (by rw [bat_snoc, if_neg c])
  · have c : ¬ ¬ nI pre.length = nI i := c
    have c := Decidable.not_not.mp c
    rw [nI_eq (by omega) (by omega)] at c
    refine Ex.p rfl ?_
    refine Ex.p rfl ?_
    refine Ex.pf 0 0 rfl rfl rfl rfl rfl rfl ?_
    exact s16 _ (by rw [bat_snoc, if_pos c])
theorem ct_Mo_archive {m : Nat} {z : SD} {i9 th : Int32} {S : List va_W} (h : IsMo D m z th S) (hr : rmOk R 1 0 0) : Ct l mMo_archive D R [.ref m, .int i9] S (QM D m (.int 0) (aArch z i9)) := by
  obtain ⟨r1, r2, r3, r4⟩ := hr
  obtain ⟨B, mn, la, ap, bg, wr, wa, wn, fo, st, rf, rt, cu, me, hl, LT, LH, CT, CH, CX, CF, CE, gR, gQ, gL, gW, rfl, hT, hH, iT, iH, iX, iF, iE⟩ := h
  obtain ⟨gr, gs, gb, eF, h8, hs⟩ := id iF
  generalize hP : aArch z i9 = P
  unfold aArch at hP
  have h300 : ∀ x ∈ z.2.2.2.2, x.2.length ≤ 300 := by
    intro x hx
    obtain ⟨j, hj⟩ := List.mem_iff_getElem?.mp hx
    exact (hs j x hj).2.2.2.1
  refine Ct.of rfl (by decide) tkMo_archive (Nat.le_of_ble_eq_true rfl) (fun A => ?_)
  refine Ex.p rfl ?_
  refine Ex.p rfl ?_
  refine Ex.br rfl (fun c => ?_) (fun c => ?_)
  · have c : 0 ≤ i9 := c
    rw [Int32.le_iff_toInt_le] at c
    have c : 0 ≤ i9.toInt := c
    rw [if_pos c] at hP
    have ei := nI_nat c
    have hi31 := Int32.toInt_lt i9
    generalize hin : i9.toInt.toNat = i at hP ei
    have hi : i < 2 ^ 31 := by omega
    subst ei
    have loop : ∀ (k f : Nat), z.2.2.2.2.length - f < k → f ≤ z.2.2.2.2.length → ∀ (k9 n9 : Nat), k9 ≤ 0 → n9 ≤ 0 → ∀ lv9 : List (Nat × Value), (∀ q ∈ [(2, Value.int (nI f)), (1, .int (nI i)), (0, .ref m)], q ∈ lv9) → Ex l mMo_archive D R A (xQ D A (QM D m (.int 0) P)) R.cells R.slots 47 lv9 [] [sMo m B 0 mn la (nI z.2.2.1.length) ap bg wr me (nI z.2.2.2.2.length) (nI z.2.2.2.1.length) (nI i) (nI (z.2.2.2.2.length :: fallB (z.2.2.2.2.take f)).length) (bat (z.2.2.2.2.length :: fallB (z.2.2.2.2.take f)) i) st hl rf rt cu, CT, CH, cMO D B gR gQ gL, cMW D B gW, CX, CF, CE] k9 n9 := by
      intro k
      induction k with
      | zero => intro f h; omega
      | succ k ih =>
        intro f hk hf k9 n9 hk9 hn9 lv9 hlv
        refine Ex.lv hlv ?_
        refine Ex.more (k' := 0) (n' := 0) hk9 hn9 ?_
        refine Ex.p rfl ?_
        refine Ex.p rfl ?_
        refine Ex.gf 0 0 rfl rfl rfl ?_
        refine Ex.br rfl (fun c => ?_) (fun c => ?_)
        · have c : nI z.2.2.2.2.length ≤ nI f := c
          rw [nI_leI (by omega) (by omega)] at c
          have ef : f = z.2.2.2.2.length := by omega
          subst ef
          rw [List.take_length]
          refine Ex.p rfl ?_
          refine Ex.gf 0 0 rfl rfl rfl ?_
          refine Ex.iret rfl rfl (Nat.zero_le _) (Nat.zero_le _) rfl ?_
          exact QM.ret hP.symm ⟨B, mn, la, ap, bg, wr, _, _, _, st, rf, rt, cu, me, hl, LT, LH, CT, CH, CX, CF, CE, gR, gQ, gL, gW, rfl, hT, hH, iT, iH, iX, iF, iE⟩
        · have c : ¬ nI z.2.2.2.2.length ≤ nI f := c
          rw [nI_leI (by omega) (by omega)] at c
          have hi2 : z.2.2.2.2[f]? = some z.2.2.2.2[f] := List.getElem?_eq_getElem (by omega)
          have htk : z.2.2.2.2.take (f + 1) = z.2.2.2.2.take f ++ [z.2.2.2.2[f]] := List.take_succ_eq_append_getElem (by omega)
          generalize z.2.2.2.2[f] = x at hi2 htk
          obtain ⟨a1, a2, a3, a4, a5⟩ := hs f x hi2
          have hpl : (z.2.2.2.2.length :: fallB (z.2.2.2.2.take f)).length ≤ 3000 := by
            have := fallB_len (z.2.2.2.2.take f) (fun y hy => h300 y (List.mem_of_mem_take hy))
            rw [List.length_take] at this
            simp only [List.length_cons]
            omega
          have hend : z.2.2.2.2.length :: fallB (z.2.2.2.2.take (f + 1)) = (z.2.2.2.2.length :: fallB (z.2.2.2.2.take f)) ++ (x.1 :: x.2.length % 256 :: x.2.length / 256 :: (x.2 ++ [fsum x.2 % 256, fsum x.2 / 256])) := by
            rw [htk, fallB_snoc]
            rfl
          generalize z.2.2.2.2.length :: fallB (z.2.2.2.2.take f) = pre at hpl hend
          have s127 : ∀ (k9 n9 : Nat), k9 ≤ 0 → n9 ≤ 0 → ∀ lv9 : List (Nat × Value), (∀ q ∈ [(2, Value.int (nI f)), (1, .int (nI i)), (0, .ref m)], q ∈ lv9) → Ex l mMo_archive D R A (xQ D A (QM D m (.int 0) P)) R.cells R.slots 127 lv9 [] [sMo m B 0 mn la (nI z.2.2.1.length) ap bg wr me (nI z.2.2.2.2.length) (nI z.2.2.2.1.length) (nI i) (nI (pre ++ [x.1] ++ [x.2.length % 256] ++ [x.2.length / 256] ++ x.2).length) (bat (pre ++ [x.1] ++ [x.2.length % 256] ++ [x.2.length / 256] ++ x.2) i) st hl rf rt cu, CT, CH, cMO D B gR gQ gL, cMW D B gW, CX, CF, CE] k9 n9 := by
            intro k9 n9 hk9 hn9 lv9 hlv
            refine Ex.lv hlv ?_
            refine Ex.more (k' := 0) (n' := 0) hk9 hn9 ?_
            have hfs := fsum_lt x.2
            refine Ex.p rfl ?_
            refine Ex.p rfl ?_
            refine Ex.p rfl ?_
            refine Ex.cv (Mc := mMo_sumOf) (Rc := rm 0 0 0) (As := [.int (nI f)]) (rest := [.ref m]) (Sr := [CT, CH, cMO D B gR gQ gL, cMW D B gW, CX, CE]) (ic := 0) (jc := 0) (ci := 10) [0, 6] [1, 2, 3, 4, 5, 7] (ct_Mo_sumOf iF hi2) rfl lk_10_259 lcMo_sumOf rfl rfl rfl rfl rfl (by decide) rfl rfl rfl (by decide) ⟨by dsimp only [rm]; omega, by show 8 + (4 + 11) + 0 ≤ R.locals; omega⟩ (Nat.le_of_ble_eq_true rfl) (by first | (dsimp only [rm]; omega) | omega) (by first | (dsimp only [rm]; omega) | omega) ?_
            rintro v S1 ⟨rfl, rfl⟩
            refine Ex.sub (S' := [sMo m B 0 mn la (nI z.2.2.1.length) ap bg wr me (nI z.2.2.2.2.length) (nI z.2.2.2.1.length) (nI i) (nI (pre ++ [x.1] ++ [x.2.length % 256] ++ [x.2.length / 256] ++ x.2).length) (bat (pre ++ [x.1] ++ [x.2.length % 256] ++ [x.2.length / 256] ++ x.2) i) st hl rf rt cu, CT, CH, cMO D B gR gQ gL, cMW D B gW, CX, CF, CE]) [6, 0, 1, 2, 3, 4, 7, 5] rfl rfl ?_
            refine Ex.p rfl ?_
            refine Ex.irem rfl (by decide) ?_
            rw [show (Int16.ofInt 256).toInt32 = nI 256 from rfl, pk_rem (by omega) (by omega) (by omega)]
            refine Ex.cv (Mc := mMo_put) (Rc := rm 0 0 0) (As := [.int (nI (fsum x.2 % 256))]) (rest := []) (Sr := [CT, CH, cMO D B gR gQ gL, cMW D B gW, CX, CF, CE]) (ic := 0) (jc := 0) (ci := 10) [0] [1, 2, 3, 4, 5, 6, 7] (ct_Mo_put hi (by simp only [List.length_append, List.length_singleton]; omega)) rfl lk_10_271 lcMo_put rfl rfl rfl rfl rfl (by decide) rfl rfl rfl (by decide) ⟨by dsimp only [rm]; omega, by show 8 + (2 + 11) + 0 ≤ R.locals; omega⟩ (Nat.le_of_ble_eq_true rfl) (by first | (dsimp only [rm]; omega) | omega) (by first | (dsimp only [rm]; omega) | omega) ?_
            rintro v S1 ⟨rfl, rfl⟩
            refine Ex.sub (S' := [sMo m B 0 mn la (nI z.2.2.1.length) ap bg wr me (nI z.2.2.2.2.length) (nI z.2.2.2.1.length) (nI i) (nI (pre ++ [x.1] ++ [x.2.length % 256] ++ [x.2.length / 256] ++ x.2 ++ [fsum x.2 % 256]).length) (bat (pre ++ [x.1] ++ [x.2.length % 256] ++ [x.2.length / 256] ++ x.2 ++ [fsum x.2 % 256]) i) st hl rf rt cu, CT, CH, cMO D B gR gQ gL, cMW D B gW, CX, CF, CE]) [7, 0, 1, 2, 3, 4, 5, 6] rfl rfl ?_
            refine Ex.p rfl ?_
            refine Ex.p rfl ?_
            refine Ex.p rfl ?_
            refine Ex.cv (Mc := mMo_sumOf) (Rc := rm 0 0 0) (As := [.int (nI f)]) (rest := [.ref m]) (Sr := [CT, CH, cMO D B gR gQ gL, cMW D B gW, CX, CE]) (ic := 0) (jc := 0) (ci := 10) [0, 6] [1, 2, 3, 4, 5, 7] (ct_Mo_sumOf iF hi2) rfl lk_10_259 lcMo_sumOf rfl rfl rfl rfl rfl (by decide) rfl rfl rfl (by decide) ⟨by dsimp only [rm]; omega, by show 8 + (4 + 11) + 0 ≤ R.locals; omega⟩ (Nat.le_of_ble_eq_true rfl) (by first | (dsimp only [rm]; omega) | omega) (by first | (dsimp only [rm]; omega) | omega) ?_
            rintro v S1 ⟨rfl, rfl⟩
            refine Ex.sub (S' := [sMo m B 0 mn la (nI z.2.2.1.length) ap bg wr me (nI z.2.2.2.2.length) (nI z.2.2.2.1.length) (nI i) (nI (pre ++ [x.1] ++ [x.2.length % 256] ++ [x.2.length / 256] ++ x.2 ++ [fsum x.2 % 256]).length) (bat (pre ++ [x.1] ++ [x.2.length % 256] ++ [x.2.length / 256] ++ x.2 ++ [fsum x.2 % 256]) i) st hl rf rt cu, CT, CH, cMO D B gR gQ gL, cMW D B gW, CX, CF, CE]) [6, 0, 1, 2, 3, 4, 7, 5] rfl rfl ?_
            refine Ex.p rfl ?_
            refine Ex.idiv rfl (by decide) ?_
            rw [show (Int16.ofInt 256).toInt32 = nI 256 from rfl, pk_div (by omega) (by omega) (by omega)]
            refine Ex.cv (Mc := mMo_put) (Rc := rm 0 0 0) (As := [.int (nI (fsum x.2 / 256))]) (rest := []) (Sr := [CT, CH, cMO D B gR gQ gL, cMW D B gW, CX, CF, CE]) (ic := 0) (jc := 0) (ci := 10) [0] [1, 2, 3, 4, 5, 6, 7] (ct_Mo_put hi (by simp only [List.length_append, List.length_singleton]; omega)) rfl lk_10_271 lcMo_put rfl rfl rfl rfl rfl (by decide) rfl rfl rfl (by decide) ⟨by dsimp only [rm]; omega, by show 8 + (2 + 11) + 0 ≤ R.locals; omega⟩ (Nat.le_of_ble_eq_true rfl) (by first | (dsimp only [rm]; omega) | omega) (by first | (dsimp only [rm]; omega) | omega) ?_
            rintro v S1 ⟨rfl, rfl⟩
            have e9 : pre ++ [x.1] ++ [x.2.length % 256] ++ [x.2.length / 256] ++ x.2 ++ [fsum x.2 % 256] ++ [fsum x.2 / 256] = z.2.2.2.2.length :: fallB (z.2.2.2.2.take (f + 1)) := by
              rw [hend]
              simp
            refine Ex.sub (S' := [sMo m B 0 mn la (nI z.2.2.1.length) ap bg wr me (nI z.2.2.2.2.length) (nI z.2.2.2.1.length) (nI i) (nI (z.2.2.2.2.length :: fallB (z.2.2.2.2.take (f + 1))).length) (bat (z.2.2.2.2.length :: fallB (z.2.2.2.2.take (f + 1))) i) st hl rf rt cu, CT, CH, cMO D B gR gQ gL, cMW D B gW, CX, CF, CE]) [7, 0, 1, 2, 3, 4, 5, 6] (by rw [e9]; rfl) rfl ?_
            refine Ex.p rfl ?_
            refine Ex.p rfl ?_
            rw [i_add1]
            refine ih (f + 1) (by omega) (by omega) _ _ (by first | (dsimp only [rm]; omega) | omega) (by first | (dsimp only [rm]; omega) | omega) _ (fun q h => ?_)
            simp only [List.mem_cons, List.not_mem_nil, or_false] at h
            rcases h with rfl | rfl | rfl <;> first | (simp [xs1, lv_args, Value.category, b32, nI]; done) | (simp [xs1, lv_args, Value.category, b32, nI]; decide) | (simp [xs1, lv_args, Value.category, b32, nI]; exact Or.inr (by decide))
          have inner : ∀ (k j : Nat), x.2.length - j < k → j ≤ x.2.length → ∀ (k9 n9 : Nat), k9 ≤ 0 → n9 ≤ 0 → ∀ lv9 : List (Nat × Value), (∀ q ∈ [(3, Value.int (nI j)), (2, .int (nI f)), (1, .int (nI i)), (0, .ref m)], q ∈ lv9) → Ex l mMo_archive D R A (xQ D A (QM D m (.int 0) P)) R.cells R.slots 95 lv9 [] [sMo m B 0 mn la (nI z.2.2.1.length) ap bg wr me (nI z.2.2.2.2.length) (nI z.2.2.2.1.length) (nI i) (nI (pre ++ [x.1] ++ [x.2.length % 256] ++ [x.2.length / 256] ++ x.2.take j).length) (bat (pre ++ [x.1] ++ [x.2.length % 256] ++ [x.2.length / 256] ++ x.2.take j) i) st hl rf rt cu, CT, CH, cMO D B gR gQ gL, cMW D B gW, CX, CF, CE] k9 n9 := by
            intro k
            induction k with
            | zero => intro j h; omega
            | succ k ihj =>
              intro j hk hj k9 n9 hk9 hn9 lv9 hlv
              refine Ex.lv hlv ?_
              refine Ex.more (k' := 0) (n' := 0) hk9 hn9 ?_
              refine Ex.p rfl ?_
              refine Ex.p rfl ?_
              refine Ex.gf 0 0 rfl rfl rfl ?_
              refine Ex.p rfl ?_
              refine Ex.ial 6 1 f rfl (by rw [eF]; rfl) rfl (nI_toInt (by omega)) (by omega) ?_
              rw [a2]
              refine Ex.br rfl (fun c => ?_) (fun c => ?_)
              · have c : nI x.2.length ≤ nI j := c
                rw [nI_leI (by omega) (by omega)] at c
                have ej : j = x.2.length := by omega
                subst ej
                rw [List.take_length]
                refine s127 _ _ (by first | (dsimp only [rm]; omega) | omega) (by first | (dsimp only [rm]; omega) | omega) _ (fun q h => ?_)
                simp only [List.mem_cons, List.not_mem_nil, or_false] at h
                rcases h with rfl | rfl | rfl <;> first | (simp [xs1, lv_args, Value.category, b32, nI]; done) | (simp [xs1, lv_args, Value.category, b32, nI]; decide) | (simp [xs1, lv_args, Value.category, b32, nI]; exact Or.inr (by decide))
              · have c : ¬ nI x.2.length ≤ nI j := c
                rw [nI_leI (by omega) (by omega)] at c
                have hjl : j < x.2.length := by omega
                obtain ⟨b1, b2⟩ := a5 j hjl
                have e300 : (Int16.ofInt 300).toInt32 * nI f = nI (300 * f) := pk_mul 300 f
                refine Ex.p rfl ?_
                refine Ex.p rfl ?_
                refine Ex.gf 0 0 rfl rfl rfl ?_
                refine Ex.p rfl ?_
                refine Ex.p rfl ?_
                refine Ex.p rfl ?_
                rw [e300]
                refine Ex.p rfl ?_
                refine Ex.p rfl ?_
                rw [nI_add]
                refine Ex.ial 6 2 (300 * f + j) rfl (by rw [eF]; rfl) rfl (nI_toInt (by omega)) (by omega) ?_
                rw [b1]
                refine Ex.cv (Mc := mMo_put) (Rc := rm 0 0 0) (As := [.int (nI x.2[j])]) (rest := []) (Sr := [CT, CH, cMO D B gR gQ gL, cMW D B gW, CX, CF, CE]) (ic := 0) (jc := 0) (ci := 10) [0] [1, 2, 3, 4, 5, 6, 7] (ct_Mo_put hi (by simp only [List.length_append, List.length_singleton, List.length_take]; omega)) rfl lk_10_271 lcMo_put rfl rfl rfl rfl rfl (by decide) rfl rfl rfl (by decide) ⟨by dsimp only [rm]; omega, by show 8 + (2 + 11) + 0 ≤ R.locals; omega⟩ (Nat.le_of_ble_eq_true rfl) (by first | (dsimp only [rm]; omega) | omega) (by first | (dsimp only [rm]; omega) | omega) ?_
                rintro v S1 ⟨rfl, rfl⟩
                have e9 : pre ++ [x.1] ++ [x.2.length % 256] ++ [x.2.length / 256] ++ x.2.take j ++ [x.2[j]] = pre ++ [x.1] ++ [x.2.length % 256] ++ [x.2.length / 256] ++ x.2.take (j + 1) := by
                  rw [List.take_succ_eq_append_getElem hjl]
                  simp only [List.append_assoc]
                refine Ex.sub (S' := [sMo m B 0 mn la (nI z.2.2.1.length) ap bg wr me (nI z.2.2.2.2.length) (nI z.2.2.2.1.length) (nI i) (nI (pre ++ [x.1] ++ [x.2.length % 256] ++ [x.2.length / 256] ++ x.2.take (j + 1)).length) (bat (pre ++ [x.1] ++ [x.2.length % 256] ++ [x.2.length / 256] ++ x.2.take (j + 1)) i) st hl rf rt cu, CT, CH, cMO D B gR gQ gL, cMW D B gW, CX, CF, CE]) [7, 0, 1, 2, 3, 4, 5, 6] (by rw [e9]; rfl) rfl ?_
                refine Ex.p rfl ?_
                refine Ex.p rfl ?_
                rw [i_add1]
                refine ihj (j + 1) (by omega) (by omega) _ _ (by first | (dsimp only [rm]; omega) | omega) (by first | (dsimp only [rm]; omega) | omega) _ (fun q h => ?_)
                simp only [List.mem_cons, List.not_mem_nil, or_false] at h
                rcases h with rfl | rfl | rfl | rfl <;> first | (simp [xs1, lv_args, Value.category, b32, nI]; done) | (simp [xs1, lv_args, Value.category, b32, nI]; decide) | (simp [xs1, lv_args, Value.category, b32, nI]; exact Or.inr (by decide))
          refine Ex.p rfl ?_
          refine Ex.p rfl ?_
          refine Ex.gf 0 0 rfl rfl rfl ?_
          refine Ex.p rfl ?_
          refine Ex.ial 6 0 f rfl (by rw [eF]; rfl) rfl (nI_toInt (by omega)) (by omega) ?_
          rw [a1]
          refine Ex.cv (Mc := mMo_put) (Rc := rm 0 0 0) (As := [.int (nI x.1)]) (rest := []) (Sr := [CT, CH, cMO D B gR gQ gL, cMW D B gW, CX, CF, CE]) (ic := 0) (jc := 0) (ci := 10) [0] [1, 2, 3, 4, 5, 6, 7] (ct_Mo_put hi (by omega)) rfl lk_10_271 lcMo_put rfl rfl rfl rfl rfl (by decide) rfl rfl rfl (by decide) ⟨by dsimp only [rm]; omega, by show 8 + (2 + 11) + 0 ≤ R.locals; omega⟩ (Nat.le_of_ble_eq_true rfl) (by first | (dsimp only [rm]; omega) | omega) (by first | (dsimp only [rm]; omega) | omega) ?_
          rintro v S1 ⟨rfl, rfl⟩
          refine Ex.sub (S' := [sMo m B 0 mn la (nI z.2.2.1.length) ap bg wr me (nI z.2.2.2.2.length) (nI z.2.2.2.1.length) (nI i) (nI (pre ++ [x.1]).length) (bat (pre ++ [x.1]) i) st hl rf rt cu, CT, CH, cMO D B gR gQ gL, cMW D B gW, CX, CF, CE]) [7, 0, 1, 2, 3, 4, 5, 6] rfl rfl ?_
          refine Ex.p rfl ?_
          refine Ex.p rfl ?_
          refine Ex.gf 0 0 rfl rfl rfl ?_
          refine Ex.p rfl ?_
          refine Ex.ial 6 1 f rfl (by rw [eF]; rfl) rfl (nI_toInt (by omega)) (by omega) ?_
          rw [a2]
          refine Ex.p rfl ?_
          refine Ex.irem rfl (by decide) ?_
          rw [show (Int16.ofInt 256).toInt32 = nI 256 from rfl, pk_rem (by omega) (by omega) (by omega)]
          refine Ex.cv (Mc := mMo_put) (Rc := rm 0 0 0) (As := [.int (nI (x.2.length % 256))]) (rest := []) (Sr := [CT, CH, cMO D B gR gQ gL, cMW D B gW, CX, CF, CE]) (ic := 0) (jc := 0) (ci := 10) [0] [1, 2, 3, 4, 5, 6, 7] (ct_Mo_put hi (by simp only [List.length_append, List.length_singleton]; omega)) rfl lk_10_271 lcMo_put rfl rfl rfl rfl rfl (by decide) rfl rfl rfl (by decide) ⟨by dsimp only [rm]; omega, by show 8 + (2 + 11) + 0 ≤ R.locals; omega⟩ (Nat.le_of_ble_eq_true rfl) (by first | (dsimp only [rm]; omega) | omega) (by first | (dsimp only [rm]; omega) | omega) ?_
          rintro v S1 ⟨rfl, rfl⟩
          refine Ex.sub (S' := [sMo m B 0 mn la (nI z.2.2.1.length) ap bg wr me (nI z.2.2.2.2.length) (nI z.2.2.2.1.length) (nI i) (nI (pre ++ [x.1] ++ [x.2.length % 256]).length) (bat (pre ++ [x.1] ++ [x.2.length % 256]) i) st hl rf rt cu, CT, CH, cMO D B gR gQ gL, cMW D B gW, CX, CF, CE]) [7, 0, 1, 2, 3, 4, 5, 6] rfl rfl ?_
          refine Ex.p rfl ?_
          refine Ex.p rfl ?_
          refine Ex.gf 0 0 rfl rfl rfl ?_
          refine Ex.p rfl ?_
          refine Ex.ial 6 1 f rfl (by rw [eF]; rfl) rfl (nI_toInt (by omega)) (by omega) ?_
          rw [a2]
          refine Ex.p rfl ?_
          refine Ex.idiv rfl (by decide) ?_
          rw [show (Int16.ofInt 256).toInt32 = nI 256 from rfl, pk_div (by omega) (by omega) (by omega)]
          refine Ex.cv (Mc := mMo_put) (Rc := rm 0 0 0) (As := [.int (nI (x.2.length / 256))]) (rest := []) (Sr := [CT, CH, cMO D B gR gQ gL, cMW D B gW, CX, CF, CE]) (ic := 0) (jc := 0) (ci := 10) [0] [1, 2, 3, 4, 5, 6, 7] (ct_Mo_put hi (by simp only [List.length_append, List.length_singleton]; omega)) rfl lk_10_271 lcMo_put rfl rfl rfl rfl rfl (by decide) rfl rfl rfl (by decide) ⟨by dsimp only [rm]; omega, by show 8 + (2 + 11) + 0 ≤ R.locals; omega⟩ (Nat.le_of_ble_eq_true rfl) (by first | (dsimp only [rm]; omega) | omega) (by first | (dsimp only [rm]; omega) | omega) ?_
          rintro v S1 ⟨rfl, rfl⟩
          refine Ex.sub (S' := [sMo m B 0 mn la (nI z.2.2.1.length) ap bg wr me (nI z.2.2.2.2.length) (nI z.2.2.2.1.length) (nI i) (nI (pre ++ [x.1] ++ [x.2.length % 256] ++ [x.2.length / 256]).length) (bat (pre ++ [x.1] ++ [x.2.length % 256] ++ [x.2.length / 256]) i) st hl rf rt cu, CT, CH, cMO D B gR gQ gL, cMW D B gW, CX, CF, CE]) [7, 0, 1, 2, 3, 4, 5, 6] rfl rfl ?_
          refine Ex.p rfl ?_
          refine Ex.p rfl ?_
          have hin0 := inner (x.2.length + 1) 0 (by omega) (by omega)
          rw [List.take_zero, List.append_nil] at hin0
          refine hin0 _ _ (by first | (dsimp only [rm]; omega) | omega) (by first | (dsimp only [rm]; omega) | omega) _ (fun q h => ?_)
          simp only [List.mem_cons, List.not_mem_nil, or_false] at h
          rcases h with rfl | rfl | rfl | rfl <;> first | (simp [xs1, lv_args, Value.category, b32, nI]; done) | (simp [xs1, lv_args, Value.category, b32, nI]; decide) | (simp [xs1, lv_args, Value.category, b32, nI]; exact Or.inr (by decide))
    refine Ex.p rfl ?_
    refine Ex.pf 0 0 rfl rfl rfl rfl rfl rfl ?_
    refine Ex.p rfl ?_
    refine Ex.gf 0 0 rfl rfl rfl ?_
    refine Ex.br rfl (fun _ => ?_) (fun c => absurd rfl c)
    refine Ex.p rfl ?_
    refine Ex.p rfl ?_
    refine Ex.pf 0 0 rfl rfl rfl rfl rfl rfl ?_
    refine Ex.p rfl ?_
    refine Ex.p rfl ?_
    refine Ex.pf 0 0 rfl rfl rfl rfl rfl rfl ?_
    refine Ex.p rfl ?_
    refine Ex.p rfl ?_
    refine Ex.pf 0 0 rfl rfl rfl rfl rfl rfl ?_
    refine Ex.p rfl ?_
    refine Ex.p rfl ?_
    refine Ex.gf 0 0 rfl rfl rfl ?_
    refine Ex.cv (Mc := mMo_put) (Rc := rm 0 0 0) (As := [.int (nI z.2.2.2.2.length)]) (rest := []) (Sr := [CT, CH, cMO D B gR gQ gL, cMW D B gW, CX, CF, CE]) (ic := 0) (jc := 0) (ci := 10) [0] [1, 2, 3, 4, 5, 6, 7] (ct_Mo_put (pre := []) hi (by decide)) rfl lk_10_271 lcMo_put rfl rfl rfl rfl rfl (by decide) rfl rfl rfl (by decide) ⟨by dsimp only [rm]; omega, by show 8 + (2 + 11) + 0 ≤ R.locals; omega⟩ (Nat.le_of_ble_eq_true rfl) (by first | (dsimp only [rm]; omega) | omega) (by first | (dsimp only [rm]; omega) | omega) ?_
    rintro v S1 ⟨rfl, rfl⟩
    refine Ex.sub (S' := [sMo m B 0 mn la (nI z.2.2.1.length) ap bg wr me (nI z.2.2.2.2.length) (nI z.2.2.2.1.length) (nI i) (nI (z.2.2.2.2.length :: fallB (z.2.2.2.2.take 0)).length) (bat (z.2.2.2.2.length :: fallB (z.2.2.2.2.take 0)) i) st hl rf rt cu, CT, CH, cMO D B gR gQ gL, cMW D B gW, CX, CF, CE]) [7, 0, 1, 2, 3, 4, 5, 6] rfl rfl ?_
    refine Ex.p rfl ?_
    refine Ex.p rfl ?_
    refine loop (z.2.2.2.2.length + 1) 0 (by omega) (by omega) _ _ (by first | (dsimp only [rm]; omega) | omega) (by first | (dsimp only [rm]; omega) | omega) _ (fun q h => ?_)
    simp only [List.mem_cons, List.not_mem_nil, or_false] at h
    rcases h with rfl | rfl | rfl <;> first | (simp [xs1, lv_args, Value.category, b32, nI]; done) | (simp [xs1, lv_args, Value.category, b32, nI]; decide) | (simp [xs1, lv_args, Value.category, b32, nI]; exact Or.inr (by decide))
  · have c : ¬ 0 ≤ i9 := c
    rw [Int32.le_iff_toInt_le] at c
    have c : ¬ 0 ≤ i9.toInt := c
    rw [if_neg c] at hP
    refine Ex.p rfl ?_
    refine Ex.p rfl ?_
    refine Ex.pf 0 0 rfl rfl rfl rfl rfl rfl ?_
    refine Ex.p rfl ?_
    refine Ex.gf 0 0 rfl rfl rfl ?_
    refine Ex.br rfl (fun c => absurd c (show (1 : Int32) ≠ 0 by decide)) (fun _ => ?_)
    refine Ex.p rfl ?_
    refine Ex.iret rfl rfl (Nat.zero_le _) (Nat.zero_le _) rfl ?_
    exact QM.thr hP.symm ⟨B, mn, la, ap, bg, wr, wa, wn, fo, st, rf, rt, cu, me, hl, LT, LH, CT, CH, CX, CF, CE, gR, gQ, gL, gW, rfl, hT, hH, iT, iH, iX, iF, iE⟩
end MO6

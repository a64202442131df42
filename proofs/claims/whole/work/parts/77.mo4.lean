/-! the reference: at, its start -/
section MO4
variable {l : Launch} {D : xD} {R : Room}
theorem ct_Mo_at {m : Nat} {z : SD} {k9 w9 th : Int32} {S : List va_W} (h : IsMo D m z th S) : Ct l mMo_at D R [.ref m, .int k9, .int w9] S (QM D m (.long 0) (aAt z k9 w9)) := by
  obtain ⟨B, mn, la, ap, bg, wr, wa, wn, fo, st, rf, rt, cu, me, hl, LT, LH, CT, CH, CX, CF, CE, gR, gQ, gL, gW, rfl, hT, hH, iT, iH, iX, iF, iE⟩ := h
  obtain ⟨gH, gO, gX, gY, gE, gG, gF, gU, gS, eH, hs⟩ := id iH
  obtain ⟨h1, h2, h3⟩ := hs 0 (by omega)
  rw [hH] at h1 h2 h3
  generalize hP : aAt z k9 w9 = P
  unfold aAt at hP
  refine Ct.of rfl (by decide) tkMo_at (Nat.le_of_ble_eq_true rfl) (fun A => ?_)
  have s29 : P = (.inl 1, z) → Ex l mMo_at D R A (xQ D A (QM D m (.long 0) P)) R.cells R.slots 29 (lv_args 0 [.ref m, .int k9, .int w9]) [.ref m] [sMo m B th mn la (nI z.2.2.1.length) ap bg wr me (nI z.2.2.2.2.length) (nI z.2.2.2.1.length) wa wn fo st hl rf rt cu, CT, CH, cMO D B gR gQ gL, cMW D B gW, CX, CF, CE] 0 0 := by
    intro e
    refine Ex.p rfl ?_
    refine Ex.pf 0 0 rfl rfl rfl rfl rfl rfl ?_
    refine Ex.p rfl ?_
    refine Ex.gf 0 0 rfl rfl rfl ?_
    refine Ex.br rfl (fun c => absurd c (show (1 : Int32) ≠ 0 by decide)) (fun _ => ?_)
    refine Ex.p rfl ?_
    refine Ex.lret rfl rfl (Nat.zero_le _) (Nat.zero_le _) rfl ?_
    exact QM.thr e ⟨B, mn, la, ap, bg, wr, wa, wn, fo, st, rf, rt, cu, me, hl, LT, LH, CT, CH, CX, CF, CE, gR, gQ, gL, gW, rfl, hT, hH, iT, iH, iX, iF, iE⟩
  refine Ex.p rfl ?_
  refine Ex.p rfl ?_
  refine Ex.br rfl (fun c => ?_) (fun c => ?_)
  · have c : k9 < 0 := c
    rw [Int32.lt_iff_toInt_lt] at c
    have c : k9.toInt < 0 := c
    rw [ixo_none (Or.inl c)] at hP
    exact s29 hP.symm
  · have c : ¬ k9 < 0 := c
    rw [Int32.lt_iff_toInt_lt] at c
    have c : ¬ k9.toInt < 0 := c
    refine Ex.p rfl ?_
    refine Ex.p rfl ?_
    refine Ex.gf 0 0 rfl rfl rfl ?_
    refine Ex.p rfl ?_
    refine Ex.ial 2 0 0 rfl (by rw [eH]; rfl) rfl rfl (by decide) ?_
    rw [h1]
    refine Ex.br rfl (fun c1 => ?_) (fun c1 => ?_)
    · have c1 : nI z.2.1.length ≤ k9 := c1
      rw [Int32.le_iff_toInt_le, nI_toInt (by omega)] at c1
      rw [ixo_none (Or.inr c1)] at hP
      exact s29 hP.symm
    · have c1 : ¬ nI z.2.1.length ≤ k9 := c1
      rw [Int32.le_iff_toInt_le, nI_toInt (by omega)] at c1
      have hlt : k9.toInt.toNat < z.2.1.length := by omega
      have hi2 : z.2.1[k9.toInt.toNat]? = some z.2.1[k9.toInt.toNat] := List.getElem?_eq_getElem hlt
      generalize z.2.1[k9.toInt.toNat] = hh at hi2
      have hi : ixo z.2.1 k9 = some hh := by
        unfold ixo
        rw [if_pos (by omega), hi2]
      rw [hi] at hP
      have hP : (if 0 ≤ w9.toInt ∧ w9.toInt ≤ 7 then ((Sum.inr (.long (hpart hh w9)), z) : AR) else (.inl 1, z)) = P := hP
      obtain ⟨q1, q2, q3, q4, q5, q6, q7, q8⟩ := h3 _ _ hi2
      rw [show 60 * 0 + k9.toInt.toNat = k9.toInt.toNat by omega] at q1 q2 q3 q4 q5 q6 q7 q8
      have hkn : k9.toInt = ((k9.toInt.toNat : Nat) : Int) := by omega
      refine Ex.p rfl ?_
      refine Ex.br rfl (fun c2 => ?_) (fun c2 => ?_)
      · have c2 : w9 < 0 := c2
        rw [Int32.lt_iff_toInt_lt] at c2
        have c2 : w9.toInt < 0 := c2
        rw [if_neg (by omega)] at hP
        exact s29 hP.symm
      · have c2 : ¬ w9 < 0 := c2
        rw [Int32.lt_iff_toInt_lt] at c2
        have c2 : ¬ w9.toInt < 0 := c2
        refine Ex.p rfl ?_
        refine Ex.p rfl ?_
        refine Ex.br rfl (fun c3 => ?_) (fun c3 => ?_)
        · have c3 : 8 ≤ w9 := c3
          rw [Int32.le_iff_toInt_le] at c3
          have c3 : 8 ≤ w9.toInt := c3
          rw [if_neg (by omega)] at hP
          exact s29 hP.symm
        · have c3 : ¬ 8 ≤ w9 := c3
          rw [Int32.le_iff_toInt_le] at c3
          have c3 : ¬ 8 ≤ w9.toInt := c3
          rw [if_pos (by omega)] at hP
          refine Ex.p rfl ?_
          refine Ex.p rfl ?_
          refine Ex.pf 0 0 rfl rfl rfl rfl rfl rfl ?_
          refine Ex.p rfl ?_
          refine Ex.gf 0 0 rfl rfl rfl ?_
          refine Ex.br rfl (fun _ => ?_) (fun c => absurd rfl c)
          have fin : ∀ (v : Int64), v = hpart hh w9 → QM D m (.long 0) P (some (.long v)) [sMo m B 0 mn la (nI z.2.2.1.length) ap bg wr me (nI z.2.2.2.2.length) (nI z.2.2.2.1.length) wa wn fo st hl rf rt cu, CT, CH, cMO D B gR gQ gL, cMW D B gW, CX, CF, CE] := by
            intro v ev
            subst ev
            exact QM.ret hP.symm ⟨B, mn, la, ap, bg, wr, wa, wn, fo, st, rf, rt, cu, me, hl, LT, LH, CT, CH, CX, CF, CE, gR, gQ, gL, gW, rfl, hT, hH, iT, iH, iX, iF, iE⟩
          refine Ex.p rfl ?_
          have hw : w9.toInt = 0 ∨ w9.toInt = 1 ∨ w9.toInt = 2 ∨ w9.toInt = 3 ∨ w9.toInt = 4 ∨ w9.toInt = 5 ∨ w9.toInt = 6 ∨ w9.toInt = 7 := by omega
          rcases hw with e | e | e | e | e | e | e | e
          · have e : w9 = 0 := Int32.toInt_inj.mp e
            subst e
            refine Ex.swI (t := 84) tsMo_at_43 (by decide) (by decide) rfl rfl ?_
            refine Ex.p rfl ?_
            refine Ex.gf 0 0 rfl rfl rfl ?_
            refine Ex.p rfl ?_
            refine Ex.ial 2 1 k9.toInt.toNat rfl (by rw [eH]; rfl) rfl hkn (by omega) ?_
            rw [q1]
            refine Ex.p rfl ?_
            exact Ex.lret rfl rfl (Nat.zero_le _) (Nat.zero_le _) rfl (fin _ rfl)
          · have e : w9 = 1 := Int32.toInt_inj.mp e
            subst e
            refine Ex.swI (t := 92) tsMo_at_43 (by decide) (by decide) rfl rfl ?_
            refine Ex.p rfl ?_
            refine Ex.gf 0 0 rfl rfl rfl ?_
            refine Ex.p rfl ?_
            refine Ex.lal 2 2 k9.toInt.toNat rfl (by rw [eH]; rfl) rfl hkn (by omega) ?_
            rw [q2]
            exact Ex.lret rfl rfl (Nat.zero_le _) (Nat.zero_le _) rfl (fin _ rfl)
          · have e : w9 = 2 := Int32.toInt_inj.mp e
            subst e
            refine Ex.swI (t := 99) tsMo_at_43 (by decide) (by decide) rfl rfl ?_
            refine Ex.p rfl ?_
            refine Ex.gf 0 0 rfl rfl rfl ?_
            refine Ex.p rfl ?_
            refine Ex.lal 2 3 k9.toInt.toNat rfl (by rw [eH]; rfl) rfl hkn (by omega) ?_
            rw [q3]
            exact Ex.lret rfl rfl (Nat.zero_le _) (Nat.zero_le _) rfl (fin _ rfl)
          · have e : w9 = 3 := Int32.toInt_inj.mp e
            subst e
            refine Ex.swI (t := 106) tsMo_at_43 (by decide) (by decide) rfl rfl ?_
            refine Ex.p rfl ?_
            refine Ex.gf 0 0 rfl rfl rfl ?_
            refine Ex.p rfl ?_
            refine Ex.lal 2 4 k9.toInt.toNat rfl (by rw [eH]; rfl) rfl hkn (by omega) ?_
            rw [q4]
            exact Ex.lret rfl rfl (Nat.zero_le _) (Nat.zero_le _) rfl (fin _ rfl)
          · have e : w9 = 4 := Int32.toInt_inj.mp e
            subst e
            refine Ex.swI (t := 113) tsMo_at_43 (by decide) (by decide) rfl rfl ?_
            refine Ex.p rfl ?_
            refine Ex.gf 0 0 rfl rfl rfl ?_
            refine Ex.p rfl ?_
            refine Ex.lal 2 5 k9.toInt.toNat rfl (by rw [eH]; rfl) rfl hkn (by omega) ?_
            rw [q5]
            exact Ex.lret rfl rfl (Nat.zero_le _) (Nat.zero_le _) rfl (fin _ rfl)
          · have e : w9 = 5 := Int32.toInt_inj.mp e
            subst e
            refine Ex.swI (t := 120) tsMo_at_43 (by decide) (by decide) rfl rfl ?_
            refine Ex.p rfl ?_
            refine Ex.gf 0 0 rfl rfl rfl ?_
            refine Ex.p rfl ?_
            refine Ex.ial 2 6 k9.toInt.toNat rfl (by rw [eH]; rfl) rfl hkn (by omega) ?_
            rw [q6]
            refine Ex.p rfl ?_
            exact Ex.lret rfl rfl (Nat.zero_le _) (Nat.zero_le _) rfl (fin _ rfl)
          · have e : w9 = 6 := Int32.toInt_inj.mp e
            subst e
            refine Ex.swI (t := 128) tsMo_at_43 (by decide) (by decide) rfl rfl ?_
            refine Ex.p rfl ?_
            refine Ex.gf 0 0 rfl rfl rfl ?_
            refine Ex.p rfl ?_
            refine Ex.ial 2 7 k9.toInt.toNat rfl (by rw [eH]; rfl) rfl hkn (by omega) ?_
            rw [q7]
            refine Ex.p rfl ?_
            exact Ex.lret rfl rfl (Nat.zero_le _) (Nat.zero_le _) rfl (fin _ rfl)
          · have e : w9 = 7 := Int32.toInt_inj.mp e
            subst e
            refine Ex.swO (t := 136) tsMo_at_43 (by decide) rfl ?_
            refine Ex.p rfl ?_
            refine Ex.gf 0 0 rfl rfl rfl ?_
            refine Ex.p rfl ?_
            refine Ex.zal 2 8 k9.toInt.toNat rfl (by rw [eH]; rfl) rfl hkn (by omega) ?_
            rw [q8]
            cases hsl : hslot hh with
            | false =>
              refine Ex.br rfl (fun _ => ?_) (fun c => absurd rfl c)
              refine Ex.p rfl ?_
              exact Ex.lret rfl rfl (Nat.zero_le _) (Nat.zero_le _) rfl (fin _ (by simp [hpart, hsl]))
            | true =>
              refine Ex.br rfl (fun c => absurd c (show (1 : Int32) ≠ 0 by decide)) (fun _ => ?_)
              refine Ex.p rfl ?_
              refine Ex.p rfl ?_
              exact Ex.lret rfl rfl (Nat.zero_le _) (Nat.zero_le _) rfl (fin _ (by simp [hpart, hsl]))
theorem ct_Mo_init {m : Nat} (hr : rmOk R 1 21 13188) : Ct l mMo_init D R [.ref m] [[(m, .inr (10, gdf 10))]] (fun v S => v = none ∧ IsMo D m ([], [], [], [], []) 0 S) := by
  obtain ⟨r1, r2, r3, r4⟩ := hr
  refine Ct.of rfl (by decide) tkMo_init (Nat.le_of_ble_eq_true rfl) (fun A => ?_)
  refine Ex.p rfl ?_
  refine Ex.oi rfl lk_10_1 (by omega) (by simp; omega) ?_
  refine Ex.p rfl ?_
  refine Ex.p rfl ?_
  refine Ex.newi (N := 2) rfl rfl (by omega) (by omega) (by omega) (fun b1 => ?_)
  refine Ex.pfF 0 0 rfl rfl rfl rfl rfl rfl rfl rfl ?_
  refine Ex.seg (S' := [[(m, .inr (10, [.int 0, .ref b1, .null, .null, .null, .null, .null, .null, .null, .null, .null, .null, .null, .int 0, .null, .null, .null, .int 0, .null, .int 0, .null, .int 0, .int 0, .int 0, .int 0, .int 0, .null, .null, .null, .int 0, .null, .int 0, .int 0, .int 0, .int 0, .int 0, .int 0, .int 0, .int 0]))], [(b1, .inl (D.2.2.1 0, 2, .inl (fun _ => 0)))]]) rfl ?_
  refine Ex.p rfl ?_
  refine Ex.p rfl ?_
  refine Ex.newl (N := 20) rfl rfl (by omega) (by omega) (by omega) (fun b2 => ?_)
  refine Ex.pfF 0 0 rfl rfl rfl rfl rfl rfl rfl rfl ?_
  refine Ex.seg (S' := [[(m, .inr (10, [.int 0, .ref b1, .ref b2, .null, .null, .null, .null, .null, .null, .null, .null, .null, .null, .int 0, .null, .null, .null, .int 0, .null, .int 0, .null, .int 0, .int 0, .int 0, .int 0, .int 0, .null, .null, .null, .int 0, .null, .int 0, .int 0, .int 0, .int 0, .int 0, .int 0, .int 0, .int 0]))], [(b1, .inl (D.2.2.1 0, 2, .inl (fun _ => 0)))], [(b2, .inl (D.2.2.1 2, 20, .inr (.inl (fun _ => 0))))]]) rfl ?_
  refine Ex.p rfl ?_
  refine Ex.p rfl ?_
  refine Ex.newz (N := 20) rfl rfl (by omega) (by omega) (by omega) (fun b3 => ?_)
  refine Ex.pfF 0 0 rfl rfl rfl rfl rfl rfl rfl rfl ?_
  refine Ex.seg (S' := [[(m, .inr (10, [.int 0, .ref b1, .ref b2, .ref b3, .null, .null, .null, .null, .null, .null, .null, .null, .null, .int 0, .null, .null, .null, .int 0, .null, .int 0, .null, .int 0, .int 0, .int 0, .int 0, .int 0, .null, .null, .null, .int 0, .null, .int 0, .int 0, .int 0, .int 0, .int 0, .int 0, .int 0, .int 0]))], [(b1, .inl (D.2.2.1 0, 2, .inl (fun _ => 0)))], [(b2, .inl (D.2.2.1 2, 20, .inr (.inl (fun _ => 0))))], [(b3, .inl (D.2.2.1 1, 20, .inl (fun _ => 0)))]]) rfl ?_
  refine Ex.p rfl ?_
  refine Ex.p rfl ?_
  refine Ex.newi (N := 2) rfl rfl (by omega) (by omega) (by omega) (fun b4 => ?_)
  refine Ex.pfF 0 0 rfl rfl rfl rfl rfl rfl rfl rfl ?_
  refine Ex.seg (S' := [[(m, .inr (10, [.int 0, .ref b1, .ref b2, .ref b3, .ref b4, .null, .null, .null, .null, .null, .null, .null, .null, .int 0, .null, .null, .null, .int 0, .null, .int 0, .null, .int 0, .int 0, .int 0, .int 0, .int 0, .null, .null, .null, .int 0, .null, .int 0, .int 0, .int 0, .int 0, .int 0, .int 0, .int 0, .int 0]))], [(b1, .inl (D.2.2.1 0, 2, .inl (fun _ => 0)))], [(b2, .inl (D.2.2.1 2, 20, .inr (.inl (fun _ => 0))))], [(b3, .inl (D.2.2.1 1, 20, .inl (fun _ => 0)))], [(b4, .inl (D.2.2.1 0, 2, .inl (fun _ => 0)))]]) rfl ?_
  refine Ex.p rfl ?_
  refine Ex.p rfl ?_
  refine Ex.newi (N := 120) rfl rfl (by omega) (by omega) (by omega) (fun b5 => ?_)
  refine Ex.pfF 0 0 rfl rfl rfl rfl rfl rfl rfl rfl ?_
  refine Ex.seg (S' := [[(m, .inr (10, [.int 0, .ref b1, .ref b2, .ref b3, .ref b4, .ref b5, .null, .null, .null, .null, .null, .null, .null, .int 0, .null, .null, .null, .int 0, .null, .int 0, .null, .int 0, .int 0, .int 0, .int 0, .int 0, .null, .null, .null, .int 0, .null, .int 0, .int 0, .int 0, .int 0, .int 0, .int 0, .int 0, .int 0]))], [(b1, .inl (D.2.2.1 0, 2, .inl (fun _ => 0)))], [(b2, .inl (D.2.2.1 2, 20, .inr (.inl (fun _ => 0))))], [(b3, .inl (D.2.2.1 1, 20, .inl (fun _ => 0)))], [(b4, .inl (D.2.2.1 0, 2, .inl (fun _ => 0)))], [(b5, .inl (D.2.2.1 0, 120, .inl (fun _ => 0)))]]) rfl ?_
  refine Ex.p rfl ?_
  refine Ex.p rfl ?_
  refine Ex.newl (N := 120) rfl rfl (by omega) (by omega) (by omega) (fun b6 => ?_)
  refine Ex.pfF 0 0 rfl rfl rfl rfl rfl rfl rfl rfl ?_
  refine Ex.seg (S' := [[(m, .inr (10, [.int 0, .ref b1, .ref b2, .ref b3, .ref b4, .ref b5, .ref b6, .null, .null, .null, .null, .null, .null, .int 0, .null, .null, .null, .int 0, .null, .int 0, .null, .int 0, .int 0, .int 0, .int 0, .int 0, .null, .null, .null, .int 0, .null, .int 0, .int 0, .int 0, .int 0, .int 0, .int 0, .int 0, .int 0]))], [(b1, .inl (D.2.2.1 0, 2, .inl (fun _ => 0)))], [(b2, .inl (D.2.2.1 2, 20, .inr (.inl (fun _ => 0))))], [(b3, .inl (D.2.2.1 1, 20, .inl (fun _ => 0)))], [(b4, .inl (D.2.2.1 0, 2, .inl (fun _ => 0)))], [(b5, .inl (D.2.2.1 0, 120, .inl (fun _ => 0)))], [(b6, .inl (D.2.2.1 2, 120, .inr (.inl (fun _ => 0))))]]) rfl ?_
  refine Ex.p rfl ?_
  refine Ex.p rfl ?_
  refine Ex.newl (N := 120) rfl rfl (by omega) (by omega) (by omega) (fun b7 => ?_)
  refine Ex.pfF 0 0 rfl rfl rfl rfl rfl rfl rfl rfl ?_
  refine Ex.seg (S' := [[(m, .inr (10, [.int 0, .ref b1, .ref b2, .ref b3, .ref b4, .ref b5, .ref b6, .ref b7, .null, .null, .null, .null, .null, .int 0, .null, .null, .null, .int 0, .null, .int 0, .null, .int 0, .int 0, .int 0, .int 0, .int 0, .null, .null, .null, .int 0, .null, .int 0, .int 0, .int 0, .int 0, .int 0, .int 0, .int 0, .int 0]))], [(b1, .inl (D.2.2.1 0, 2, .inl (fun _ => 0)))], [(b2, .inl (D.2.2.1 2, 20, .inr (.inl (fun _ => 0))))], [(b3, .inl (D.2.2.1 1, 20, .inl (fun _ => 0)))], [(b4, .inl (D.2.2.1 0, 2, .inl (fun _ => 0)))], [(b5, .inl (D.2.2.1 0, 120, .inl (fun _ => 0)))], [(b6, .inl (D.2.2.1 2, 120, .inr (.inl (fun _ => 0))))], [(b7, .inl (D.2.2.1 2, 120, .inr (.inl (fun _ => 0))))]]) rfl ?_
  refine Ex.p rfl ?_
  refine Ex.p rfl ?_
  refine Ex.newl (N := 120) rfl rfl (by omega) (by omega) (by omega) (fun b8 => ?_)
  refine Ex.pfF 0 0 rfl rfl rfl rfl rfl rfl rfl rfl ?_
  refine Ex.seg (S' := [[(m, .inr (10, [.int 0, .ref b1, .ref b2, .ref b3, .ref b4, .ref b5, .ref b6, .ref b7, .ref b8, .null, .null, .null, .null, .int 0, .null, .null, .null, .int 0, .null, .int 0, .null, .int 0, .int 0, .int 0, .int 0, .int 0, .null, .null, .null, .int 0, .null, .int 0, .int 0, .int 0, .int 0, .int 0, .int 0, .int 0, .int 0]))], [(b1, .inl (D.2.2.1 0, 2, .inl (fun _ => 0)))], [(b2, .inl (D.2.2.1 2, 20, .inr (.inl (fun _ => 0))))], [(b3, .inl (D.2.2.1 1, 20, .inl (fun _ => 0)))], [(b4, .inl (D.2.2.1 0, 2, .inl (fun _ => 0)))], [(b5, .inl (D.2.2.1 0, 120, .inl (fun _ => 0)))], [(b6, .inl (D.2.2.1 2, 120, .inr (.inl (fun _ => 0))))], [(b7, .inl (D.2.2.1 2, 120, .inr (.inl (fun _ => 0))))], [(b8, .inl (D.2.2.1 2, 120, .inr (.inl (fun _ => 0))))]]) rfl ?_
  refine Ex.p rfl ?_
  refine Ex.p rfl ?_
  refine Ex.newl (N := 120) rfl rfl (by omega) (by omega) (by omega) (fun b9 => ?_)
  refine Ex.pfF 0 0 rfl rfl rfl rfl rfl rfl rfl rfl ?_
  refine Ex.seg (S' := [[(m, .inr (10, [.int 0, .ref b1, .ref b2, .ref b3, .ref b4, .ref b5, .ref b6, .ref b7, .ref b8, .ref b9, .null, .null, .null, .int 0, .null, .null, .null, .int 0, .null, .int 0, .null, .int 0, .int 0, .int 0, .int 0, .int 0, .null, .null, .null, .int 0, .null, .int 0, .int 0, .int 0, .int 0, .int 0, .int 0, .int 0, .int 0]))], [(b1, .inl (D.2.2.1 0, 2, .inl (fun _ => 0)))], [(b2, .inl (D.2.2.1 2, 20, .inr (.inl (fun _ => 0))))], [(b3, .inl (D.2.2.1 1, 20, .inl (fun _ => 0)))], [(b4, .inl (D.2.2.1 0, 2, .inl (fun _ => 0)))], [(b5, .inl (D.2.2.1 0, 120, .inl (fun _ => 0)))], [(b6, .inl (D.2.2.1 2, 120, .inr (.inl (fun _ => 0))))], [(b7, .inl (D.2.2.1 2, 120, .inr (.inl (fun _ => 0))))], [(b8, .inl (D.2.2.1 2, 120, .inr (.inl (fun _ => 0))))], [(b9, .inl (D.2.2.1 2, 120, .inr (.inl (fun _ => 0))))]]) rfl ?_
  refine Ex.p rfl ?_
  refine Ex.p rfl ?_
  refine Ex.newi (N := 120) rfl rfl (by omega) (by omega) (by omega) (fun b10 => ?_)
  refine Ex.pfF 0 0 rfl rfl rfl rfl rfl rfl rfl rfl ?_
  refine Ex.seg (S' := [[(m, .inr (10, [.int 0, .ref b1, .ref b2, .ref b3, .ref b4, .ref b5, .ref b6, .ref b7, .ref b8, .ref b9, .ref b10, .null, .null, .int 0, .null, .null, .null, .int 0, .null, .int 0, .null, .int 0, .int 0, .int 0, .int 0, .int 0, .null, .null, .null, .int 0, .null, .int 0, .int 0, .int 0, .int 0, .int 0, .int 0, .int 0, .int 0]))], [(b1, .inl (D.2.2.1 0, 2, .inl (fun _ => 0)))], [(b2, .inl (D.2.2.1 2, 20, .inr (.inl (fun _ => 0))))], [(b3, .inl (D.2.2.1 1, 20, .inl (fun _ => 0)))], [(b4, .inl (D.2.2.1 0, 2, .inl (fun _ => 0)))], [(b5, .inl (D.2.2.1 0, 120, .inl (fun _ => 0)))], [(b6, .inl (D.2.2.1 2, 120, .inr (.inl (fun _ => 0))))], [(b7, .inl (D.2.2.1 2, 120, .inr (.inl (fun _ => 0))))], [(b8, .inl (D.2.2.1 2, 120, .inr (.inl (fun _ => 0))))], [(b9, .inl (D.2.2.1 2, 120, .inr (.inl (fun _ => 0))))], [(b10, .inl (D.2.2.1 0, 120, .inl (fun _ => 0)))]]) rfl ?_
  refine Ex.p rfl ?_
  refine Ex.p rfl ?_
  refine Ex.newi (N := 120) rfl rfl (by omega) (by omega) (by omega) (fun b11 => ?_)
  refine Ex.pfF 0 0 rfl rfl rfl rfl rfl rfl rfl rfl ?_
  refine Ex.seg (S' := [[(m, .inr (10, [.int 0, .ref b1, .ref b2, .ref b3, .ref b4, .ref b5, .ref b6, .ref b7, .ref b8, .ref b9, .ref b10, .ref b11, .null, .int 0, .null, .null, .null, .int 0, .null, .int 0, .null, .int 0, .int 0, .int 0, .int 0, .int 0, .null, .null, .null, .int 0, .null, .int 0, .int 0, .int 0, .int 0, .int 0, .int 0, .int 0, .int 0]))], [(b1, .inl (D.2.2.1 0, 2, .inl (fun _ => 0)))], [(b2, .inl (D.2.2.1 2, 20, .inr (.inl (fun _ => 0))))], [(b3, .inl (D.2.2.1 1, 20, .inl (fun _ => 0)))], [(b4, .inl (D.2.2.1 0, 2, .inl (fun _ => 0)))], [(b5, .inl (D.2.2.1 0, 120, .inl (fun _ => 0)))], [(b6, .inl (D.2.2.1 2, 120, .inr (.inl (fun _ => 0))))], [(b7, .inl (D.2.2.1 2, 120, .inr (.inl (fun _ => 0))))], [(b8, .inl (D.2.2.1 2, 120, .inr (.inl (fun _ => 0))))], [(b9, .inl (D.2.2.1 2, 120, .inr (.inl (fun _ => 0))))], [(b10, .inl (D.2.2.1 0, 120, .inl (fun _ => 0)))], [(b11, .inl (D.2.2.1 0, 120, .inl (fun _ => 0)))]]) rfl ?_
  refine Ex.p rfl ?_
  refine Ex.p rfl ?_
  refine Ex.newz (N := 120) rfl rfl (by omega) (by omega) (by omega) (fun b12 => ?_)
  refine Ex.pfF 0 0 rfl rfl rfl rfl rfl rfl rfl rfl ?_
  refine Ex.seg (S' := [[(m, .inr (10, [.int 0, .ref b1, .ref b2, .ref b3, .ref b4, .ref b5, .ref b6, .ref b7, .ref b8, .ref b9, .ref b10, .ref b11, .ref b12, .int 0, .null, .null, .null, .int 0, .null, .int 0, .null, .int 0, .int 0, .int 0, .int 0, .int 0, .null, .null, .null, .int 0, .null, .int 0, .int 0, .int 0, .int 0, .int 0, .int 0, .int 0, .int 0]))], [(b1, .inl (D.2.2.1 0, 2, .inl (fun _ => 0)))], [(b2, .inl (D.2.2.1 2, 20, .inr (.inl (fun _ => 0))))], [(b3, .inl (D.2.2.1 1, 20, .inl (fun _ => 0)))], [(b4, .inl (D.2.2.1 0, 2, .inl (fun _ => 0)))], [(b5, .inl (D.2.2.1 0, 120, .inl (fun _ => 0)))], [(b6, .inl (D.2.2.1 2, 120, .inr (.inl (fun _ => 0))))], [(b7, .inl (D.2.2.1 2, 120, .inr (.inl (fun _ => 0))))], [(b8, .inl (D.2.2.1 2, 120, .inr (.inl (fun _ => 0))))], [(b9, .inl (D.2.2.1 2, 120, .inr (.inl (fun _ => 0))))], [(b10, .inl (D.2.2.1 0, 120, .inl (fun _ => 0)))], [(b11, .inl (D.2.2.1 0, 120, .inl (fun _ => 0)))], [(b12, .inl (D.2.2.1 1, 120, .inl (fun _ => 0)))]]) rfl ?_
  refine Ex.p rfl ?_
  refine Ex.p rfl ?_
  refine Ex.newi (N := 60) rfl rfl (by omega) (by omega) (by omega) (fun b14 => ?_)
  refine Ex.pfF 0 0 rfl rfl rfl rfl rfl rfl rfl rfl ?_
  refine Ex.seg (S' := [[(m, .inr (10, [.int 0, .ref b1, .ref b2, .ref b3, .ref b4, .ref b5, .ref b6, .ref b7, .ref b8, .ref b9, .ref b10, .ref b11, .ref b12, .int 0, .ref b14, .null, .null, .int 0, .null, .int 0, .null, .int 0, .int 0, .int 0, .int 0, .int 0, .null, .null, .null, .int 0, .null, .int 0, .int 0, .int 0, .int 0, .int 0, .int 0, .int 0, .int 0]))], [(b1, .inl (D.2.2.1 0, 2, .inl (fun _ => 0)))], [(b2, .inl (D.2.2.1 2, 20, .inr (.inl (fun _ => 0))))], [(b3, .inl (D.2.2.1 1, 20, .inl (fun _ => 0)))], [(b4, .inl (D.2.2.1 0, 2, .inl (fun _ => 0)))], [(b5, .inl (D.2.2.1 0, 120, .inl (fun _ => 0)))], [(b6, .inl (D.2.2.1 2, 120, .inr (.inl (fun _ => 0))))], [(b7, .inl (D.2.2.1 2, 120, .inr (.inl (fun _ => 0))))], [(b8, .inl (D.2.2.1 2, 120, .inr (.inl (fun _ => 0))))], [(b9, .inl (D.2.2.1 2, 120, .inr (.inl (fun _ => 0))))], [(b10, .inl (D.2.2.1 0, 120, .inl (fun _ => 0)))], [(b11, .inl (D.2.2.1 0, 120, .inl (fun _ => 0)))], [(b12, .inl (D.2.2.1 1, 120, .inl (fun _ => 0)))], [(b14, .inl (D.2.2.1 0, 60, .inl (fun _ => 0)))]]) rfl ?_
  refine Ex.p rfl ?_
  refine Ex.p rfl ?_
  refine Ex.newi (N := 60) rfl rfl (by omega) (by omega) (by omega) (fun b15 => ?_)
  refine Ex.pfF 0 0 rfl rfl rfl rfl rfl rfl rfl rfl ?_
  refine Ex.seg (S' := [[(m, .inr (10, [.int 0, .ref b1, .ref b2, .ref b3, .ref b4, .ref b5, .ref b6, .ref b7, .ref b8, .ref b9, .ref b10, .ref b11, .ref b12, .int 0, .ref b14, .ref b15, .null, .int 0, .null, .int 0, .null, .int 0, .int 0, .int 0, .int 0, .int 0, .null, .null, .null, .int 0, .null, .int 0, .int 0, .int 0, .int 0, .int 0, .int 0, .int 0, .int 0]))], [(b1, .inl (D.2.2.1 0, 2, .inl (fun _ => 0)))], [(b2, .inl (D.2.2.1 2, 20, .inr (.inl (fun _ => 0))))], [(b3, .inl (D.2.2.1 1, 20, .inl (fun _ => 0)))], [(b4, .inl (D.2.2.1 0, 2, .inl (fun _ => 0)))], [(b5, .inl (D.2.2.1 0, 120, .inl (fun _ => 0)))], [(b6, .inl (D.2.2.1 2, 120, .inr (.inl (fun _ => 0))))], [(b7, .inl (D.2.2.1 2, 120, .inr (.inl (fun _ => 0))))], [(b8, .inl (D.2.2.1 2, 120, .inr (.inl (fun _ => 0))))], [(b9, .inl (D.2.2.1 2, 120, .inr (.inl (fun _ => 0))))], [(b10, .inl (D.2.2.1 0, 120, .inl (fun _ => 0)))], [(b11, .inl (D.2.2.1 0, 120, .inl (fun _ => 0)))], [(b12, .inl (D.2.2.1 1, 120, .inl (fun _ => 0)))], [(b14, .inl (D.2.2.1 0, 60, .inl (fun _ => 0)))], [(b15, .inl (D.2.2.1 0, 60, .inl (fun _ => 0)))]]) rfl ?_
  refine Ex.p rfl ?_
  refine Ex.p rfl ?_
  refine Ex.newl (N := 2048) rfl rfl (by omega) (by omega) (by omega) (fun b16 => ?_)
  refine Ex.pfF 0 0 rfl rfl rfl rfl rfl rfl rfl rfl ?_
  refine Ex.seg (S' := [[(m, .inr (10, [.int 0, .ref b1, .ref b2, .ref b3, .ref b4, .ref b5, .ref b6, .ref b7, .ref b8, .ref b9, .ref b10, .ref b11, .ref b12, .int 0, .ref b14, .ref b15, .ref b16, .int 0, .null, .int 0, .null, .int 0, .int 0, .int 0, .int 0, .int 0, .null, .null, .null, .int 0, .null, .int 0, .int 0, .int 0, .int 0, .int 0, .int 0, .int 0, .int 0]))], [(b1, .inl (D.2.2.1 0, 2, .inl (fun _ => 0)))], [(b2, .inl (D.2.2.1 2, 20, .inr (.inl (fun _ => 0))))], [(b3, .inl (D.2.2.1 1, 20, .inl (fun _ => 0)))], [(b4, .inl (D.2.2.1 0, 2, .inl (fun _ => 0)))], [(b5, .inl (D.2.2.1 0, 120, .inl (fun _ => 0)))], [(b6, .inl (D.2.2.1 2, 120, .inr (.inl (fun _ => 0))))], [(b7, .inl (D.2.2.1 2, 120, .inr (.inl (fun _ => 0))))], [(b8, .inl (D.2.2.1 2, 120, .inr (.inl (fun _ => 0))))], [(b9, .inl (D.2.2.1 2, 120, .inr (.inl (fun _ => 0))))], [(b10, .inl (D.2.2.1 0, 120, .inl (fun _ => 0)))], [(b11, .inl (D.2.2.1 0, 120, .inl (fun _ => 0)))], [(b12, .inl (D.2.2.1 1, 120, .inl (fun _ => 0)))], [(b14, .inl (D.2.2.1 0, 60, .inl (fun _ => 0)))], [(b15, .inl (D.2.2.1 0, 60, .inl (fun _ => 0)))], [(b16, .inl (D.2.2.1 2, 2048, .inr (.inl (fun _ => 0))))]]) rfl ?_
  refine Ex.p rfl ?_
  refine Ex.p rfl ?_
  refine Ex.newi (N := 3000) rfl rfl (by omega) (by omega) (by omega) (fun b18 => ?_)
  refine Ex.pfF 0 0 rfl rfl rfl rfl rfl rfl rfl rfl ?_
  refine Ex.seg (S' := [[(m, .inr (10, [.int 0, .ref b1, .ref b2, .ref b3, .ref b4, .ref b5, .ref b6, .ref b7, .ref b8, .ref b9, .ref b10, .ref b11, .ref b12, .int 0, .ref b14, .ref b15, .ref b16, .int 0, .ref b18, .int 0, .null, .int 0, .int 0, .int 0, .int 0, .int 0, .null, .null, .null, .int 0, .null, .int 0, .int 0, .int 0, .int 0, .int 0, .int 0, .int 0, .int 0]))], [(b1, .inl (D.2.2.1 0, 2, .inl (fun _ => 0)))], [(b2, .inl (D.2.2.1 2, 20, .inr (.inl (fun _ => 0))))], [(b3, .inl (D.2.2.1 1, 20, .inl (fun _ => 0)))], [(b4, .inl (D.2.2.1 0, 2, .inl (fun _ => 0)))], [(b5, .inl (D.2.2.1 0, 120, .inl (fun _ => 0)))], [(b6, .inl (D.2.2.1 2, 120, .inr (.inl (fun _ => 0))))], [(b7, .inl (D.2.2.1 2, 120, .inr (.inl (fun _ => 0))))], [(b8, .inl (D.2.2.1 2, 120, .inr (.inl (fun _ => 0))))], [(b9, .inl (D.2.2.1 2, 120, .inr (.inl (fun _ => 0))))], [(b10, .inl (D.2.2.1 0, 120, .inl (fun _ => 0)))], [(b11, .inl (D.2.2.1 0, 120, .inl (fun _ => 0)))], [(b12, .inl (D.2.2.1 1, 120, .inl (fun _ => 0)))], [(b14, .inl (D.2.2.1 0, 60, .inl (fun _ => 0)))], [(b15, .inl (D.2.2.1 0, 60, .inl (fun _ => 0)))], [(b16, .inl (D.2.2.1 2, 2048, .inr (.inl (fun _ => 0))))], [(b18, .inl (D.2.2.1 0, 3000, .inl (fun _ => 0)))]]) rfl ?_
  refine Ex.p rfl ?_
  refine Ex.p rfl ?_
  refine Ex.newi (N := 2000) rfl rfl (by omega) (by omega) (by omega) (fun b20 => ?_)
  refine Ex.pfF 0 0 rfl rfl rfl rfl rfl rfl rfl rfl ?_
  refine Ex.seg (S' := [[(m, .inr (10, [.int 0, .ref b1, .ref b2, .ref b3, .ref b4, .ref b5, .ref b6, .ref b7, .ref b8, .ref b9, .ref b10, .ref b11, .ref b12, .int 0, .ref b14, .ref b15, .ref b16, .int 0, .ref b18, .int 0, .ref b20, .int 0, .int 0, .int 0, .int 0, .int 0, .null, .null, .null, .int 0, .null, .int 0, .int 0, .int 0, .int 0, .int 0, .int 0, .int 0, .int 0]))], [(b1, .inl (D.2.2.1 0, 2, .inl (fun _ => 0)))], [(b2, .inl (D.2.2.1 2, 20, .inr (.inl (fun _ => 0))))], [(b3, .inl (D.2.2.1 1, 20, .inl (fun _ => 0)))], [(b4, .inl (D.2.2.1 0, 2, .inl (fun _ => 0)))], [(b5, .inl (D.2.2.1 0, 120, .inl (fun _ => 0)))], [(b6, .inl (D.2.2.1 2, 120, .inr (.inl (fun _ => 0))))], [(b7, .inl (D.2.2.1 2, 120, .inr (.inl (fun _ => 0))))], [(b8, .inl (D.2.2.1 2, 120, .inr (.inl (fun _ => 0))))], [(b9, .inl (D.2.2.1 2, 120, .inr (.inl (fun _ => 0))))], [(b10, .inl (D.2.2.1 0, 120, .inl (fun _ => 0)))], [(b11, .inl (D.2.2.1 0, 120, .inl (fun _ => 0)))], [(b12, .inl (D.2.2.1 1, 120, .inl (fun _ => 0)))], [(b14, .inl (D.2.2.1 0, 60, .inl (fun _ => 0)))], [(b15, .inl (D.2.2.1 0, 60, .inl (fun _ => 0)))], [(b16, .inl (D.2.2.1 2, 2048, .inr (.inl (fun _ => 0))))], [(b18, .inl (D.2.2.1 0, 3000, .inl (fun _ => 0)))], [(b20, .inl (D.2.2.1 0, 2000, .inl (fun _ => 0)))]]) rfl ?_
  refine Ex.p rfl ?_
  refine Ex.p rfl ?_
  refine Ex.newi (N := 8) rfl rfl (by omega) (by omega) (by omega) (fun b26 => ?_)
  refine Ex.pfF 0 0 rfl rfl rfl rfl rfl rfl rfl rfl ?_
  refine Ex.seg (S' := [[(m, .inr (10, [.int 0, .ref b1, .ref b2, .ref b3, .ref b4, .ref b5, .ref b6, .ref b7, .ref b8, .ref b9, .ref b10, .ref b11, .ref b12, .int 0, .ref b14, .ref b15, .ref b16, .int 0, .ref b18, .int 0, .ref b20, .int 0, .int 0, .int 0, .int 0, .int 0, .ref b26, .null, .null, .int 0, .null, .int 0, .int 0, .int 0, .int 0, .int 0, .int 0, .int 0, .int 0]))], [(b1, .inl (D.2.2.1 0, 2, .inl (fun _ => 0)))], [(b2, .inl (D.2.2.1 2, 20, .inr (.inl (fun _ => 0))))], [(b3, .inl (D.2.2.1 1, 20, .inl (fun _ => 0)))], [(b4, .inl (D.2.2.1 0, 2, .inl (fun _ => 0)))], [(b5, .inl (D.2.2.1 0, 120, .inl (fun _ => 0)))], [(b6, .inl (D.2.2.1 2, 120, .inr (.inl (fun _ => 0))))], [(b7, .inl (D.2.2.1 2, 120, .inr (.inl (fun _ => 0))))], [(b8, .inl (D.2.2.1 2, 120, .inr (.inl (fun _ => 0))))], [(b9, .inl (D.2.2.1 2, 120, .inr (.inl (fun _ => 0))))], [(b10, .inl (D.2.2.1 0, 120, .inl (fun _ => 0)))], [(b11, .inl (D.2.2.1 0, 120, .inl (fun _ => 0)))], [(b12, .inl (D.2.2.1 1, 120, .inl (fun _ => 0)))], [(b14, .inl (D.2.2.1 0, 60, .inl (fun _ => 0)))], [(b15, .inl (D.2.2.1 0, 60, .inl (fun _ => 0)))], [(b16, .inl (D.2.2.1 2, 2048, .inr (.inl (fun _ => 0))))], [(b18, .inl (D.2.2.1 0, 3000, .inl (fun _ => 0)))], [(b20, .inl (D.2.2.1 0, 2000, .inl (fun _ => 0)))], [(b26, .inl (D.2.2.1 0, 8, .inl (fun _ => 0)))]]) rfl ?_
  refine Ex.p rfl ?_
  refine Ex.p rfl ?_
  refine Ex.newi (N := 8) rfl rfl (by omega) (by omega) (by omega) (fun b27 => ?_)
  refine Ex.pfF 0 0 rfl rfl rfl rfl rfl rfl rfl rfl ?_
  refine Ex.seg (S' := [[(m, .inr (10, [.int 0, .ref b1, .ref b2, .ref b3, .ref b4, .ref b5, .ref b6, .ref b7, .ref b8, .ref b9, .ref b10, .ref b11, .ref b12, .int 0, .ref b14, .ref b15, .ref b16, .int 0, .ref b18, .int 0, .ref b20, .int 0, .int 0, .int 0, .int 0, .int 0, .ref b26, .ref b27, .null, .int 0, .null, .int 0, .int 0, .int 0, .int 0, .int 0, .int 0, .int 0, .int 0]))], [(b1, .inl (D.2.2.1 0, 2, .inl (fun _ => 0)))], [(b2, .inl (D.2.2.1 2, 20, .inr (.inl (fun _ => 0))))], [(b3, .inl (D.2.2.1 1, 20, .inl (fun _ => 0)))], [(b4, .inl (D.2.2.1 0, 2, .inl (fun _ => 0)))], [(b5, .inl (D.2.2.1 0, 120, .inl (fun _ => 0)))], [(b6, .inl (D.2.2.1 2, 120, .inr (.inl (fun _ => 0))))], [(b7, .inl (D.2.2.1 2, 120, .inr (.inl (fun _ => 0))))], [(b8, .inl (D.2.2.1 2, 120, .inr (.inl (fun _ => 0))))], [(b9, .inl (D.2.2.1 2, 120, .inr (.inl (fun _ => 0))))], [(b10, .inl (D.2.2.1 0, 120, .inl (fun _ => 0)))], [(b11, .inl (D.2.2.1 0, 120, .inl (fun _ => 0)))], [(b12, .inl (D.2.2.1 1, 120, .inl (fun _ => 0)))], [(b14, .inl (D.2.2.1 0, 60, .inl (fun _ => 0)))], [(b15, .inl (D.2.2.1 0, 60, .inl (fun _ => 0)))], [(b16, .inl (D.2.2.1 2, 2048, .inr (.inl (fun _ => 0))))], [(b18, .inl (D.2.2.1 0, 3000, .inl (fun _ => 0)))], [(b20, .inl (D.2.2.1 0, 2000, .inl (fun _ => 0)))], [(b26, .inl (D.2.2.1 0, 8, .inl (fun _ => 0)))], [(b27, .inl (D.2.2.1 0, 8, .inl (fun _ => 0)))]]) rfl ?_
  refine Ex.p rfl ?_
  refine Ex.p rfl ?_
  refine Ex.newi (N := 2400) rfl rfl (by omega) (by omega) (by omega) (fun b28 => ?_)
  refine Ex.pfF 0 0 rfl rfl rfl rfl rfl rfl rfl rfl ?_
  refine Ex.seg (S' := [[(m, .inr (10, [.int 0, .ref b1, .ref b2, .ref b3, .ref b4, .ref b5, .ref b6, .ref b7, .ref b8, .ref b9, .ref b10, .ref b11, .ref b12, .int 0, .ref b14, .ref b15, .ref b16, .int 0, .ref b18, .int 0, .ref b20, .int 0, .int 0, .int 0, .int 0, .int 0, .ref b26, .ref b27, .ref b28, .int 0, .null, .int 0, .int 0, .int 0, .int 0, .int 0, .int 0, .int 0, .int 0]))], [(b1, .inl (D.2.2.1 0, 2, .inl (fun _ => 0)))], [(b2, .inl (D.2.2.1 2, 20, .inr (.inl (fun _ => 0))))], [(b3, .inl (D.2.2.1 1, 20, .inl (fun _ => 0)))], [(b4, .inl (D.2.2.1 0, 2, .inl (fun _ => 0)))], [(b5, .inl (D.2.2.1 0, 120, .inl (fun _ => 0)))], [(b6, .inl (D.2.2.1 2, 120, .inr (.inl (fun _ => 0))))], [(b7, .inl (D.2.2.1 2, 120, .inr (.inl (fun _ => 0))))], [(b8, .inl (D.2.2.1 2, 120, .inr (.inl (fun _ => 0))))], [(b9, .inl (D.2.2.1 2, 120, .inr (.inl (fun _ => 0))))], [(b10, .inl (D.2.2.1 0, 120, .inl (fun _ => 0)))], [(b11, .inl (D.2.2.1 0, 120, .inl (fun _ => 0)))], [(b12, .inl (D.2.2.1 1, 120, .inl (fun _ => 0)))], [(b14, .inl (D.2.2.1 0, 60, .inl (fun _ => 0)))], [(b15, .inl (D.2.2.1 0, 60, .inl (fun _ => 0)))], [(b16, .inl (D.2.2.1 2, 2048, .inr (.inl (fun _ => 0))))], [(b18, .inl (D.2.2.1 0, 3000, .inl (fun _ => 0)))], [(b20, .inl (D.2.2.1 0, 2000, .inl (fun _ => 0)))], [(b26, .inl (D.2.2.1 0, 8, .inl (fun _ => 0)))], [(b27, .inl (D.2.2.1 0, 8, .inl (fun _ => 0)))], [(b28, .inl (D.2.2.1 0, 2400, .inl (fun _ => 0)))]]) rfl ?_
  refine Ex.p rfl ?_
  refine Ex.p rfl ?_
  refine Ex.newi (N := 2600) rfl rfl (by omega) (by omega) (by omega) (fun b30 => ?_)
  refine Ex.pfF 0 0 rfl rfl rfl rfl rfl rfl rfl rfl ?_
  refine Ex.seg (S' := [[(m, .inr (10, [.int 0, .ref b1, .ref b2, .ref b3, .ref b4, .ref b5, .ref b6, .ref b7, .ref b8, .ref b9, .ref b10, .ref b11, .ref b12, .int 0, .ref b14, .ref b15, .ref b16, .int 0, .ref b18, .int 0, .ref b20, .int 0, .int 0, .int 0, .int 0, .int 0, .ref b26, .ref b27, .ref b28, .int 0, .ref b30, .int 0, .int 0, .int 0, .int 0, .int 0, .int 0, .int 0, .int 0]))], [(b1, .inl (D.2.2.1 0, 2, .inl (fun _ => 0)))], [(b2, .inl (D.2.2.1 2, 20, .inr (.inl (fun _ => 0))))], [(b3, .inl (D.2.2.1 1, 20, .inl (fun _ => 0)))], [(b4, .inl (D.2.2.1 0, 2, .inl (fun _ => 0)))], [(b5, .inl (D.2.2.1 0, 120, .inl (fun _ => 0)))], [(b6, .inl (D.2.2.1 2, 120, .inr (.inl (fun _ => 0))))], [(b7, .inl (D.2.2.1 2, 120, .inr (.inl (fun _ => 0))))], [(b8, .inl (D.2.2.1 2, 120, .inr (.inl (fun _ => 0))))], [(b9, .inl (D.2.2.1 2, 120, .inr (.inl (fun _ => 0))))], [(b10, .inl (D.2.2.1 0, 120, .inl (fun _ => 0)))], [(b11, .inl (D.2.2.1 0, 120, .inl (fun _ => 0)))], [(b12, .inl (D.2.2.1 1, 120, .inl (fun _ => 0)))], [(b14, .inl (D.2.2.1 0, 60, .inl (fun _ => 0)))], [(b15, .inl (D.2.2.1 0, 60, .inl (fun _ => 0)))], [(b16, .inl (D.2.2.1 2, 2048, .inr (.inl (fun _ => 0))))], [(b18, .inl (D.2.2.1 0, 3000, .inl (fun _ => 0)))], [(b20, .inl (D.2.2.1 0, 2000, .inl (fun _ => 0)))], [(b26, .inl (D.2.2.1 0, 8, .inl (fun _ => 0)))], [(b27, .inl (D.2.2.1 0, 8, .inl (fun _ => 0)))], [(b28, .inl (D.2.2.1 0, 2400, .inl (fun _ => 0)))], [(b30, .inl (D.2.2.1 0, 2600, .inl (fun _ => 0)))]]) rfl ?_
  refine Ex.seg (S' := [sMo m (fun k => ([0, b1, b2, b3, b4, b5, b6, b7, b8, b9, b10, b11, b12, 0, b14, b15, b16, 0, b18, 0, b20, 0, 0, 0, 0, 0, b26, b27, b28, 0, b30] : List Nat).getD k 0) 0 0 0 0 0 0 0 false 0 0 0 0 0 0 false 0 0 0, cMT D (fun k => ([0, b1, b2, b3, b4, b5, b6, b7, b8, b9, b10, b11, b12, 0, b14, b15, b16, 0, b18, 0, b20, 0, 0, 0, 0, 0, b26, b27, b28, 0, b30] : List Nat).getD k 0) (fun _ => 0) (fun _ => 0) (fun _ => 0), cMH D (fun k => ([0, b1, b2, b3, b4, b5, b6, b7, b8, b9, b10, b11, b12, 0, b14, b15, b16, 0, b18, 0, b20, 0, 0, 0, 0, 0, b26, b27, b28, 0, b30] : List Nat).getD k 0) (fun _ => 0) (fun _ => 0) (fun _ => 0) (fun _ => 0) (fun _ => 0) (fun _ => 0) (fun _ => 0) (fun _ => 0) (fun _ => 0), cMO D (fun k => ([0, b1, b2, b3, b4, b5, b6, b7, b8, b9, b10, b11, b12, 0, b14, b15, b16, 0, b18, 0, b20, 0, 0, 0, 0, 0, b26, b27, b28, 0, b30] : List Nat).getD k 0) (fun _ => 0) (fun _ => 0) (fun _ => 0), cMW D (fun k => ([0, b1, b2, b3, b4, b5, b6, b7, b8, b9, b10, b11, b12, 0, b14, b15, b16, 0, b18, 0, b20, 0, 0, 0, 0, 0, b26, b27, b28, 0, b30] : List Nat).getD k 0) (fun _ => 0), cMX D (fun k => ([0, b1, b2, b3, b4, b5, b6, b7, b8, b9, b10, b11, b12, 0, b14, b15, b16, 0, b18, 0, b20, 0, 0, 0, 0, 0, b26, b27, b28, 0, b30] : List Nat).getD k 0) (fun _ => 0), cMF D (fun k => ([0, b1, b2, b3, b4, b5, b6, b7, b8, b9, b10, b11, b12, 0, b14, b15, b16, 0, b18, 0, b20, 0, 0, 0, 0, 0, b26, b27, b28, 0, b30] : List Nat).getD k 0) (fun _ => 0) (fun _ => 0) (fun _ => 0), cME D (fun k => ([0, b1, b2, b3, b4, b5, b6, b7, b8, b9, b10, b11, b12, 0, b14, b15, b16, 0, b18, 0, b20, 0, 0, 0, 0, 0, b26, b27, b28, 0, b30] : List Nat).getD k 0) (fun _ => 0)]) rfl ?_
  refine Ex.vret rfl rfl (by omega) (by omega) rfl ⟨rfl, _, 0, 0, 0, 0, 0, 0, 0, 0, 0, 0, 0, 0, false, false, (fun _ => []), (fun _ => []), _, _, _, _, _, _, _, _, _, rfl, rfl, rfl, ⟨_, _, _, rfl, fun s _ => ⟨rfl, (by simp), fun i t h => by simp at h⟩⟩, ⟨_, _, _, _, _, _, _, _, _, rfl, fun s _ => ⟨rfl, (by simp), fun i t h => by simp at h⟩⟩, ⟨_, rfl, (by simp), (fun j h => by simp at h)⟩, ⟨_, _, _, rfl, (by simp), (fun i x h => by simp at h)⟩, ⟨_, rfl, (by simp), (fun j h => by simp at h)⟩⟩
end MO4

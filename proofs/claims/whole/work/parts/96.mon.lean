/-! the reference reads: all of a text -/
def rdM (D : xD) (m : Nat) (z : SD) (v : Option Value) (S : List va_W) : Prop := ∃ r, Rn z.2.2.1 rs0 0 r ∧ match r with
  | .inl p => v = some (.int (-1 - nI p)) ∧ IsMo D m z 0 S
  | .inr q => v = some (.int (nI q.2.length)) ∧ IsMo D m (q.1, q.2, [], z.2.2.2) 0 S
section XZN
variable {l : Launch} {M : xM} {D : xD} {R : Room} {A : Nat → Prop} {Q : Array Value → State → Outcome → State → Prop} {mc ms pc k n a : Nat} {lv : List (Nat × Value)} {st : List Value} {S : List va_W} {C : va_W}
theorem Ex.zasn (i j jx : Nat) {N : Nat} {f : Nat → Int32} {x : Int32} {y : Int32} (hi : S[i]? = some C) (hj : C[j]? = some (a, .inl (D.2.2.1 1, N, .inl f))) (hf : xfe M.2.2.2.2.2 pc = some .bastore) (hx9 : x.toInt = jx) (hN9 : jx < N) (kk : Ex l M D R A Q mc ms (pc + 1) lv st (S.set i (C.set j (a, .inl (D.2.2.1 1, N, .inl (upd f jx (vp_nar .boolean y)))))) k n) : Ex l M D R A Q mc ms pc lv (.int y :: .int x :: .ref a :: st) S k n := by
  intro p e s m args below meth c H locs ls F hS hP hD hl
  obtain ⟨ho, hx, hb, -, -, hown, hts, -, hin, hK, hN, hX, hA, htb⟩ := id F
  have hd := htb _ (xfe_mem _ _ _ hf)
  obtain ⟨q0, hq0, hset⟩ := fl_pos S i j C _ hi hj
  refine va_zast hx hb hK hP hD hS q0 1 hq0 rfl (vp_in_int hx9 hN9) hd (fun H1 locs1 hP1 hD1 hS1 => ?_)
  rw [clamp_int hx9, hset] at hP1 hD1
  exact kk p e s m args below meth c H1 locs1 ls F hS1 hP1 hD1 hl
end XZN
def st2 {α : Type} (L : Nat → List α) (s : Nat) (x : List α) : Nat → List α := fun q => if q = s then x else L q
theorem st2_s {α : Type} (L : Nat → List α) (s : Nat) (x : List α) : st2 L s x s = x := if_pos rfl
theorem st2_n {α : Type} (L : Nat → List α) {s q : Nat} (x : List α) (h : q ≠ s) : st2 L s x q = L q := if_neg h
theorem nar_b32 (b : Bool) : vp_nar .boolean (b32 b) = b32 b := by cases b <;> decide
section MOP
variable {l : Launch} {D : xD} {R : Room}
theorem ct_Mo_read {m : Nat} {z : SD} {th : Int32} {S : List va_W} (h : IsMo D m z th S) (hr : rmOk R 7 0 0) : Ct l mMo_read D R [.ref m] S (rdM D m z) := by
  obtain ⟨r1, r2, r3, r4⟩ := hr
  obtain ⟨B, mn, la, ap, bg, wr, wa, wn, fo, st, rf, rt, cu, me, hl, LT, LH, CT, CH, CX, CF, CE, gR, gQ, gL, gW, rfl, hT, hH, iT, iH, iX, iF, iE⟩ := h
  have hxl : z.2.2.1.length ≤ 2000 := by
    obtain ⟨_, -, h, -⟩ := id iX
    exact h
  obtain ⟨gT, gD, gP, rfl, hsT⟩ := iT
  obtain ⟨gH, gO, gX, gY, gE, gG, gF, gU, gS, rfl, hsH⟩ := iH
  refine Ct.of rfl (by decide) tkMo_read (Nat.le_of_ble_eq_true rfl) (fun A => ?_)
  have sbad : ∀ (q : Nat), q ≤ z.2.2.1.length → Rn z.2.2.1 rs0 0 (.inl q) → ∀ (ap bg st rf rt cu : Int32) (me hl : Bool) (LT : Nat → List (Int32 × Bool)) (LH : Nat → List HV) (CT CH : va_W), IsMT D B LT CT → IsMH D B LH CH → LT 0 = z.1 → LH 0 = z.2.1 → ∀ lv9 : List (Nat × Value), (∀ q ∈ [(0, Value.ref m)], q ∈ lv9) → ∀ k8 n8 : Nat, k8 ≤ 0 → n8 ≤ 0 → Ex l mMo_read D R A (xQ D A (rdM D m z)) R.cells R.slots 94 lv9 [] [sMo m B 0 mn la (nI z.2.2.1.length) ap bg (nI q) me (nI z.2.2.2.2.length) (nI z.2.2.2.1.length) wa wn fo st hl rf rt cu, CT, CH, cMO D B gR gQ gL, cMW D B gW, CX, CF, CE] k8 n8 := by
    intro q hq hR ap bg st rf rt cu me hl LT LH CT CH iT iH hT hH lv9 hlv k8 n8 hk8 hn8
    refine Ex.more (k' := 0) (n' := 0) hk8 hn8 ?_
    refine Ex.lv hlv ?_
    refine Ex.p rfl ?_
    refine Ex.gf 0 0 rfl rfl rfl ?_
    refine Ex.p rfl ?_
    refine Ex.br rfl (fun c => absurd c (nI_ne1 (by omega))) (fun _ => ?_)
    refine Ex.p rfl ?_
    refine Ex.p rfl ?_
    refine Ex.gf 0 0 rfl rfl rfl ?_
    refine Ex.p rfl ?_
    refine Ex.iret rfl rfl (Nat.zero_le _) (Nat.zero_le _) rfl ?_
    exact ⟨.inl q, hR, rfl, B, mn, la, ap, bg, _, wa, wn, fo, st, rf, rt, cu, me, hl, LT, LH, CT, CH, CX, CF, CE, gR, gQ, gL, gW, rfl, hT, hH, iT, iH, iX, iF, iE⟩
  have sgood : ∀ (tv : List (Int32 × Bool)) (hv : List HV), Rn z.2.2.1 rs0 0 (.inr (tv, hv)) → ∀ (ap bg rf rt cu : Int32) (me hl : Bool) (LT : Nat → List (Int32 × Bool)) (LH : Nat → List HV) (CT CH : va_W), IsMT D B LT CT → IsMH D B LH CH → LT 1 = tv → LH 1 = hv → ∀ lv9 : List (Nat × Value), (∀ q ∈ [(0, Value.ref m)], q ∈ lv9) → ∀ k8 n8 : Nat, k8 ≤ 0 → n8 ≤ 0 → Ex l mMo_read D R A (xQ D A (rdM D m z)) R.cells R.slots 109 lv9 [] [sMo m B 0 mn la (nI z.2.2.1.length) ap bg (-1) me (nI z.2.2.2.2.length) (nI z.2.2.2.1.length) wa wn fo (nI 3) hl rf rt cu, CT, CH, cMO D B gR gQ gL, cMW D B gW, CX, CF, CE] k8 n8 := by
    intro tv hv hR ap bg rf rt cu me hl LT LH CT CH iT iH hT hH lv9 hlv k8 n8 hk8 hn8
    refine Ex.more (k' := 0) (n' := 0) hk8 hn8 ?_
    refine Ex.lv hlv ?_
    obtain ⟨gT, gD, gP, rfl, hsT⟩ := iT
    obtain ⟨t1, t2, t3⟩ := hsT 1 (by omega)
    have fin : ∀ (j : Nat) (L : Nat → List HV) (C CTn : va_W), IsMH D B L C → IsMT D B (st2 LT 0 tv) CTn → L 1 = hv → L 0 = hv → ∀ lv9 : List (Nat × Value), (∀ q ∈ [(0, Value.ref m)], q ∈ lv9) → ∀ k8 n8 : Nat, k8 ≤ 0 → n8 ≤ 0 → Ex l mMo_read D R A (xQ D A (rdM D m z)) R.cells R.slots 248 lv9 [] [sMo m B 0 mn la (nI z.2.2.1.length) ap bg (-1) me (nI z.2.2.2.2.length) (nI z.2.2.2.1.length) wa wn fo (nI 3) hl rf rt cu, CTn, C, cMO D B gR gQ gL, cMW D B gW, CX, CF, CE] k8 n8 := by
      intro j L C CTn iH iT' h1 h0 lv9 hlv k8 n8 hk8 hn8
      refine Ex.more (k' := 0) (n' := 0) hk8 hn8 ?_
      refine Ex.lv hlv ?_
      obtain ⟨gH, gO, gX, gY, gE, gG, gF, gU, gS, eH, hsH⟩ := id iH
      obtain ⟨u1, u2, -⟩ := hsH 0 (by omega)
      refine Ex.p rfl ?_
      refine Ex.p rfl ?_
      refine Ex.pf 0 0 rfl rfl rfl rfl rfl rfl ?_
      refine Ex.p rfl ?_
      refine Ex.gf 0 0 rfl rfl rfl ?_
      refine Ex.p rfl ?_
      refine Ex.ial 2 0 0 rfl (by rw [eH]; rfl) rfl rfl (by decide) ?_
      rw [u1]
      refine Ex.iret rfl rfl (Nat.zero_le _) (Nat.zero_le _) rfl ?_
      refine ⟨.inr (tv, hv), hR, by rw [h0], B, mn, la, ap, bg, _, wa, wn, fo, _, rf, rt, cu, me, hl, _, L, _, C, CX, CF, CE, gR, gQ, gL, gW, rfl, rfl, h0, iT', iH, ?_, iF, iE⟩
      obtain ⟨g, rfl, -, -⟩ := iX
      exact ⟨g, rfl, by simp, fun j h => by simp at h⟩
    have hits : ∀ (k j : Nat) (L : Nat → List HV) (C CTn : va_W), hv.length - j < k → j ≤ hv.length → IsMH D B L C → IsMT D B (st2 LT 0 tv) CTn → L 1 = hv → L 0 = hv.take j → ∀ lv9 : List (Nat × Value), (∀ q ∈ [(1, Value.int (nI (60 + j))), (0, .ref m)], q ∈ lv9) → ∀ k8 n8 : Nat, k8 ≤ 0 → n8 ≤ 0 → Ex l mMo_read D R A (xQ D A (rdM D m z)) R.cells R.slots 175 lv9 [] [sMo m B 0 mn la (nI z.2.2.1.length) ap bg (-1) me (nI z.2.2.2.2.length) (nI z.2.2.2.1.length) wa wn fo (nI 3) hl rf rt cu, CTn, C, cMO D B gR gQ gL, cMW D B gW, CX, CF, CE] k8 n8 := by
      intro k
      induction k with
      | zero => intro j L C CTn h; omega
      | succ k ih =>
        intro j L C CTn hk hj iH iT' h1 h0 lv9 hlv k8 n8 hk8 hn8
        refine Ex.more (k' := 0) (n' := 0) hk8 hn8 ?_
        refine Ex.lv hlv ?_
        obtain ⟨gH, gO, gX, gY, gE, gG, gF, gU, gS, eH, hsH⟩ := id iH
        obtain ⟨u1, u2, u3⟩ := hsH 1 (by omega)
        rw [h1] at u1 u2 u3
        refine Ex.p rfl ?_
        refine Ex.p rfl ?_
        refine Ex.p rfl ?_
        refine Ex.gf 0 0 rfl rfl rfl ?_
        refine Ex.p rfl ?_
        refine Ex.ial 2 0 1 rfl (by rw [eH]; rfl) rfl rfl (by decide) ?_
        rw [u1]
        refine Ex.p rfl ?_
        rw [show (Int8.ofInt 60).toInt32 + nI hv.length = nI (60 + hv.length) from nI_add 60 _]
        refine Ex.br rfl (fun c => ?_) (fun c => ?_)
        · have c : nI (60 + hv.length) ≤ nI (60 + j) := c
          rw [nI_leI (by omega) (by omega)] at c
          refine fin 0 L C CTn iH iT' h1 (by rw [h0, List.take_of_length_le (by omega)]) _ (fun q h => ?_) 0 0 (Nat.le_refl _) (Nat.le_refl _)
          simp only [List.mem_cons, List.not_mem_nil, or_false] at h
          rcases h with rfl <;> first | (simp [xs1, xs2, lv_args, Value.category, b32, nI]; done) | (simp [xs1, xs2, lv_args, Value.category, b32, nI]; decide) | (simp [xs1, xs2, lv_args, Value.category, b32, nI]; exact Or.inr (by decide)) | (simp [xs1, xs2, lv_args, Value.category, b32, nI]; exact Or.inl (by decide))
        · have c : ¬ nI (60 + hv.length) ≤ nI (60 + j) := c
          rw [nI_leI (by omega) (by omega)] at c
          have hjl : j < hv.length := by omega
          have hat : hv[j]? = some hv[j] := List.getElem?_eq_getElem hjl
          have hk9 : (nI (60 + j)).toInt = ((60 + j : Nat) : Int) := nI_toInt (by omega)
          have etk : hv.take (j + 1) = hv.take j ++ [hv[j]] := by
            rw [List.take_add_one, hat]
            rfl
          obtain ⟨v1, v2, v3, v4, v5, v6, v7, v8⟩ := u3 j _ hat
          rw [show 60 * 1 + j = 60 + j by omega] at v1 v2 v3 v4 v5 v6 v7 v8
          generalize hv[j] = h9 at hat etk v1 v2 v3 v4 v5 v6 v7 v8
          refine Ex.p rfl ?_
          refine Ex.p rfl ?_
          refine Ex.p rfl ?_
          refine Ex.gf 0 0 rfl rfl rfl ?_
          refine Ex.p rfl ?_
          refine Ex.ial 2 1 (60 + j) rfl (by rw [eH]; rfl) rfl hk9 (by omega) ?_
          rw [v1]
          refine Ex.p rfl ?_
          refine Ex.gf 0 0 rfl rfl rfl ?_
          refine Ex.p rfl ?_
          refine Ex.lal 2 2 (60 + j) rfl (by rw [eH]; rfl) rfl hk9 (by omega) ?_
          rw [v2]
          refine Ex.p rfl ?_
          refine Ex.gf 0 0 rfl rfl rfl ?_
          refine Ex.p rfl ?_
          refine Ex.lal 2 3 (60 + j) rfl (by rw [eH]; rfl) rfl hk9 (by omega) ?_
          rw [v3]
          refine Ex.p rfl ?_
          refine Ex.gf 0 0 rfl rfl rfl ?_
          refine Ex.p rfl ?_
          refine Ex.lal 2 4 (60 + j) rfl (by rw [eH]; rfl) rfl hk9 (by omega) ?_
          rw [v4]
          refine Ex.p rfl ?_
          refine Ex.gf 0 0 rfl rfl rfl ?_
          refine Ex.p rfl ?_
          refine Ex.lal 2 5 (60 + j) rfl (by rw [eH]; rfl) rfl hk9 (by omega) ?_
          rw [v5]
          refine Ex.p rfl ?_
          refine Ex.gf 0 0 rfl rfl rfl ?_
          refine Ex.p rfl ?_
          refine Ex.ial 2 6 (60 + j) rfl (by rw [eH]; rfl) rfl hk9 (by omega) ?_
          rw [v6]
          refine Ex.p rfl ?_
          refine Ex.gf 0 0 rfl rfl rfl ?_
          refine Ex.p rfl ?_
          refine Ex.ial 2 7 (60 + j) rfl (by rw [eH]; rfl) rfl hk9 (by omega) ?_
          rw [v7]
          refine Ex.p rfl ?_
          refine Ex.gf 0 0 rfl rfl rfl ?_
          refine Ex.p rfl ?_
          refine Ex.zal 2 8 (60 + j) rfl (by rw [eH]; rfl) rfl hk9 (by omega) ?_
          rw [v8]
          refine Ex.cv (Mc := mMo_addHit) (Rc := rm 0 0 0) (As := [.int (nI 0), .int h9.1, .long h9.2.1.toInt64, .long h9.2.2.1.toInt64, .long h9.2.2.2.1.toInt64, .long h9.2.2.2.2.1.toInt64, .int h9.2.2.2.2.2.1, .int h9.2.2.2.2.2.2, .int (b32 (hslot h9))]) (rest := []) (Sr := [CTn, cMO D B gR gQ gL, cMW D B gW, CX, CF, CE]) (ic := 0) (jc := 0) (ci := 10) [0, 2] [1, 3, 4, 5, 6, 7] (ct_Mo_addHit (h9 := h9) iH (by omega) (by rw [h0, List.length_take]; omega) rfl rfl rfl rfl rfl) rfl lk_10_115 lcMo_addHit rfl rfl rfl rfl rfl (by decide) rfl rfl rfl (by decide) ⟨by dsimp only [rm]; omega, by show 8 + (15 + 11) + 0 ≤ R.locals; omega⟩ (Nat.le_of_ble_eq_true rfl) (by first | (dsimp only [rm]; omega) | omega) (by first | (dsimp only [rm]; omega) | omega) ?_
          rintro v S1 ⟨rfl, C', rfl, iH'⟩
          refine Ex.p rfl ?_
          refine Ex.p rfl ?_
          rw [show nI (60 + j) + Int32.ofInt 1 = nI (60 + (j + 1)) from i_add1 _]
          refine Ex.sub (S' := [sMo m B 0 mn la (nI z.2.2.1.length) ap bg (-1) me (nI z.2.2.2.2.length) (nI z.2.2.2.1.length) wa wn fo (nI 3) hl rf rt cu, CTn, C', cMO D B gR gQ gL, cMW D B gW, CX, CF, CE]) [6, 0, 7, 1, 2, 3, 4, 5] rfl rfl ?_
          refine Ex.p rfl ?_
          refine ih (j + 1) (put2 L 0 h9) C' CTn (by omega) (by omega) iH' iT' (by rw [put2_n L _ (by decide)]; exact h1) (by rw [put2_s, h0, etk]) _ (fun q h => ?_) _ _ (by first | (dsimp only [rm]; omega) | omega) (by first | (dsimp only [rm]; omega) | omega)
          simp only [List.mem_cons, List.not_mem_nil, or_false] at h
          rcases h with rfl | rfl <;> first | (simp [xs1, xs2, lv_args, Value.category, b32, nI]; done) | (simp [xs1, xs2, lv_args, Value.category, b32, nI]; decide) | (simp [xs1, xs2, lv_args, Value.category, b32, nI]; exact Or.inr (by decide)) | (simp [xs1, xs2, lv_args, Value.category, b32, nI]; exact Or.inl (by decide))
    have tools : ∀ (k t : Nat) (hD : Nat → Int64) (hPl : Nat → Int32), 10 - t < k → t ≤ 10 → (∀ j, hD j = if j < t then gD (10 + j) else gD j) → (∀ j, hPl j = if j < t then vp_nar .boolean (gP (10 + j)) else gP j) → ∀ lv9 : List (Nat × Value), (∀ q ∈ [(1, Value.int (nI t)), (0, .ref m)], q ∈ lv9) → Ex l mMo_read D R A (xQ D A (rdM D m z)) R.cells R.slots 123 lv9 [] [sMo m B 0 mn la (nI z.2.2.1.length) ap bg (-1) me (nI z.2.2.2.2.length) (nI z.2.2.2.1.length) wa wn fo (nI 3) hl rf rt cu, cMT D B (upd gT 0 (nI tv.length)) hD hPl, CH, cMO D B gR gQ gL, cMW D B gW, CX, CF, CE] 0 0 := by
      intro k
      induction k with
      | zero => intro t hD hPl h; omega
      | succ k ih =>
        intro t hD hPl hk ht eD eP lv9 hlv
        refine Ex.lv hlv ?_
        refine Ex.p rfl ?_
        refine Ex.p rfl ?_
        refine Ex.br rfl (fun c => ?_) (fun c => ?_)
        · have c : nI 10 ≤ nI t := c
          rw [nI_leI (by omega) (by omega)] at c
          have ht10 : t = 10 := by omega
          subst ht10
          have iT' : IsMT D B (st2 LT 0 tv) (cMT D B (upd gT 0 (nI tv.length)) hD hPl) := by
            refine ⟨_, _, _, rfl, fun s hs => ?_⟩
            rw [hT] at t1 t2 t3
            by_cases h0 : s = 0
            · subst h0
              rw [st2_s]
              refine ⟨upd_s _ _ _, t2, fun i t hi => ?_⟩
              have hi10 := (List.getElem?_eq_some_iff.mp hi).1
              obtain ⟨d1, d2⟩ := t3 i t hi
              rw [eD, eP, if_pos (by omega), if_pos (by omega)]
              rw [show 10 * 1 + i = 10 + (10 * 0 + i) by omega] at d1 d2
              exact ⟨d1, by rw [d2]; exact nar_b32 _⟩
            · rw [st2_n _ _ h0]
              obtain ⟨d1, d2, d3⟩ := hsT s hs
              refine ⟨by rw [upd_n _ _ h0]; exact d1, d2, fun i t hi => ?_⟩
              obtain ⟨d4, d5⟩ := d3 i t hi
              rw [eD, eP, if_neg (by omega), if_neg (by omega)]
              exact ⟨d4, d5⟩
          obtain ⟨gH, gO, gX, gY, gE, gG, gF, gU, gS, rfl, hsH⟩ := iH
          refine Ex.p rfl ?_
          refine Ex.gf 0 0 rfl rfl rfl ?_
          refine Ex.p rfl ?_
          refine Ex.p rfl ?_
          refine Ex.ias 2 0 0 rfl rfl rfl rfl (by decide) ?_
          refine Ex.p rfl ?_
          refine Ex.p rfl ?_
          refine hits (hv.length + 1) 0 (st2 LH 0 []) (cMH D B (upd gH 0 (nI 0)) gO gX gY gE gG gF gU gS) _ (by omega) (by omega) ?_ iT' (by rw [st2_n _ _ (by decide)]; exact hH) (st2_s _ _ _) _ (fun q h => ?_) 0 0 (Nat.le_refl _) (Nat.le_refl _)
          · refine ⟨_, _, _, _, _, _, _, _, _, rfl, fun s hs => ?_⟩
            by_cases h0 : s = 0
            · subst h0
              rw [st2_s]
              exact ⟨upd_s _ _ _, by simp, fun k h hk => by simp at hk⟩
            · rw [st2_n _ _ h0, upd_n _ _ h0]
              exact hsH s hs
          · simp only [List.mem_cons, List.not_mem_nil, or_false] at h
            rcases h with rfl | rfl <;> first | (simp [xs1, xs2, lv_args, Value.category, b32, nI]; done) | (simp [xs1, xs2, lv_args, Value.category, b32, nI]; decide) | (simp [xs1, xs2, lv_args, Value.category, b32, nI]; exact Or.inr (by decide)) | (simp [xs1, xs2, lv_args, Value.category, b32, nI]; exact Or.inl (by decide))
        · have c : ¬ nI 10 ≤ nI t := c
          rw [nI_leI (by omega) (by omega)] at c
          have e10 : (Int8.ofInt 10).toInt32 + nI t = nI (10 + t) := nI_add 10 t
          refine Ex.p rfl ?_
          refine Ex.gf 0 0 rfl rfl rfl ?_
          refine Ex.p rfl ?_
          refine Ex.p rfl ?_
          refine Ex.gf 0 0 rfl rfl rfl ?_
          refine Ex.p rfl ?_
          refine Ex.p rfl ?_
          refine Ex.p rfl ?_
          rw [e10]
          refine Ex.lal 1 1 (10 + t) rfl rfl rfl (nI_toInt (by omega)) (by omega) ?_
          refine Ex.las 1 1 t rfl rfl rfl (nI_toInt (by omega)) (by omega) ?_
          refine Ex.p rfl ?_
          refine Ex.gf 0 0 rfl rfl rfl ?_
          refine Ex.p rfl ?_
          refine Ex.p rfl ?_
          refine Ex.gf 0 0 rfl rfl rfl ?_
          refine Ex.p rfl ?_
          refine Ex.p rfl ?_
          refine Ex.p rfl ?_
          rw [e10]
          refine Ex.zal 1 2 (10 + t) rfl rfl rfl (nI_toInt (by omega)) (by omega) ?_
          refine Ex.zasn 1 2 t rfl rfl rfl (nI_toInt (by omega)) (by omega) ?_
          refine Ex.p rfl ?_
          refine Ex.p rfl ?_
          rw [i_add1]
          refine ih (t + 1) _ _ (by omega) (by omega) (fun j => ?_) (fun j => ?_) _ (fun q h => ?_)
          · by_cases hj : j = t
            · subst hj
              rw [if_pos (by omega)]
              refine (updL_s _ _ _).trans ?_
              rw [eD, if_neg (by omega)]
            · refine (updL_n _ _ hj).trans ?_
              rw [eD]
              by_cases hj2 : j < t
              · rw [if_pos hj2, if_pos (by omega)]
              · rw [if_neg hj2, if_neg (by omega)]
          · by_cases hj : j = t
            · subst hj
              rw [if_pos (by omega)]
              refine (upd_s _ _ _).trans ?_
              rw [eP, if_neg (by omega)]
            · refine (upd_n _ _ hj).trans ?_
              rw [eP]
              by_cases hj2 : j < t
              · rw [if_pos hj2, if_pos (by omega)]
              · rw [if_neg hj2, if_neg (by omega)]
          · simp only [List.mem_cons, List.not_mem_nil, or_false] at h
            rcases h with rfl | rfl <;> first | (simp [xs1, xs2, lv_args, Value.category, b32, nI]; done) | (simp [xs1, xs2, lv_args, Value.category, b32, nI]; decide) | (simp [xs1, xs2, lv_args, Value.category, b32, nI]; exact Or.inr (by decide)) | (simp [xs1, xs2, lv_args, Value.category, b32, nI]; exact Or.inl (by decide))
    refine Ex.p rfl ?_
    refine Ex.gf 0 0 rfl rfl rfl ?_
    refine Ex.p rfl ?_
    refine Ex.p rfl ?_
    refine Ex.gf 0 0 rfl rfl rfl ?_
    refine Ex.p rfl ?_
    refine Ex.ial 1 0 1 rfl rfl rfl rfl (by decide) ?_
    rw [t1, hT]
    refine Ex.ias 1 0 0 rfl rfl rfl rfl (by decide) ?_
    refine Ex.p rfl ?_
    refine Ex.p rfl ?_
    refine tools 11 0 gD gP (by omega) (by omega) (fun j => by rw [if_neg (by omega)]) (fun j => by rw [if_neg (by omega)]) _ (fun q h => ?_)
    simp only [List.mem_cons, List.not_mem_nil, or_false] at h
    rcases h with rfl | rfl <;> first | (simp [xs1, xs2, lv_args, Value.category, b32, nI]; done) | (simp [xs1, xs2, lv_args, Value.category, b32, nI]; decide) | (simp [xs1, xs2, lv_args, Value.category, b32, nI]; exact Or.inr (by decide)) | (simp [xs1, xs2, lv_args, Value.category, b32, nI]; exact Or.inl (by decide))
  have loop : ∀ (k p : Nat) (s : RS) (bg st rf rt cu : Int32) (me hl : Bool) (LT : Nat → List (Int32 × Bool)) (LH : Nat → List HV) (CT CH : va_W), z.2.2.1.length - p < k → p ≤ z.2.2.1.length → (∀ r, Rn z.2.2.1 s p r → Rn z.2.2.1 rs0 0 r) → RsIs s st hl rf rt cu LT LH → IsMT D B LT CT → IsMH D B LH CH → LT 0 = z.1 → LH 0 = z.2.1 → ∀ lv9 : List (Nat × Value), (∀ q ∈ [(0, Value.ref m)], q ∈ lv9) → ∀ k8 n8 : Nat, k8 ≤ 0 → n8 ≤ 0 → Ex l mMo_read D R A (xQ D A (rdM D m z)) R.cells R.slots 44 lv9 [] [sMo m B 0 mn la (nI z.2.2.1.length) (nI p) bg (-1) me (nI z.2.2.2.2.length) (nI z.2.2.2.1.length) wa wn fo st hl rf rt cu, CT, CH, cMO D B gR gQ gL, cMW D B gW, CX, CF, CE] k8 n8 := by
    intro k
    induction k with
    | zero => intro p s bg st rf rt cu me hl LT LH CT CH h; omega
    | succ k ih =>
      intro p s bg st rf rt cu me hl LT LH CT CH hk hp hR hs iT iH hT hH lv9 hlv k8 n8 hk8 hn8
      refine Ex.more (k' := 0) (n' := 0) hk8 hn8 ?_
      refine Ex.lv hlv ?_
      obtain ⟨z1, z2, z3, z4, z5, z6, z7, z8⟩ := id hs
      refine Ex.p rfl ?_
      refine Ex.gf 0 0 rfl rfl rfl ?_
      refine Ex.p rfl ?_
      refine Ex.br rfl (fun c => absurd rfl c) (fun _ => ?_)
      refine Ex.p rfl ?_
      refine Ex.gf 0 0 rfl rfl rfl ?_
      refine Ex.p rfl ?_
      refine Ex.gf 0 0 rfl rfl rfl ?_
      refine Ex.br rfl (fun c => ?_) (fun c => ?_)
      · have c : nI z.2.2.1.length ≤ nI p := c
        rw [nI_leI (by omega) (by omega)] at c
        have ep : p = z.2.2.1.length := by omega
        subst ep
        subst z1
        refine Ex.p rfl ?_
        refine Ex.gf 0 0 rfl rfl rfl ?_
        refine Ex.p rfl ?_
        refine Ex.br rfl (fun c => absurd rfl c) (fun _ => ?_)
        refine Ex.p rfl ?_
        refine Ex.gf 0 0 rfl rfl rfl ?_
        refine Ex.p rfl ?_
        refine Ex.br rfl (fun c3 => ?_) (fun c3 => ?_)
        · have c3 : nI 3 ≤ nI s.1 := c3
          rw [nI_leI (by omega) (by omega)] at c3
          have e3 : s.1 = 3 := by omega
          rw [e3]
          refine Ex.p rfl ?_
          refine Ex.gf 0 0 rfl rfl rfl ?_
          refine Ex.p rfl ?_
          refine Ex.br rfl (fun _ => ?_) (fun c => absurd rfl c)
          refine sgood s.2.2.2.2.1 s.2.2.2.2.2.1 (hR _ (Rn.fin e3)) (nI z.2.2.1.length) bg rf rt cu me hl LT LH CT CH iT iH z4 z5 _ (fun q h => ?_) 0 0 (Nat.le_refl _) (Nat.le_refl _)
          simp only [List.mem_cons, List.not_mem_nil, or_false] at h
          rcases h with rfl <;> first | (simp [xs1, xs2, lv_args, Value.category, b32, nI]; done) | (simp [xs1, xs2, lv_args, Value.category, b32, nI]; decide) | (simp [xs1, xs2, lv_args, Value.category, b32, nI]; exact Or.inr (by decide)) | (simp [xs1, xs2, lv_args, Value.category, b32, nI]; exact Or.inl (by decide))
        · have c3 : ¬ nI 3 ≤ nI s.1 := c3
          rw [nI_leI (by omega) (by omega)] at c3
          refine Ex.p rfl ?_
          refine Ex.p rfl ?_
          refine Ex.gf 0 0 rfl rfl rfl ?_
          refine Ex.pf 0 0 rfl rfl rfl rfl rfl rfl ?_
          refine sbad z.2.2.1.length (Nat.le_refl _) (hR _ (Rn.bad (by omega) (pStep_end (by omega)))) (nI z.2.2.1.length) bg (nI s.1) rf rt cu me hl LT LH CT CH iT iH hT hH _ (fun q h => ?_) 0 0 (Nat.le_refl _) (Nat.le_refl _)
          simp only [List.mem_cons, List.not_mem_nil, or_false] at h
          rcases h with rfl <;> first | (simp [xs1, xs2, lv_args, Value.category, b32, nI]; done) | (simp [xs1, xs2, lv_args, Value.category, b32, nI]; decide) | (simp [xs1, xs2, lv_args, Value.category, b32, nI]; exact Or.inr (by decide)) | (simp [xs1, xs2, lv_args, Value.category, b32, nI]; exact Or.inl (by decide))
      · have c : ¬ nI z.2.2.1.length ≤ nI p := c
        rw [nI_leI (by omega) (by omega)] at c
        refine Ex.p rfl ?_
        refine Ex.cv (Mc := mMo_readLine) (Rc := rm 6 0 0) (As := []) (rest := []) (Sr := [cMO D B gR gQ gL, cMW D B gW, CF, CE]) (ic := 0) (jc := 0) (ci := 10) [0, 1, 2, 5] [3, 4, 6, 7] (ct_Mo_readLine iX iT iH (by omega) hs (rm_ok _ _ _)) rfl lk_10_245 lcMo_readLine rfl rfl rfl rfl rfl (by decide) rfl rfl rfl (by decide) ⟨by dsimp only [rm]; omega, by show 8 + (1 + 11) + 240 ≤ R.locals; omega⟩ (Nat.le_of_ble_eq_true rfl) (by first | (dsimp only [rm]; omega) | omega) (by first | (dsimp only [rm]; omega) | omega) ?_
        rintro v S1 ⟨rfl, ap', bg', wr', me', st', hl', rf', rt', cu', LT', LH', CT', CH', rfl, iT', iH', hT', hH', hle, hm9⟩
        rw [hT] at hT'
        rw [hH] at hH'
        refine Ex.sub (S' := [sMo m B 0 mn la (nI z.2.2.1.length) ap' bg' wr' me' (nI z.2.2.2.2.length) (nI z.2.2.2.1.length) wa wn fo st' hl' rf' rt' cu', CT', CH', cMO D B gR gQ gL, cMW D B gW, CX, CF, CE]) [4, 5, 6, 0, 1, 7, 2, 3] rfl rfl ?_
        refine Ex.p rfl ?_
        generalize hrl : rlR z.2.2.1 s p = P at hle hm9
        unfold rlR at hrl
        obtain ⟨o, q⟩ := P
        have hle : q ≤ z.2.2.1.length := hle
        cases o with
        | none =>
          have hm9 : wr' = nI q := hm9
          subst hm9
          have hRq : Rn z.2.2.1 rs0 0 (.inl q) := by
            apply hR
            by_cases e3 : s.1 = 3
            · rw [if_pos e3] at hrl
              cases hrl
              exact Rn.trail e3 (by omega)
            · rw [if_neg e3] at hrl
              exact Rn.bad (by omega) hrl
          refine Ex.more (k' := 0) (n' := 0) (by first | (dsimp only [rm]; omega) | omega) (by first | (dsimp only [rm]; omega) | omega) ?_
          refine Ex.p rfl ?_
          refine Ex.gf 0 0 rfl rfl rfl ?_
          refine Ex.p rfl ?_
          refine Ex.br rfl (fun _ => ?_) (fun c => absurd (nI_ne1 (by omega)) c)
          refine Ex.p rfl ?_
          refine Ex.gf 0 0 rfl rfl rfl ?_
          refine Ex.p rfl ?_
          refine Ex.br rfl (fun _ => ?_) (fun c => absurd (nI_ne1 (by omega)) c)
          refine sbad q hle hRq ap' bg' st' rf' rt' cu' me' hl' LT' LH' CT' CH' iT' iH' hT' hH' _ (fun q h => ?_) 0 0 (Nat.le_refl _) (Nat.le_refl _)
          simp only [List.mem_cons, List.not_mem_nil, or_false] at h
          rcases h with rfl <;> first | (simp [xs1, xs2, lv_args, Value.category, b32, nI]; done) | (simp [xs1, xs2, lv_args, Value.category, b32, nI]; decide) | (simp [xs1, xs2, lv_args, Value.category, b32, nI]; exact Or.inr (by decide)) | (simp [xs1, xs2, lv_args, Value.category, b32, nI]; exact Or.inl (by decide))
        | some s' =>
          obtain ⟨rfl, rfl, hlt, hs'⟩ := hm9
          have hlt : p < q := hlt
          have e3 : ¬ s.1 = 3 := by
            intro e3
            rw [if_pos e3] at hrl
            cases hrl
          rw [if_neg e3] at hrl
          refine ih q s' bg' st' rf' rt' cu' me' hl' LT' LH' CT' CH' (by omega) hle (fun r hr => hR r (Rn.step (by omega) hrl hr)) hs' iT' iH' hT' hH' _ (fun q h => ?_) _ _ (by first | (dsimp only [rm]; omega) | omega) (by first | (dsimp only [rm]; omega) | omega)
          simp only [List.mem_cons, List.not_mem_nil, or_false] at h
          rcases h with rfl <;> first | (simp [xs1, xs2, lv_args, Value.category, b32, nI]; done) | (simp [xs1, xs2, lv_args, Value.category, b32, nI]; decide) | (simp [xs1, xs2, lv_args, Value.category, b32, nI]; exact Or.inr (by decide)) | (simp [xs1, xs2, lv_args, Value.category, b32, nI]; exact Or.inl (by decide))
  refine Ex.p rfl ?_
  refine Ex.p rfl ?_
  refine Ex.pf 0 0 rfl rfl rfl rfl rfl rfl ?_
  refine Ex.p rfl ?_
  refine Ex.p rfl ?_
  refine Ex.pf 0 0 rfl rfl rfl rfl rfl rfl ?_
  refine Ex.p rfl ?_
  refine Ex.p rfl ?_
  refine Ex.pf 0 0 rfl rfl rfl rfl rfl rfl ?_
  refine Ex.p rfl ?_
  refine Ex.p rfl ?_
  refine Ex.pf 0 0 rfl rfl rfl rfl rfl rfl ?_
  refine Ex.p rfl ?_
  refine Ex.p rfl ?_
  refine Ex.pf 0 0 rfl rfl rfl rfl rfl rfl ?_
  refine Ex.p rfl ?_
  refine Ex.p rfl ?_
  refine Ex.pf 0 0 rfl rfl rfl rfl rfl rfl ?_
  refine Ex.p rfl ?_
  refine Ex.gf 0 0 rfl rfl rfl ?_
  refine Ex.p rfl ?_
  refine Ex.p rfl ?_
  refine Ex.ias 1 0 1 rfl rfl rfl rfl (by decide) ?_
  refine Ex.p rfl ?_
  refine Ex.gf 0 0 rfl rfl rfl ?_
  refine Ex.p rfl ?_
  refine Ex.p rfl ?_
  refine Ex.ias 2 0 1 rfl rfl rfl rfl (by decide) ?_
  refine loop (z.2.2.1.length + 1) 0 rs0 bg 0 rf rt (-1) me false (st2 LT 1 []) (st2 LH 1 []) _ _ (by omega) (by omega) (fun r h => h) ⟨rfl, rfl, fun q => (by cases q), st2_s _ _ _, st2_s _ _ _, rfl, (by decide), fun q => (by cases q)⟩ ?_ ?_ (by rw [st2_n _ _ (by decide)]; exact hT) (by rw [st2_n _ _ (by decide)]; exact hH) _ (fun q h => ?_) 0 0 (Nat.le_refl _) (Nat.le_refl _)
  · refine ⟨_, _, _, rfl, fun s hs => ?_⟩
    by_cases h0 : s = 1
    · subst h0
      rw [st2_s]
      exact ⟨upd_s _ _ _, by simp, fun i t hi => by simp at hi⟩
    · rw [st2_n _ _ h0]
      refine ⟨(upd_n _ _ h0).trans (hsT s hs).1, (hsT s hs).2⟩
  · refine ⟨_, _, _, _, _, _, _, _, _, rfl, fun s hs => ?_⟩
    by_cases h0 : s = 1
    · subst h0
      rw [st2_s]
      exact ⟨upd_s _ _ _, by simp, fun i t hi => by simp at hi⟩
    · rw [st2_n _ _ h0]
      refine ⟨(upd_n _ _ h0).trans (hsH s hs).1, (hsH s hs).2⟩
  · simp only [List.mem_cons, List.not_mem_nil, or_false] at h
    rcases h with rfl <;> first | (simp [xs1, xs2, lv_args, Value.category, b32, nI]; done) | (simp [xs1, xs2, lv_args, Value.category, b32, nI]; decide) | (simp [xs1, xs2, lv_args, Value.category, b32, nI]; exact Or.inr (by decide)) | (simp [xs1, xs2, lv_args, Value.category, b32, nI]; exact Or.inl (by decide))
end MOP

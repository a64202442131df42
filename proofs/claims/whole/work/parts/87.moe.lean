/-! the reference: layText -/
section MOE
variable {l : Launch} {M : xM} {D : xD} {R : Room} {A : Nat → Prop} {Q : Array Value → State → Outcome → State → Prop} {mc ms pc k n : Nat} {lv : List (Nat × Value)} {rest : List Value} {m : Nat} {B : Nat → Nat} {xs : List Int32} {gW : Nat → Int32} {th mn ln ap bg wr fi fe wa wn fo st rf rt cu : Int32} {me hl : Bool} {CT CH CO : va_W}
theorem Ex.say {u : Int32} (hM : M.2.1.cls = "DrillArchiveModel") (hf : xfe M.2.2.2.2.2 pc = some (.invokevirtual 152)) (r1 : 1 ≤ R.frames) (r2 : 40 ≤ R.locals) (hk : k ≤ R.cells) (hn : n ≤ R.slots) (hp : PgIs gW xs) (hlt : xs.length < 3000) (hrm : (rest.map fun v => v.category).sum ≤ 8) (kk : ∀ gW', PgIs gW' (xs ++ [u]) → Ex l M D R A Q mc ms (pc + 3) lv rest [sMo m B th mn (nI (xs ++ [u]).length) ln ap bg wr me fi fe wa wn fo st hl rf rt cu, CT, CH, CO, cMW D B gW'] k n) : Ex l M D R A Q mc ms pc lv (.int u :: .ref m :: rest) [sMo m B th mn (nI xs.length) ln ap bg wr me fi fe wa wn fo st hl rf rt cu, CT, CH, CO, cMW D B gW] k n := by
  refine Ex.cv (Mc := mMo_say) (Rc := rm 0 0 0) (As := [.int u]) (rest := rest) (Sr := [CT, CH, CO]) (ic := 0) (jc := 0) (ci := 10) [0, 4] [1, 2, 3] (ct_Mo_say hp hlt) hf (by rw [hM]; exact lk_10_152) lcMo_say rfl rfl rfl rfl rfl (by decide) rfl rfl rfl (by decide) ⟨by dsimp only [rm]; omega, by show 8 + (2 + 11) + 0 ≤ R.locals; omega⟩ hrm (by first | (dsimp only [rm]; omega) | omega) (by first | (dsimp only [rm]; omega) | omega) ?_
  rintro v S1 ⟨rfl, g1, rfl, hg1⟩
  refine Ex.sub (S' := [sMo m B th mn _ ln ap bg wr me fi fe wa wn fo st hl rf rt cu, CT, CH, CO, cMW D B g1]) [3, 0, 1, 2, 4] rfl rfl ?_
  exact kk g1 hg1
theorem Ex.sayN {x : Int32} {y9 : Int64} (hM : M.2.1.cls = "DrillArchiveModel") (hf : xfe M.2.2.2.2.2 pc = some (.invokevirtual 157)) (r1 : 2 ≤ R.frames) (r2 : 80 ≤ R.locals) (hk : k ≤ R.cells) (hn : n ≤ R.slots) (hp : PgIs gW xs) (hlt : xs.length + 8 ≤ 3000) (hy : x.toInt64 = y9) (hx : x.toInt.natAbs ≤ 1000000) (hrm : (rest.map fun v => v.category).sum ≤ 8) (kk : ∀ gW', PgIs gW' (xs ++ numT x) → Ex l M D R A Q mc ms (pc + 3) lv rest [sMo m B th mn (nI (xs ++ numT x).length) ln ap bg wr me fi fe wa wn fo st hl rf rt cu, CT, CH, CO, cMW D B gW'] k n) : Ex l M D R A Q mc ms pc lv (.long y9 :: .ref m :: rest) [sMo m B th mn (nI xs.length) ln ap bg wr me fi fe wa wn fo st hl rf rt cu, CT, CH, CO, cMW D B gW] k n := by
  refine Ex.cv (Mc := mMo_sayNumber) (Rc := rm 1 0 0) (As := [.long y9]) (rest := rest) (Sr := [CT, CH, CO]) (ic := 0) (jc := 0) (ci := 10) [0, 4] [1, 2, 3] (ct_Mo_sayNumber hp hlt hy hx (rm_ok _ _ _)) hf (by rw [hM]; exact lk_10_157) lcMo_sayNumber rfl rfl rfl rfl rfl (by decide) rfl rfl rfl (by decide) ⟨by dsimp only [rm]; omega, by show 8 + (7 + 11) + 40 ≤ R.locals; omega⟩ hrm (by first | (dsimp only [rm]; omega) | omega) (by first | (dsimp only [rm]; omega) | omega) ?_
  rintro v S1 ⟨rfl, g1, rfl, hg1⟩
  refine Ex.sub (S' := [sMo m B th mn _ ln ap bg wr me fi fe wa wn fo st hl rf rt cu, CT, CH, CO, cMW D B g1]) [3, 0, 1, 2, 4] rfl rfl ?_
  exact kk g1 hg1
theorem Ex.sayT {t : Nat} (hM : M.2.1.cls = "DrillArchiveModel") (hf : xfe M.2.2.2.2.2 pc = some (.invokevirtual 165)) (r1 : 3 ≤ R.frames) (r2 : 120 ≤ R.locals) (hk : k ≤ R.cells) (hn : n ≤ R.slots) (hp : PgIs gW xs) (hlt : xs.length + 9 ≤ 3000) (ht : t ≤ 1000) (hrm : (rest.map fun v => v.category).sum ≤ 8) (kk : ∀ gW', PgIs gW' (xs ++ part 84 (nI t)) → Ex l M D R A Q mc ms (pc + 3) lv rest [sMo m B th mn (nI (xs ++ part 84 (nI t)).length) ln ap bg wr me fi fe wa wn fo st hl rf rt cu, CT, CH, CO, cMW D B gW'] k n) : Ex l M D R A Q mc ms pc lv (.int (nI t) :: .ref m :: rest) [sMo m B th mn (nI xs.length) ln ap bg wr me fi fe wa wn fo st hl rf rt cu, CT, CH, CO, cMW D B gW] k n := by
  refine Ex.cv (Mc := mMo_sayTool) (Rc := rm 2 0 0) (As := [.int (nI t)]) (rest := rest) (Sr := [CT, CH, CO]) (ic := 0) (jc := 0) (ci := 10) [0, 4] [1, 2, 3] (ct_Mo_sayTool hp hlt ht (rm_ok _ _ _)) hf (by rw [hM]; exact lk_10_165) lcMo_sayTool rfl rfl rfl rfl rfl (by decide) rfl rfl rfl (by decide) ⟨by dsimp only [rm]; omega, by show 8 + (2 + 11) + 80 ≤ R.locals; omega⟩ hrm (by first | (dsimp only [rm]; omega) | omega) (by first | (dsimp only [rm]; omega) | omega) ?_
  rintro v S1 ⟨rfl, g1, rfl, hg1⟩
  refine Ex.sub (S' := [sMo m B th mn _ ln ap bg wr me fi fe wa wn fo st hl rf rt cu, CT, CH, CO, cMW D B g1]) [3, 0, 1, 2, 4] rfl rfl ?_
  exact kk g1 hg1
end MOE
section MOF
variable {l : Launch} {D : xD} {R : Room}
theorem ct_Mo_layText {m : Nat} {B : Nat → Nat} {a9 b9 : Int32} {th mn la ln ap bg wr fi fe wa wn fo st rf rt cu : Int32} {me hl : Bool} {LT : Nat → List (Int32 × Bool)} {LH : Nat → List HV} {CT CH : va_W} {gR gQ : Nat → Int32} {gL : Nat → Int64} {gW : Nat → Int32} (iT : IsMT D B LT CT) (iH : IsMH D B LH CH) (htv : ∀ t ∈ LT 0, tvOK t) (hok : ∀ h ∈ LH 0, hOK h) (ha : layOK a9) (hb : layOK b9) (hr : rmOk R 5 0 0) : Ct l mMo_layText D R [.ref m, .int a9, .int b9] [sMo m B th mn la ln ap bg wr me fi fe wa wn fo st hl rf rt cu, CT, CH, cMO D B gR gQ gL, cMW D B gW] (fun v S => v = none ∧ ∃ mn' gR' gQ' gL' gW', S = [sMo m B th mn' (nI (textD a9 b9 (LT 0) (LH 0)).length) ln ap bg wr me fi fe wa wn fo st hl rf rt cu, CT, CH, cMO D B gR' gQ' gL', cMW D B gW'] ∧ PgIs gW' (textD a9 b9 (LT 0) (LH 0))) := by
  obtain ⟨r1, r2, r3, r4⟩ := hr
  obtain ⟨gT, gD, gP, eT, hsT⟩ := id iT
  obtain ⟨t1, t2, t3⟩ := hsT 0 (by omega)
  obtain ⟨gH, gO, gX, gY, gE, gG, gF, gU, gS, eH, hsH⟩ := id iH
  obtain ⟨h1, h2, h3⟩ := hsH 0 (by omega)
  have hYl := textD_len ha hb t2 htv h2
  generalize hY : textD a9 b9 (LT 0) (LH 0) = Y at hYl
  unfold textD headT at hY
  have fit : ∀ {ys zs : List Int32}, ys ++ zs = Y → ys.length ≤ 2545 := by
    intro ys zs e
    have := congrArg List.length e
    rw [List.length_append] at this
    omega
  refine Ct.of rfl (by decide) tkMo_layText (Nat.le_of_ble_eq_true rfl) (fun A => ?_)
  generalize hQ : (fun (v : Option Value) S => v = none ∧ ∃ mn' gR' gQ' gL' gW', S = [sMo m B th mn' (nI Y.length) ln ap bg wr me fi fe wa wn fo st hl rf rt cu, CT, CH, cMO D B gR' gQ' gL', cMW D B gW'] ∧ PgIs gW' Y) = Q
  have ends : ∀ (ys : List Int32) (mn : Int32) (gR gQ : Nat → Int32) (gL : Nat → Int64) (g : Nat → Int32), PgIs g ys → ys ++ [77, 51, 48, 10] = Y → ∀ lv9 : List (Nat × Value), (∀ q ∈ [(0, Value.ref m)], q ∈ lv9) → ∀ k8 n8 : Nat, k8 ≤ 0 → n8 ≤ 0 → Ex l mMo_layText D R A (xQ D A Q) R.cells R.slots 239 lv9 [] [sMo m B th mn (nI ys.length) ln ap bg wr me fi fe wa wn fo st hl rf rt cu, CT, CH, cMO D B gR gQ gL, cMW D B g] k8 n8 := by
    intro ys mn gR gQ gL g hg e lv9 hlv k8 n8 hk8 hn8
    refine Ex.more (k' := 0) (n' := 0) hk8 hn8 ?_
    refine Ex.lv hlv ?_
    have hfit := fit e
    refine Ex.p rfl ?_
    refine Ex.p rfl ?_
    refine Ex.say rfl rfl (by omega) (by omega) (by omega) (by omega) hg (by omega) (by decide) (fun g1 hg1 => ?_)
    refine Ex.p rfl ?_
    refine Ex.p rfl ?_
    refine Ex.say rfl rfl (by omega) (by omega) (by omega) (by omega) hg1 (by simp; omega) (by decide) (fun g2 hg2 => ?_)
    refine Ex.p rfl ?_
    refine Ex.p rfl ?_
    refine Ex.say rfl rfl (by omega) (by omega) (by omega) (by omega) hg2 (by simp; omega) (by decide) (fun g3 hg3 => ?_)
    refine Ex.p rfl ?_
    refine Ex.p rfl ?_
    refine Ex.say rfl rfl (by omega) (by omega) (by omega) (by omega) hg3 (by simp; omega) (by decide) (fun g4 hg4 => ?_)
    have e9 : ys ++ [77] ++ [51] ++ [48] ++ [10] = Y := by
      rw [← e]
      simp
    have hg4 : PgIs g4 (ys ++ [77] ++ [51] ++ [48] ++ [10]) := hg4
    rw [e9] at hg4
    refine Ex.seg (S' := [sMo m B th mn (nI Y.length) ln ap bg wr me fi fe wa wn fo st hl rf rt cu, CT, CH, cMO D B gR gQ gL, cMW D B g4]) (by rw [← e9]; rfl) ?_
    refine Ex.vret rfl rfl (Nat.zero_le _) (Nat.zero_le _) rfl ?_
    subst hQ
    exact ⟨rfl, mn, gR, gQ, gL, g4, rfl, hg4⟩
  have hits : ∀ (k i : Nat) (ys : List Int32) (mn : Int32) (gR gQ : Nat → Int32) (gL : Nat → Int64) (g : Nat → Int32), (LT 0).length - i < k → i ≤ (LT 0).length → PgIs g ys → ys ++ (thits a9 b9 (LH 0) i ((LT 0).length - i) ++ [77, 51, 48, 10]) = Y → ∀ lv9 : List (Nat × Value), (∀ q ∈ [(3, Value.int (nI i)), (2, .int b9), (1, .int a9), (0, .ref m)], q ∈ lv9) → ∀ k8 n8 : Nat, k8 ≤ 0 → n8 ≤ 0 → Ex l mMo_layText D R A (xQ D A Q) R.cells R.slots 138 lv9 [] [sMo m B th mn (nI ys.length) ln ap bg wr me fi fe wa wn fo st hl rf rt cu, CT, CH, cMO D B gR gQ gL, cMW D B g] k8 n8 := by
    intro k
    induction k with
    | zero => intro i ys mn gR gQ gL g h; omega
    | succ k ih =>
      intro i ys mn gR gQ gL g hk hi hg e lv9 hlv k8 n8 hk8 hn8
      refine Ex.more (k' := 0) (n' := 0) hk8 hn8 ?_
      refine Ex.lv hlv ?_
      refine Ex.p rfl ?_
      refine Ex.p rfl ?_
      refine Ex.gf 0 0 rfl rfl rfl ?_
      refine Ex.p rfl ?_
      refine Ex.ial 1 0 0 rfl (by rw [eT]; rfl) rfl rfl (by decide) ?_
      rw [t1]
      refine Ex.br rfl (fun c => ?_) (fun c => ?_)
      · have c : nI (LT 0).length ≤ nI i := c
        rw [nI_leI (by omega) (by omega)] at c
        rw [show (LT 0).length - i = 0 by omega] at e
        refine ends ys mn gR gQ gL g hg e _ (fun q h => ?_) 0 0 (Nat.le_refl _) (Nat.le_refl _)
        simp only [List.mem_cons, List.not_mem_nil, or_false] at h
        rcases h with rfl <;> first | (simp [xs1, xs2, lv_args, Value.category, b32, nI]; done) | (simp [xs1, xs2, lv_args, Value.category, b32, nI]; decide) | (simp [xs1, xs2, lv_args, Value.category, b32, nI]; exact Or.inr (by decide)) | (simp [xs1, xs2, lv_args, Value.category, b32, nI]; exact Or.inl (by decide))
      · have c : ¬ nI (LT 0).length ≤ nI i := c
        rw [nI_leI (by omega) (by omega)] at c
        rw [show (LT 0).length - i = ((LT 0).length - (i + 1)) + 1 by omega] at e
        have e : ys ++ ((whits (nI i) a9 b9 false ((tor (LH 0) i).map (fun k => (LH 0).getD k ogv)) ++ thits a9 b9 (LH 0) (i + 1) ((LT 0).length - (i + 1))) ++ [77, 51, 48, 10]) = Y := e
        rw [List.append_assoc] at e
        refine Ex.p rfl ?_
        refine Ex.p rfl ?_
        refine Ex.cv (Mc := mMo_findOrder) (Rc := rm 4 0 0) (As := [.int (nI i)]) (rest := []) (Sr := [CT, cMW D B g]) (ic := 0) (jc := 0) (ci := 10) [0, 2, 3] [1, 4] (ct_Mo_findOrder iH hok (rm_ok _ _ _)) rfl lk_10_146 lcMo_findOrder rfl rfl rfl rfl rfl (by decide) rfl rfl rfl (by decide) ⟨by dsimp only [rm]; omega, by show 8 + (2 + 11) + 160 ≤ R.locals; omega⟩ (Nat.le_of_ble_eq_true rfl) (by first | (dsimp only [rm]; omega) | omega) (by first | (dsimp only [rm]; omega) | omega) ?_
        rintro v S1 ⟨rfl, gR1, gQ1, gL1, rfl, hO⟩
        obtain ⟨o1, o2, -⟩ := hO.is
        have hks : ∀ x ∈ tor (LH 0) i, x < (LH 0).length := fun x hx => tor_mem hx
        have hnl : (tns (LH 0) i).length ≤ (LH 0).length := tnsA_len (nI i) (LH 0) 0
        generalize hrest : thits a9 b9 (LH 0) (i + 1) ((LT 0).length - (i + 1)) ++ [77, 51, 48, 10] = rest at e
        generalize tor (LH 0) i = ks at e o1 o2 hks
        refine Ex.sub (S' := [sMo m B th (nI (tns (LH 0) i).length) (nI ys.length) ln ap bg wr me fi fe wa wn fo st hl rf rt cu, CT, CH, cMO D B gR1 gQ1 gL1, cMW D B g]) [2, 0, 3, 4, 1] rfl rfl ?_
        rw [← o1]
        rw [← o1] at o2 hnl
        have inner : ∀ (k j : Nat) (bf : Bool) (ys : List Int32) (g : Nat → Int32), ks.length - j < k → j ≤ ks.length → PgIs g ys → ys ++ (whits (nI i) a9 b9 bf ((ks.drop j).map (fun k => (LH 0).getD k ogv)) ++ rest) = Y → ∀ lv9 : List (Nat × Value), (∀ q ∈ [(5, Value.int (nI j)), (4, .int (b32 (!bf))), (3, .int (nI i)), (2, .int b9), (1, .int a9), (0, .ref m)], q ∈ lv9) → ∀ k8 n8 : Nat, k8 ≤ 0 → n8 ≤ 0 → Ex l mMo_layText D R A (xQ D A Q) R.cells R.slots 159 lv9 [] [sMo m B th (nI ks.length) (nI ys.length) ln ap bg wr me fi fe wa wn fo st hl rf rt cu, CT, CH, cMO D B gR1 gQ1 gL1, cMW D B g] k8 n8 := by
          intro k
          induction k with
          | zero => intro j bf ys g h; omega
          | succ k ihj =>
            intro j bf ys g hk hj hg e lv9 hlv k8 n8 hk8 hn8
            refine Ex.more (k' := 0) (n' := 0) hk8 hn8 ?_
            refine Ex.lv hlv ?_
            refine Ex.p rfl ?_
            refine Ex.p rfl ?_
            refine Ex.gf 0 0 rfl rfl rfl ?_
            refine Ex.br rfl (fun c1 => ?_) (fun c1 => ?_)
            · have c1 : nI ks.length ≤ nI j := c1
              rw [nI_leI (by omega) (by omega)] at c1
              have ej : j = ks.length := by omega
              rw [ej, List.drop_length] at e
              have e : ys ++ rest = Y := e
              refine Ex.p rfl ?_
              refine Ex.p rfl ?_
              rw [i_add1]
              refine ih (i + 1) ys (nI ks.length) gR1 gQ1 gL1 g (by omega) (by omega) hg (by rw [hrest]; exact e) _ (fun q h => ?_) 0 0 (Nat.le_refl _) (Nat.le_refl _)
              simp only [List.mem_cons, List.not_mem_nil, or_false] at h
              rcases h with rfl | rfl | rfl | rfl <;> first | (simp [xs1, xs2, lv_args, Value.category, b32, nI]; done) | (simp [xs1, xs2, lv_args, Value.category, b32, nI]; decide) | (simp [xs1, xs2, lv_args, Value.category, b32, nI]; exact Or.inr (by decide)) | (simp [xs1, xs2, lv_args, Value.category, b32, nI]; exact Or.inl (by decide))
            · have c1 : ¬ nI ks.length ≤ nI j := c1
              rw [nI_leI (by omega) (by omega)] at c1
              have hjk : j < ks.length := by omega
              have hh9 := hks _ (List.getElem_mem hjk)
              have egq : gQ1 j = nI ks[j] := by
                rw [o2 j hjk, List.getD_eq_getElem?_getD, List.getElem?_eq_getElem hjk]
                rfl
              have hat : (LH 0)[ks[j]]? = some ((LH 0).getD ks[j] ogv) := by
                rw [List.getD_eq_getElem?_getD, List.getElem?_eq_getElem hh9]
                rfl
              rw [List.drop_eq_getElem_cons hjk, List.map_cons] at e
              generalize (LH 0).getD ks[j] ogv = hh at hat e
              obtain ⟨-, -, -, -, -, q6, q7, -⟩ := h3 ks[j] hh hat
              rw [show 60 * 0 + ks[j] = ks[j] by omega] at q6 q7
              have hoh := hok hh (List.mem_of_getElem? hat)
              have hfit := fit e
              have s227 : ∀ (bf : Bool) (ys : List Int32) (g : Nat → Int32), PgIs g ys → ys ++ (whits (nI i) a9 b9 bf ((ks.drop (j + 1)).map (fun k => (LH 0).getD k ogv)) ++ rest) = Y → ∀ lv9 : List (Nat × Value), (∀ q ∈ [(5, Value.int (nI j)), (4, .int (b32 (!bf))), (3, .int (nI i)), (2, .int b9), (1, .int a9), (0, .ref m)], q ∈ lv9) → ∀ k8 n8 : Nat, k8 ≤ 0 → n8 ≤ 0 → Ex l mMo_layText D R A (xQ D A Q) R.cells R.slots 227 lv9 [] [sMo m B th (nI ks.length) (nI ys.length) ln ap bg wr me fi fe wa wn fo st hl rf rt cu, CT, CH, cMO D B gR1 gQ1 gL1, cMW D B g] k8 n8 := by
                intro bf ys g hg e lv9 hlv k8 n8 hk8 hn8
                refine Ex.lv hlv ?_
                refine Ex.p rfl ?_
                refine Ex.p rfl ?_
                rw [i_add1]
                refine ihj (j + 1) bf ys g (by omega) (by omega) hg e _ (fun q h => ?_) _ _ hk8 hn8
                simp only [List.mem_cons, List.not_mem_nil, or_false] at h
                rcases h with rfl | rfl | rfl | rfl | rfl | rfl <;> first | (simp [xs1, xs2, lv_args, Value.category, b32, nI]; done) | (simp [xs1, xs2, lv_args, Value.category, b32, nI]; decide) | (simp [xs1, xs2, lv_args, Value.category, b32, nI]; exact Or.inr (by decide)) | (simp [xs1, xs2, lv_args, Value.category, b32, nI]; exact Or.inl (by decide))
              unfold whits at e
              refine Ex.p rfl ?_
              refine Ex.gf 0 0 rfl rfl rfl ?_
              refine Ex.p rfl ?_
              refine Ex.ial 3 1 j rfl rfl rfl (nI_toInt (by omega)) (by omega) ?_
              rw [egq]
              refine Ex.p rfl ?_
              refine Ex.p rfl ?_
              refine Ex.gf 0 0 rfl rfl rfl ?_
              refine Ex.p rfl ?_
              refine Ex.ial 2 6 ks[j] rfl (by rw [eH]; rfl) rfl (nI_toInt (by omega)) (by omega) ?_
              rw [q6]
              refine Ex.p rfl ?_
              refine Ex.br rfl (fun c2 => ?_) (fun c2 => ?_)
              · have c2 : ¬ hh.2.2.2.2.2.1 = a9 := c2
                rw [if_neg (fun q => c2 q.1)] at e
                refine s227 bf ys g hg e _ (fun q h => ?_) 0 0 (Nat.le_refl _) (Nat.le_refl _)
                simp only [List.mem_cons, List.not_mem_nil, or_false] at h
                rcases h with rfl | rfl | rfl | rfl | rfl | rfl <;> first | (simp [xs1, xs2, lv_args, Value.category, b32, nI]; done) | (simp [xs1, xs2, lv_args, Value.category, b32, nI]; decide) | (simp [xs1, xs2, lv_args, Value.category, b32, nI]; exact Or.inr (by decide)) | (simp [xs1, xs2, lv_args, Value.category, b32, nI]; exact Or.inl (by decide))
              · have c2 : ¬ ¬ hh.2.2.2.2.2.1 = a9 := c2
                have c2 := Decidable.not_not.mp c2
                refine Ex.p rfl ?_
                refine Ex.gf 0 0 rfl rfl rfl ?_
                refine Ex.p rfl ?_
                refine Ex.ial 2 7 ks[j] rfl (by rw [eH]; rfl) rfl (nI_toInt (by omega)) (by omega) ?_
                rw [q7]
                refine Ex.p rfl ?_
                refine Ex.br rfl (fun c3 => ?_) (fun c3 => ?_)
                · have c3 : hh.2.2.2.2.2.2 = b9 := c3
                  rw [if_pos ⟨c2, c3⟩] at e
                  have s218 : ∀ (ys : List Int32) (g : Nat → Int32), PgIs g ys → ys ++ (hline hh ++ (whits (nI i) a9 b9 true ((ks.drop (j + 1)).map (fun k => (LH 0).getD k ogv)) ++ rest)) = Y → ∀ lv9 : List (Nat × Value), (∀ q ∈ [(6, Value.int (nI ks[j])), (5, .int (nI j)), (3, .int (nI i)), (2, .int b9), (1, .int a9), (0, .ref m)], q ∈ lv9) → Ex l mMo_layText D R A (xQ D A Q) R.cells R.slots 218 lv9 [] [sMo m B th (nI ks.length) (nI ys.length) ln ap bg wr me fi fe wa wn fo st hl rf rt cu, CT, CH, cMO D B gR1 gQ1 gL1, cMW D B g] 0 0 := by
                    intro ys g hg e lv9 hlv
                    refine Ex.lv hlv ?_
                    have hfit := fit e
                    refine Ex.p rfl ?_
                    refine Ex.p rfl ?_
                    refine Ex.p rfl ?_
                    refine Ex.p rfl ?_
                    refine Ex.cv (Mc := mMo_sayHit) (Rc := rm 3 0 0) (As := [.int (nI ks[j])]) (rest := []) (Sr := [CT, cMO D B gR1 gQ1 gL1]) (ic := 0) (jc := 0) (ci := 10) [0, 2, 4] [1, 3] (ct_Mo_sayHit iH hat hoh hg (by omega) (rm_ok _ _ _)) rfl lk_10_168 lcMo_sayHit rfl rfl rfl rfl rfl (by decide) rfl rfl rfl (by decide) ⟨by dsimp only [rm]; omega, by show 8 + (2 + 11) + 120 ≤ R.locals; omega⟩ (Nat.le_of_ble_eq_true rfl) (by first | (dsimp only [rm]; omega) | omega) (by first | (dsimp only [rm]; omega) | omega) ?_
                    rintro v S1 ⟨rfl, g1, rfl, hg1⟩
                    refine Ex.sub (S' := [sMo m B th (nI ks.length) _ ln ap bg wr me fi fe wa wn fo st hl rf rt cu, CT, CH, cMO D B gR1 gQ1 gL1, cMW D B g1]) [2, 0, 3, 1, 4] rfl rfl ?_
                    refine s227 true (ys ++ hline hh) g1 hg1 (by rw [List.append_assoc]; exact e) _ (fun q h => ?_) _ _ (by first | (dsimp only [rm]; omega) | omega) (by first | (dsimp only [rm]; omega) | omega)
                    rw [show b32 (!true) = Int32.ofInt 0 from rfl] at h
                    simp only [List.mem_cons, List.not_mem_nil, or_false] at h
                    rcases h with rfl | rfl | rfl | rfl | rfl | rfl <;> first | (simp [xs1, xs2, lv_args, Value.category, b32, nI]; done) | (simp [xs1, xs2, lv_args, Value.category, b32, nI]; decide) | (simp [xs1, xs2, lv_args, Value.category, b32, nI]; exact Or.inr (by decide)) | (simp [xs1, xs2, lv_args, Value.category, b32, nI]; exact Or.inl (by decide))
                  refine Ex.p rfl ?_
                  cases bf with
                  | true =>
                    refine Ex.br rfl (fun _ => ?_) (fun c => absurd rfl c)
                    refine s218 ys g hg (by simpa using e) _ (fun q h => ?_)
                    simp only [List.mem_cons, List.not_mem_nil, or_false] at h
                    rcases h with rfl | rfl | rfl | rfl | rfl | rfl <;> first | (simp [xs1, xs2, lv_args, Value.category, b32, nI]; done) | (simp [xs1, xs2, lv_args, Value.category, b32, nI]; decide) | (simp [xs1, xs2, lv_args, Value.category, b32, nI]; exact Or.inr (by decide)) | (simp [xs1, xs2, lv_args, Value.category, b32, nI]; exact Or.inl (by decide))
                  | false =>
                    refine Ex.br rfl (fun c => absurd c (show (1 : Int32) ≠ 0 by decide)) (fun _ => ?_)
                    refine Ex.p rfl ?_
                    refine Ex.p rfl ?_
                    refine Ex.sayT rfl rfl (by omega) (by omega) (by omega) (by omega) hg (by omega) (by omega) (by decide) (fun g1 hg1 => ?_)
                    have e2 : ys ++ part 84 (nI i) ++ ([10] ++ (hline hh ++ (whits (nI i) a9 b9 true ((ks.drop (j + 1)).map (fun k => (LH 0).getD k ogv)) ++ rest))) = Y := by
                      rw [← e]
                      simp
                    have hl2 := fit e2
                    refine Ex.p rfl ?_
                    refine Ex.p rfl ?_
                    refine Ex.say rfl rfl (by omega) (by omega) (by omega) (by omega) hg1 (by omega) (by decide) (fun g2 hg2 => ?_)
                    refine s218 _ g2 hg2 (by rw [← e2]; simp only [List.append_assoc]; rfl) _ (fun q h => ?_)
                    simp only [List.mem_cons, List.not_mem_nil, or_false] at h
                    rcases h with rfl | rfl | rfl | rfl | rfl | rfl <;> first | (simp [xs1, xs2, lv_args, Value.category, b32, nI]; done) | (simp [xs1, xs2, lv_args, Value.category, b32, nI]; decide) | (simp [xs1, xs2, lv_args, Value.category, b32, nI]; exact Or.inr (by decide)) | (simp [xs1, xs2, lv_args, Value.category, b32, nI]; exact Or.inl (by decide))
                · have c3 : ¬ hh.2.2.2.2.2.2 = b9 := c3
                  rw [if_neg (fun q => c3 q.2)] at e
                  refine Ex.p rfl ?_
                  refine s227 bf ys g hg e _ (fun q h => ?_) 0 0 (Nat.le_refl _) (Nat.le_refl _)
                  simp only [List.mem_cons, List.not_mem_nil, or_false] at h
                  rcases h with rfl | rfl | rfl | rfl | rfl | rfl <;> first | (simp [xs1, xs2, lv_args, Value.category, b32, nI]; done) | (simp [xs1, xs2, lv_args, Value.category, b32, nI]; decide) | (simp [xs1, xs2, lv_args, Value.category, b32, nI]; exact Or.inr (by decide)) | (simp [xs1, xs2, lv_args, Value.category, b32, nI]; exact Or.inl (by decide))
        refine Ex.p rfl ?_
        refine Ex.p rfl ?_
        refine Ex.p rfl ?_
        refine Ex.p rfl ?_
        refine inner (ks.length + 1) 0 false ys g (by omega) (by omega) hg e _ (fun q h => ?_) _ _ (by first | (dsimp only [rm]; omega) | omega) (by first | (dsimp only [rm]; omega) | omega)
        rw [show b32 (!false) = Int32.ofInt 1 from rfl] at h
        simp only [List.mem_cons, List.not_mem_nil, or_false] at h
        rcases h with rfl | rfl | rfl | rfl | rfl | rfl <;> first | (simp [xs1, xs2, lv_args, Value.category, b32, nI]; done) | (simp [xs1, xs2, lv_args, Value.category, b32, nI]; decide) | (simp [xs1, xs2, lv_args, Value.category, b32, nI]; exact Or.inr (by decide)) | (simp [xs1, xs2, lv_args, Value.category, b32, nI]; exact Or.inl (by decide))
  have tools : ∀ (k i : Nat) (ys : List Int32) (g : Nat → Int32), (LT 0).length - i < k → i ≤ (LT 0).length → PgIs g ys → ys ++ (tlines i ((LT 0).drop i) ++ ([37, 10] ++ (thits a9 b9 (LH 0) 0 (LT 0).length ++ [77, 51, 48, 10]))) = Y → ∀ lv9 : List (Nat × Value), (∀ q ∈ [(3, Value.int (nI i)), (2, .int b9), (1, .int a9), (0, .ref m)], q ∈ lv9) → Ex l mMo_layText D R A (xQ D A Q) R.cells R.slots 61 lv9 [] [sMo m B th mn (nI ys.length) ln ap bg wr me fi fe wa wn fo st hl rf rt cu, CT, CH, cMO D B gR gQ gL, cMW D B g] 0 0 := by
    intro k
    induction k with
    | zero => intro i ys g h; omega
    | succ k ih =>
      intro i ys g hk hi hg e lv9 hlv
      refine Ex.lv hlv ?_
      refine Ex.p rfl ?_
      refine Ex.p rfl ?_
      refine Ex.gf 0 0 rfl rfl rfl ?_
      refine Ex.p rfl ?_
      refine Ex.ial 1 0 0 rfl (by rw [eT]; rfl) rfl rfl (by decide) ?_
      rw [t1]
      have hfit := fit e
      refine Ex.br rfl (fun c => ?_) (fun c => ?_)
      · have c : nI (LT 0).length ≤ nI i := c
        rw [nI_leI (by omega) (by omega)] at c
        have ei : i = (LT 0).length := by omega
        rw [ei, List.drop_length] at e
        have e : ys ++ ([37, 10] ++ (thits a9 b9 (LH 0) 0 (LT 0).length ++ [77, 51, 48, 10])) = Y := e
        refine Ex.p rfl ?_
        refine Ex.p rfl ?_
        refine Ex.say rfl rfl (by omega) (by omega) (by omega) (by omega) hg (by omega) (by decide) (fun g1 hg1 => ?_)
        refine Ex.p rfl ?_
        refine Ex.p rfl ?_
        refine Ex.say rfl rfl (by omega) (by omega) (by omega) (by omega) hg1 (by simp; omega) (by decide) (fun g2 hg2 => ?_)
        refine Ex.p rfl ?_
        refine Ex.p rfl ?_
        refine hits ((LT 0).length + 1) 0 _ mn gR gQ gL g2 (by omega) (by omega) hg2 (by rw [← e]; simp only [List.append_assoc]; rfl) _ (fun q h => ?_) 0 0 (Nat.le_refl _) (Nat.le_refl _)
        simp only [List.mem_cons, List.not_mem_nil, or_false] at h
        rcases h with rfl | rfl | rfl | rfl <;> first | (simp [xs1, xs2, lv_args, Value.category, b32, nI]; done) | (simp [xs1, xs2, lv_args, Value.category, b32, nI]; decide) | (simp [xs1, xs2, lv_args, Value.category, b32, nI]; exact Or.inr (by decide)) | (simp [xs1, xs2, lv_args, Value.category, b32, nI]; exact Or.inl (by decide))
      · have c : ¬ nI (LT 0).length ≤ nI i := c
        rw [nI_leI (by omega) (by omega)] at c
        have hil : i < (LT 0).length := by omega
        have hat : (LT 0)[i]? = some (LT 0)[i] := List.getElem?_eq_getElem hil
        rw [List.drop_eq_getElem_cons hil] at e
        generalize (LT 0)[i] = t at hat e
        obtain ⟨d1, d2⟩ := t3 i t hat
        rw [show 10 * 0 + i = i by omega] at d1 d2
        have htk := htv t (List.mem_of_getElem? hat)
        unfold tvOK at htk
        have e : ys ++ ((part 84 (nI i) ++ (part 67 t.1 ++ ((if t.2 then [80, 10] else [78, 10]) ++ tlines (i + 1) ((LT 0).drop (i + 1))))) ++ ([37, 10] ++ (thits a9 b9 (LH 0) 0 (LT 0).length ++ [77, 51, 48, 10]))) = Y := e
        generalize hrest : [37, 10] ++ (thits a9 b9 (LH 0) 0 (LT 0).length ++ [77, 51, 48, 10]) = rest at e ih
        refine Ex.p rfl ?_
        refine Ex.p rfl ?_
        refine Ex.sayT rfl rfl (by omega) (by omega) (by omega) (by omega) hg (by omega) (by omega) (by decide) (fun g1 hg1 => ?_)
        have e1 : ys ++ part 84 (nI i) ++ ([67] ++ (numT t.1 ++ ((if t.2 then [80, 10] else [78, 10]) ++ (tlines (i + 1) ((LT 0).drop (i + 1)) ++ rest)))) = Y := by
          rw [← e, show part 67 t.1 = [67] ++ numT t.1 from rfl]
          simp only [List.append_assoc]
        have hl1 := fit e1
        refine Ex.p rfl ?_
        refine Ex.p rfl ?_
        refine Ex.say (u := 67) rfl rfl (by omega) (by omega) (by omega) (by omega) hg1 (by omega) (by decide) (fun g2 hg2 => ?_)
        refine Ex.p rfl ?_
        refine Ex.p rfl ?_
        refine Ex.gf 0 0 rfl rfl rfl ?_
        refine Ex.p rfl ?_
        refine Ex.lal 1 1 i rfl (by rw [eT]; rfl) rfl (nI_toInt (by omega)) (by omega) ?_
        rw [d1]
        have e2 : ys ++ part 84 (nI i) ++ [67] ++ (numT t.1 ++ ((if t.2 then [80, 10] else [78, 10]) ++ (tlines (i + 1) ((LT 0).drop (i + 1)) ++ rest))) = Y := by
          rw [← e1]
          simp only [List.append_assoc]
        have hl2 := fit e2
        refine Ex.sayN (x := t.1) rfl rfl (by omega) (by omega) (by omega) (by omega) hg2 (by omega) rfl (by omega) (by decide) (fun g3 hg3 => ?_)
        have e3 : ys ++ part 84 (nI i) ++ [67] ++ numT t.1 ++ ((if t.2 then [80, 10] else [78, 10]) ++ (tlines (i + 1) ((LT 0).drop (i + 1)) ++ rest)) = Y := by
          rw [← e2]
          simp only [List.append_assoc]
        have hl3 := fit e3
        refine Ex.p rfl ?_
        refine Ex.p rfl ?_
        refine Ex.gf 0 0 rfl rfl rfl ?_
        refine Ex.p rfl ?_
        refine Ex.zal 1 2 i rfl (by rw [eT]; rfl) rfl (nI_toInt (by omega)) (by omega) ?_
        rw [d2]
        have s109 : ∀ u : Int32, ys ++ part 84 (nI i) ++ [67] ++ numT t.1 ++ [u] ++ [10] ++ (tlines (i + 1) ((LT 0).drop (i + 1)) ++ rest) = Y → ∀ lv9 : List (Nat × Value), (∀ q ∈ [(3, Value.int (nI i)), (2, .int b9), (1, .int a9), (0, .ref m)], q ∈ lv9) → Ex l mMo_layText D R A (xQ D A Q) R.cells R.slots 109 lv9 [.int u, .ref m] [sMo m B th mn (nI (ys ++ part 84 (nI i) ++ [67] ++ numT t.1).length) ln ap bg wr me fi fe wa wn fo st hl rf rt cu, CT, CH, cMO D B gR gQ gL, cMW D B g3] 0 0 := by
          intro u e4 lv9 hlv
          refine Ex.lv hlv ?_
          have hl4 := fit e4
          simp only [List.length_append, List.length_singleton] at hl4
          refine Ex.say rfl rfl (by omega) (by omega) (by omega) (by omega) hg3 (by omega) (by decide) (fun g4 hg4 => ?_)
          refine Ex.p rfl ?_
          refine Ex.p rfl ?_
          refine Ex.say rfl rfl (by omega) (by omega) (by omega) (by omega) hg4 (by simp only [List.length_append, List.length_singleton]; omega) (by decide) (fun g5 hg5 => ?_)
          refine Ex.p rfl ?_
          refine Ex.p rfl ?_
          rw [i_add1]
          refine ih (i + 1) _ g5 (by omega) (by omega) hg5 e4 _ (fun q h => ?_)
          simp only [List.mem_cons, List.not_mem_nil, or_false] at h
          rcases h with rfl | rfl | rfl | rfl <;> first | (simp [xs1, xs2, lv_args, Value.category, b32, nI]; done) | (simp [xs1, xs2, lv_args, Value.category, b32, nI]; decide) | (simp [xs1, xs2, lv_args, Value.category, b32, nI]; exact Or.inr (by decide)) | (simp [xs1, xs2, lv_args, Value.category, b32, nI]; exact Or.inl (by decide))
        cases ht2 : t.2 with
        | false =>
          rw [ht2] at e3
          refine Ex.br rfl (fun _ => ?_) (fun c => absurd rfl c)
          refine Ex.p rfl ?_
          refine s109 78 (by rw [← e3]; simp) _ (fun q h => ?_)
          simp only [List.mem_cons, List.not_mem_nil, or_false] at h
          rcases h with rfl | rfl | rfl | rfl <;> first | (simp [xs1, xs2, lv_args, Value.category, b32, nI]; done) | (simp [xs1, xs2, lv_args, Value.category, b32, nI]; decide) | (simp [xs1, xs2, lv_args, Value.category, b32, nI]; exact Or.inr (by decide)) | (simp [xs1, xs2, lv_args, Value.category, b32, nI]; exact Or.inl (by decide))
        | true =>
          rw [ht2] at e3
          refine Ex.br rfl (fun c => absurd c (show (1 : Int32) ≠ 0 by decide)) (fun _ => ?_)
          refine Ex.p rfl ?_
          refine Ex.p rfl ?_
          refine s109 80 (by rw [← e3]; simp) _ (fun q h => ?_)
          simp only [List.mem_cons, List.not_mem_nil, or_false] at h
          rcases h with rfl | rfl | rfl | rfl <;> first | (simp [xs1, xs2, lv_args, Value.category, b32, nI]; done) | (simp [xs1, xs2, lv_args, Value.category, b32, nI]; decide) | (simp [xs1, xs2, lv_args, Value.category, b32, nI]; exact Or.inr (by decide)) | (simp [xs1, xs2, lv_args, Value.category, b32, nI]; exact Or.inl (by decide))
  unfold layOK at ha hb
  refine Ex.p rfl ?_
  refine Ex.p rfl ?_
  refine Ex.pf 0 0 rfl rfl rfl rfl rfl rfl ?_
  refine Ex.seg (S' := [sMo m B th mn (nI ([] : List Int32).length) ln ap bg wr me fi fe wa wn fo st hl rf rt cu, CT, CH, cMO D B gR gQ gL, cMW D B gW]) rfl ?_
  refine Ex.p rfl ?_
  refine Ex.p rfl ?_
  refine Ex.say rfl rfl (by omega) (by omega) (by omega) (by omega) (fun j h => by simp at h) (by simp) (by decide) (fun g1 hg1 => ?_)
  refine Ex.p rfl ?_
  refine Ex.p rfl ?_
  refine Ex.say rfl rfl (by omega) (by omega) (by omega) (by omega) hg1 (by simp) (by decide) (fun g2 hg2 => ?_)
  refine Ex.p rfl ?_
  refine Ex.p rfl ?_
  refine Ex.say rfl rfl (by omega) (by omega) (by omega) (by omega) hg2 (by simp) (by decide) (fun g3 hg3 => ?_)
  refine Ex.p rfl ?_
  refine Ex.p rfl ?_
  refine Ex.say rfl rfl (by omega) (by omega) (by omega) (by omega) hg3 (by simp) (by decide) (fun g4 hg4 => ?_)
  refine Ex.p rfl ?_
  refine Ex.p rfl ?_
  refine Ex.say rfl rfl (by omega) (by omega) (by omega) (by omega) hg4 (by simp) (by decide) (fun g5 hg5 => ?_)
  have la9 := numT_len a9
  have lb9 := numT_len b9
  refine Ex.p rfl ?_
  refine Ex.p rfl ?_
  refine Ex.p rfl ?_
  refine Ex.sayN (x := a9) rfl rfl (by omega) (by omega) (by omega) (by omega) hg5 (by simp) rfl (by omega) (by decide) (fun g6 hg6 => ?_)
  refine Ex.p rfl ?_
  refine Ex.p rfl ?_
  refine Ex.say rfl rfl (by omega) (by omega) (by omega) (by omega) hg6 (by simp; omega) (by decide) (fun g7 hg7 => ?_)
  refine Ex.p rfl ?_
  refine Ex.p rfl ?_
  refine Ex.p rfl ?_
  refine Ex.sayN (x := b9) rfl rfl (by omega) (by omega) (by omega) (by omega) hg7 (by simp; omega) rfl (by omega) (by decide) (fun g8 hg8 => ?_)
  refine Ex.p rfl ?_
  refine Ex.p rfl ?_
  refine Ex.say rfl rfl (by omega) (by omega) (by omega) (by omega) hg8 (by simp; omega) (by decide) (fun g9 hg9 => ?_)
  refine Ex.p rfl ?_
  refine Ex.p rfl ?_
  refine tools ((LT 0).length + 1) 0 _ g9 (by omega) (by omega) hg9 ?_ _ (fun q h => ?_)
  · rw [List.drop_zero, ← hY, show part 76 a9 = 76 :: numT a9 from rfl, show part 44 b9 = 44 :: numT b9 from rfl]
    simp
  · simp only [List.mem_cons, List.not_mem_nil, or_false] at h
    rcases h with rfl | rfl | rfl | rfl <;> first | (simp [xs1, xs2, lv_args, Value.category, b32, nI]; done) | (simp [xs1, xs2, lv_args, Value.category, b32, nI]; decide) | (simp [xs1, xs2, lv_args, Value.category, b32, nI]; exact Or.inr (by decide)) | (simp [xs1, xs2, lv_args, Value.category, b32, nI]; exact Or.inl (by decide))
end MOF

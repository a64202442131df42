/-! the reference: walk, open_ -/
def msk (rs : List Nat) : Nat := rs.foldl (fun s r => s ||| 2 ^ r) 0
theorem msk_snoc (rs : List Nat) (r : Nat) : msk (rs ++ [r]) = msk rs ||| 2 ^ r := by
  unfold msk
  rw [List.foldl_append]
  rfl
theorem bit_1 : ∀ s, s < 256 → ∀ n, n < 8 → (((nI s >>> (nI n &&& 31)) &&& Int32.ofInt 1) = Int32.ofInt 1 ↔ s.testBit n = true) := by decide +kernel
def wOf (bs : List Nat) : Option (List (Nat × List Nat) × Nat) := if bs.length = 0 ∨ 8 < bs.getD 0 0 then none else tkAll bs (bs.getD 0 0) [] 1
def LayF (fl : List (Nat × List Nat)) (gr gs gb : Nat → Int32) : Prop := ∀ i x, fl[i]? = some x → gr i = nI x.1 ∧ gs i = nI x.2.length ∧ x.1 < 8 ∧ x.2.length ≤ 300 ∧ ∀ (j : Nat) (h : j < x.2.length), gb (300 * i + j) = nI x.2[j] ∧ x.2[j] < 256
def LayW (lays : Bool) (fl : List (Nat × List Nat)) (gr gs gb gr0 gs0 gb0 : Nat → Int32) : Prop := if lays = true then LayF fl gr gs gb else gr = gr0 ∧ gs = gs0 ∧ gb = gb0
theorem tkAll_len {bs : List Nat} : ∀ {k : Nat} {rs : List Nat} {p : Nat} {y : List (Nat × List Nat) × Nat}, tkAll bs k rs p = some y → y.1.length = k
  | 0, _, _, _, h => by cases h; rfl
  | k + 1, rs, p, y, h => by
    unfold tkAll at h
    cases hx : tkF bs rs p with
    | none => rw [hx] at h; cases h
    | some x =>
      rw [hx] at h
      dsimp only at h
      cases hy : tkAll bs k (rs ++ [x.1]) x.2.2 with
      | none => rw [hy] at h; cases h
      | some w =>
        rw [hy] at h
        cases h
        show w.1.length + 1 = k + 1
        rw [tkAll_len hy]
section MO7
variable {l : Launch} {D : xD} {R : Room}
theorem ct_Mo_walk {m : Nat} {B : Nat → Nat} {bs : List Nat} {lays : Bool} {th mn la ln ap bg wr fi wa wn fo st rf rt cu : Int32} {me hl : Bool} {gr0 gs0 gb0 : Nat → Int32} {CE : va_W} (hE : IsME D B bs CE) (hsucc : lays = true → wOf bs ≠ none) : Ct l mMo_walk D R [.ref m, .int (b32 lays)] [sMo m B th mn la ln ap bg wr me fi (nI bs.length) wa wn fo st hl rf rt cu, cMF D B gr0 gs0 gb0, CE] (fun v S => (v = some (.int (-1)) ∧ wOf bs = none ∧ S = [sMo m B th mn la ln ap bg wr me fi (nI bs.length) wa wn fo st hl rf rt cu, cMF D B gr0 gs0 gb0, CE]) ∨ (∃ y gr gs gb, wOf bs = some y ∧ v = some (.int (nI y.2)) ∧ S = [sMo m B th mn la ln ap bg wr me fi (nI bs.length) wa wn fo st hl rf rt cu, cMF D B gr gs gb, CE] ∧ LayW lays y.1 gr gs gb gr0 gs0 gb0)) := by
  obtain ⟨gd, rfl, hl26, hgd⟩ := hE
  have hgD : ∀ j, j < bs.length → gd j = nI (bs.getD j 0) := by
    intro j hj
    rw [(hgd j hj).1, List.getD_eq_getElem?_getD, List.getElem?_eq_getElem hj]
    rfl
  have h256 : ∀ j, bs.getD j 0 < 256 := by
    intro j
    rcases Nat.lt_or_ge j bs.length with q | q
    · rw [List.getD_eq_getElem?_getD, List.getElem?_eq_getElem q]
      exact (hgd j q).2
    · rw [List.getD_eq_getElem?_getD, List.getElem?_eq_none q]
      decide
  refine Ct.of rfl (by decide) tkMo_walk (Nat.le_of_ble_eq_true rfl) (fun A => ?_)
  generalize hQ : (fun (v : Option Value) S => (v = some (.int (-1)) ∧ wOf bs = none ∧ S = [sMo m B th mn la ln ap bg wr me fi (nI bs.length) wa wn fo st hl rf rt cu, cMF D B gr0 gs0 gb0, cME D B gd]) ∨ (∃ y gr gs gb, wOf bs = some y ∧ v = some (.int (nI y.2)) ∧ S = [sMo m B th mn la ln ap bg wr me fi (nI bs.length) wa wn fo st hl rf rt cu, cMF D B gr gs gb, cME D B gd] ∧ LayW lays y.1 gr gs gb gr0 gs0 gb0)) = Q
  have bad : ∀ (gr gs gb : Nat → Int32), wOf bs = none → (lays = false → gr = gr0 ∧ gs = gs0 ∧ gb = gb0) → Q (some (.int (-1))) [sMo m B th mn la ln ap bg wr me fi (nI bs.length) wa wn fo st hl rf rt cu, cMF D B gr gs gb, cME D B gd] := by
    intro gr gs gb hw he
    subst hQ
    cases lays with
    | true => exact absurd hw (hsucc rfl)
    | false =>
      obtain ⟨rfl, rfl, rfl⟩ := he rfl
      exact Or.inl ⟨rfl, hw, rfl⟩
  refine Ex.p rfl ?_
  refine Ex.gf 0 0 rfl rfl rfl ?_
  have s18 : wOf bs = none → Ex l mMo_walk D R A (xQ D A Q) R.cells R.slots 18 (lv_args 0 [.ref m, .int (b32 lays)]) [] [sMo m B th mn la ln ap bg wr me fi (nI bs.length) wa wn fo st hl rf rt cu, cMF D B gr0 gs0 gb0, cME D B gd] 0 0 := by
    intro hw
    refine Ex.p rfl ?_
    exact Ex.iret rfl rfl (Nat.zero_le _) (Nat.zero_le _) rfl (bad _ _ _ hw (fun _ => ⟨rfl, rfl, rfl⟩))
  refine Ex.br rfl (fun c => ?_) (fun c => ?_)
  · have c : nI bs.length = nI 0 := c
    rw [nI_eq (by omega) (by omega)] at c
    exact s18 (by unfold wOf; rw [if_pos (Or.inl c)])
  · have c : ¬ nI bs.length = nI 0 := c
    rw [nI_eq (by omega) (by omega)] at c
    have hb0 := h256 0
    refine Ex.p rfl ?_
    refine Ex.gf 0 0 rfl rfl rfl ?_
    refine Ex.p rfl ?_
    refine Ex.ial 2 0 0 rfl rfl rfl rfl (by decide) ?_
    rw [hgD 0 (by omega)]
    refine Ex.p rfl ?_
    refine Ex.br rfl (fun c1 => ?_) (fun c1 => ?_)
    · have c1 : nI (bs.getD 0 0) ≤ nI 8 := c1
      rw [nI_leI (by omega) (by omega)] at c1
      have ew : wOf bs = tkAll bs (bs.getD 0 0) [] 1 := by unfold wOf; rw [if_neg (by omega)]
      generalize hK : bs.getD 0 0 = K at ew c1 hb0
      have loop : ∀ (k f p : Nat) (fl0 : List (Nat × List Nat)) (gr gs gb : Nat → Int32), K - f < k → f ≤ K → fl0.length = f → 1 ≤ p → p ≤ bs.length → (∀ x ∈ fl0, x.1 < 8) → msk (fl0.map (fun x => x.1)) < 256 → (∀ q, (msk (fl0.map (fun x => x.1))).testBit q = decide (q ∈ fl0.map (fun x => x.1))) → wOf bs = (tkAll bs (K - f) (fl0.map (fun x => x.1)) p).map (fun y => (fl0 ++ y.1, y.2)) → LayW lays fl0 gr gs gb gr0 gs0 gb0 → ∀ lv9 : List (Nat × Value), (∀ q ∈ [(4, Value.int (nI f)), (3, .int (nI (msk (fl0.map (fun x => x.1))))), (2, .int (nI p)), (1, .int (b32 lays)), (0, .ref m)], q ∈ lv9) →
          Ex l mMo_walk D R A (xQ D A Q) R.cells R.slots 27 lv9 [] [sMo m B th mn la ln ap bg wr me fi (nI bs.length) wa wn fo st hl rf rt cu, cMF D B gr gs gb, cME D B gd] 0 0 := by
        intro k
        induction k with
        | zero => intro f p fl0 gr gs gb h; omega
        | succ k ih =>
          intro f p fl0 gr gs gb hk hf hfl hp1 hp hro hm1 hm2 hw hL lv9 hlv
          have he0 : lays = false → gr = gr0 ∧ gs = gs0 ∧ gb = gb0 := by
            intro e
            unfold LayW at hL
            rw [e, if_neg (by decide)] at hL
            exact hL
          refine Ex.lv hlv ?_
          refine Ex.p rfl ?_
          refine Ex.p rfl ?_
          refine Ex.gf 0 0 rfl rfl rfl ?_
          refine Ex.p rfl ?_
          refine Ex.ial 2 0 0 rfl rfl rfl rfl (by decide) ?_
          rw [hgD 0 (by omega), hK]
          refine Ex.br rfl (fun g => ?_) (fun g => ?_)
          · have g : nI K ≤ nI f := g
            rw [nI_leI (by omega) (by omega)] at g
            have eK : K - f = 0 := by omega
            rw [eK] at hw
            have hw : wOf bs = some (fl0 ++ [], p) := hw
            rw [List.append_nil] at hw
            refine Ex.p rfl ?_
            refine Ex.iret rfl rfl (Nat.zero_le _) (Nat.zero_le _) rfl ?_
            subst hQ
            exact Or.inr ⟨_, gr, gs, gb, hw, rfl, rfl, hL⟩
          · have g : ¬ nI K ≤ nI f := g
            rw [nI_leI (by omega) (by omega)] at g
            have eK : K - f = (K - (f + 1)) + 1 := by omega
            rw [eK] at hw
            have fail : tkF bs (fl0.map (fun x => x.1)) p = none → wOf bs = none := by
              intro hx
              unfold tkAll at hw
              rw [hx] at hw
              exact hw
            refine Ex.p rfl ?_
            refine Ex.p rfl ?_
            refine Ex.p rfl ?_
            rw [show nI p + Int32.ofInt 3 = nI (p + 3) from nI_add p 3]
            refine Ex.p rfl ?_
            refine Ex.gf 0 0 rfl rfl rfl ?_
            refine Ex.br rfl (fun g1 => ?_) (fun g1 => ?_)
            · have g1 : nI (p + 3) ≤ nI bs.length := g1
              rw [nI_leI (by omega) (by omega)] at g1
              have hr9 := h256 p
              have hn1 := h256 (p + 1)
              have hn2 := h256 (p + 2)
              refine Ex.p rfl ?_
              refine Ex.gf 0 0 rfl rfl rfl ?_
              refine Ex.p rfl ?_
              refine Ex.ial 2 0 p rfl rfl rfl (nI_toInt (by omega)) (by omega) ?_
              rw [hgD p (by omega)]
              refine Ex.p rfl ?_
              refine Ex.p rfl ?_
              refine Ex.gf 0 0 rfl rfl rfl ?_
              refine Ex.p rfl ?_
              refine Ex.p rfl ?_
              refine Ex.p rfl ?_
              rw [show nI p + Int32.ofInt 1 = nI (p + 1) from nI_add p 1]
              refine Ex.ial 2 0 (p + 1) rfl rfl rfl (nI_toInt (by omega)) (by omega) ?_
              rw [hgD (p + 1) (by omega)]
              refine Ex.p rfl ?_
              refine Ex.p rfl ?_
              refine Ex.gf 0 0 rfl rfl rfl ?_
              refine Ex.p rfl ?_
              refine Ex.p rfl ?_
              refine Ex.p rfl ?_
              rw [show nI p + Int32.ofInt 2 = nI (p + 2) from nI_add p 2]
              refine Ex.ial 2 0 (p + 2) rfl rfl rfl (nI_toInt (by omega)) (by omega) ?_
              rw [hgD (p + 2) (by omega)]
              refine Ex.p rfl ?_
              rw [show (Int16.ofInt 256).toInt32 * nI (bs.getD (p + 2) 0) = nI (256 * bs.getD (p + 2) 0) from pk_mul 256 _]
              refine Ex.p rfl ?_
              rw [nI_add]
              generalize hro9 : bs.getD p 0 = ro at hr9
              generalize hnn : bs.getD (p + 1) 0 + 256 * bs.getD (p + 2) 0 = nn
              have hnn9 : nn < 70000 := by omega
              refine Ex.p rfl ?_
              refine Ex.p rfl ?_
              rw [show nI p + Int32.ofInt 3 = nI (p + 3) from nI_add p 3]
              have s122 : tkF bs (fl0.map (fun x => x.1)) p = none → ∀ lv9 : List (Nat × Value), Ex l mMo_walk D R A (xQ D A Q) R.cells R.slots 122 lv9 [] [sMo m B th mn la ln ap bg wr me fi (nI bs.length) wa wn fo st hl rf rt cu, cMF D B gr gs gb, cME D B gd] 0 0 := by
                intro hx lv9
                refine Ex.p rfl ?_
                exact Ex.iret rfl rfl (Nat.zero_le _) (Nat.zero_le _) rfl (bad _ _ _ (fail hx) he0)
              refine Ex.p rfl ?_
              refine Ex.p rfl ?_
              refine Ex.br rfl (fun g2 => ?_) (fun g2 => ?_)
              · have g2 : nI 7 < nI ro := g2
                rw [nI_ltI (by omega) (by omega)] at g2
                refine s122 ?_ _
                unfold tkF
                rw [if_neg (by omega), hro9, hnn]
                split
                · rfl
                · rw [if_pos (Or.inl (by omega))]
              · have g2 : ¬ nI 7 < nI ro := g2
                rw [nI_ltI (by omega) (by omega)] at g2
                refine Ex.p rfl ?_
                refine Ex.p rfl ?_
                refine Ex.p rfl ?_
                refine Ex.p rfl ?_
                refine Ex.p rfl ?_
                refine Ex.p rfl ?_
                refine Ex.br rfl (fun g3 => ?_) (fun g3 => ?_)
                · have g3 := (bit_1 _ hm1 ro (by omega)).mp g3
                  rw [hm2] at g3
                  have g3 := of_decide_eq_true g3
                  refine s122 ?_ _
                  unfold tkF
                  rw [if_neg (by omega), hro9, hnn]
                  split
                  · rfl
                  · rw [if_pos (Or.inr (Or.inl g3))]
                · have g3 : ¬ ro ∈ fl0.map (fun x => x.1) := by
                    intro q
                    apply g3
                    refine (bit_1 _ hm1 ro (by omega)).mpr ?_
                    rw [hm2]
                    exact decide_eq_true q
                  refine Ex.p rfl ?_
                  refine Ex.p rfl ?_
                  refine Ex.br rfl (fun g4 => ?_) (fun g4 => ?_)
                  · have g4 : nI 300 < nI nn := g4
                    rw [nI_ltI (by omega) (by omega)] at g4
                    refine s122 ?_ _
                    unfold tkF
                    rw [if_neg (by omega), hro9, hnn, if_pos (Or.inl (by omega))]
                  · have g4 : ¬ nI 300 < nI nn := g4
                    rw [nI_ltI (by omega) (by omega)] at g4
                    refine Ex.p rfl ?_
                    refine Ex.p rfl ?_
                    refine Ex.p rfl ?_
                    rw [nI_add]
                    refine Ex.p rfl ?_
                    refine Ex.p rfl ?_
                    rw [show nI (p + 3 + nn) + Int32.ofInt 2 = nI (p + 3 + nn + 2) from nI_add _ 2]
                    refine Ex.p rfl ?_
                    refine Ex.gf 0 0 rfl rfl rfl ?_
                    refine Ex.br rfl (fun g5 => ?_) (fun g5 => ?_)
                    · have g5 : nI (p + 3 + nn + 2) ≤ nI bs.length := g5
                      rw [nI_leI (by omega) (by omega)] at g5
                      have hdl : ((bs.drop (p + 3)).take nn).length = nn := by
                        rw [List.length_take, List.length_drop]
                        omega
                      have hdj : ∀ (j : Nat) (h : j < ((bs.drop (p + 3)).take nn).length), ((bs.drop (p + 3)).take nn)[j] = bs.getD (p + 3 + j) 0 := by
                        intro j h
                        rw [List.getElem_take, List.getElem_drop, List.getD_eq_getElem?_getD, List.getElem?_eq_getElem (by omega)]
                        rfl
                      have etk : tkF bs (fl0.map (fun x => x.1)) p = if fsum ((bs.drop (p + 3)).take nn) = bs.getD (p + 3 + nn) 0 + 256 * bs.getD (p + 3 + nn + 1) 0 then some (ro, (bs.drop (p + 3)).take nn, p + 3 + nn + 2) else none := by
                        unfold tkF
                        rw [if_neg (by omega), hro9, hnn, if_neg (by omega), if_neg]
                        rw [List.length_map]
                        intro q
                        rcases q with q | q | q
                        · omega
                        · exact g3 q
                        · omega
                      generalize hdd : (bs.drop (p + 3)).take nn = dd at hdl hdj etk
                      have hdb : ∀ (j : Nat) (h : j < dd.length), gd (p + 3 + j) = nI dd[j] ∧ dd[j] < 256 := by
                        intro j h
                        rw [hdj j h]
                        exact ⟨hgD _ (by omega), h256 _⟩
                      have hor := bit_or _ hm1 ro (by omega)
                      refine Ex.p rfl ?_
                      refine Ex.p rfl ?_
                      refine Ex.p rfl ?_
                      refine Ex.p rfl ?_
                      refine Ex.p rfl ?_
                      rw [show (nI (msk (fl0.map (fun x => x.1))) ||| (Int32.ofInt 1 <<< (nI ro &&& 31))) = nI (msk (fl0.map (fun x => x.1)) ||| 2 ^ ro) from hor.1]
                      refine Ex.p rfl ?_
                      refine Ex.p rfl ?_
                      refine Ex.p rfl ?_
                      refine Ex.p rfl ?_
                      refine Ex.p rfl ?_
                      have s238 : ∀ (gr gs gb : Nat → Int32), LayW lays (fl0 ++ [(ro, dd)]) gr gs gb gr0 gs0 gb0 → ∀ lv9 : List (Nat × Value), (∀ q ∈ [(7, Value.int (nI (fsum dd))), (6, .int (nI nn)), (4, .int (nI f)), (3, .int (nI (msk (fl0.map (fun x => x.1)) ||| 2 ^ ro))), (2, .int (nI (p + 3))), (1, .int (b32 lays)), (0, .ref m)], q ∈ lv9) → Ex l mMo_walk D R A (xQ D A Q) R.cells R.slots 238 lv9 [] [sMo m B th mn la ln ap bg wr me fi (nI bs.length) wa wn fo st hl rf rt cu, cMF D B gr gs gb, cME D B gd] 0 0 := by
                        intro gr gs gb hL9 lv9 hlv
                        refine Ex.lv hlv ?_
                        have hfs := fsum_lt dd
                        have he9 : lays = false → gr = gr0 ∧ gs = gs0 ∧ gb = gb0 := by
                          intro e
                          unfold LayW at hL9
                          rw [e, if_neg (by decide)] at hL9
                          exact hL9
                        have hs1 := h256 (p + 3 + nn)
                        have hs2 := h256 (p + 3 + nn + 1)
                        refine Ex.p rfl ?_
                        refine Ex.p rfl ?_
                        refine Ex.p rfl ?_
                        rw [nI_add]
                        refine Ex.p rfl ?_
                        refine Ex.p rfl ?_
                        refine Ex.p rfl ?_
                        refine Ex.gf 0 0 rfl rfl rfl ?_
                        refine Ex.p rfl ?_
                        refine Ex.ial 2 0 (p + 3 + nn) rfl rfl rfl (nI_toInt (by omega)) (by omega) ?_
                        rw [hgD _ (by omega)]
                        refine Ex.p rfl ?_
                        refine Ex.p rfl ?_
                        refine Ex.gf 0 0 rfl rfl rfl ?_
                        refine Ex.p rfl ?_
                        refine Ex.p rfl ?_
                        refine Ex.p rfl ?_
                        rw [show nI (p + 3 + nn) + Int32.ofInt 1 = nI (p + 3 + nn + 1) from nI_add _ 1]
                        refine Ex.ial 2 0 (p + 3 + nn + 1) rfl rfl rfl (nI_toInt (by omega)) (by omega) ?_
                        rw [hgD _ (by omega)]
                        refine Ex.p rfl ?_
                        rw [show (Int16.ofInt 256).toInt32 * nI (bs.getD (p + 3 + nn + 1) 0) = nI (256 * bs.getD (p + 3 + nn + 1) 0) from pk_mul 256 _]
                        refine Ex.p rfl ?_
                        rw [nI_add]
                        refine Ex.br rfl (fun g6 => ?_) (fun g6 => ?_)
                        · have g6 : nI (fsum dd) = nI (bs.getD (p + 3 + nn) 0 + 256 * bs.getD (p + 3 + nn + 1) 0) := g6
                          rw [nI_eq (by omega) (by omega)] at g6
                          rw [if_pos g6] at etk
                          refine Ex.p rfl ?_
                          rw [show nI (p + 3 + nn) + Int32.ofInt 2 = nI (p + 3 + nn + 2) from nI_add _ 2]
                          refine Ex.p rfl ?_
                          refine Ex.p rfl ?_
                          rw [i_add1]
                          have em : (fl0 ++ [(ro, dd)]).map (fun x => x.1) = fl0.map (fun x => x.1) ++ [ro] := by simp
                          refine ih (f + 1) (p + 3 + nn + 2) (fl0 ++ [(ro, dd)]) gr gs gb (by omega) (by omega) (by simp; omega) (by omega) (by omega) ?_ ?_ ?_ ?_ hL9 _ (fun q h => ?_)
                          · intro x hx
                            rcases List.mem_append.mp hx with hx | hx
                            · exact hro x hx
                            · rw [List.mem_singleton.mp hx]
                              show ro < 8
                              omega
                          · rw [em, msk_snoc]
                            exact hor.2
                          · intro q
                            rw [em, msk_snoc, Nat.testBit_or, hm2, Nat.testBit_two_pow]
                            by_cases h1 : q ∈ fl0.map (fun x => x.1)
                            · simp [h1]
                            · by_cases h2 : ro = q
                              · simp [h2]
                              · have : ¬ q = ro := fun e => h2 e.symm
                                simp [h1, h2, this]
                          · rw [hw, em]
                            conv => lhs; unfold tkAll
                            rw [etk]
                            dsimp only
                            cases tkAll bs (K - (f + 1)) (fl0.map (fun x => x.1) ++ [ro]) (p + 3 + nn + 2) with
                            | none => rfl
                            | some y => simp
                          · rw [em, msk_snoc] at h
                            revert h
                            intro h
                            simp only [List.mem_cons, List.not_mem_nil, or_false] at h
                            rcases h with rfl | rfl | rfl | rfl | rfl <;> first | (simp [xs1, lv_args, Value.category, b32, nI]; done) | (simp [xs1, lv_args, Value.category, b32, nI]; decide) | (simp [xs1, lv_args, Value.category, b32, nI]; exact Or.inr (by decide)) | (simp [xs1, lv_args, Value.category, b32, nI]; exact Or.inl (by decide))
                        · have g6 : ¬ nI (fsum dd) = nI (bs.getD (p + 3 + nn) 0 + 256 * bs.getD (p + 3 + nn + 1) 0) := g6
                          rw [nI_eq (by omega) (by omega)] at g6
                          rw [if_neg g6] at etk
                          refine Ex.p rfl ?_
                          exact Ex.iret rfl rfl (Nat.zero_le _) (Nat.zero_le _) rfl (bad _ _ _ (fail etk) he9)
                      have bytes : ∀ (k j : Nat) (gb9 : Nat → Int32), nn - j < k → j ≤ nn → (lays = false → gb9 = gb) → (∀ (i : Nat), i < 300 * f → gb9 i = gb i) → (lays = true → ∀ (q : Nat) (h : q < dd.length), q < j → gb9 (300 * f + q) = nI dd[q]) → ∀ lv9 : List (Nat × Value), (∀ q ∈ [(8, Value.int (nI j)), (7, .int (nI (fsum dd))), (6, .int (nI nn)), (5, .int (nI ro)), (4, .int (nI f)), (3, .int (nI (msk (fl0.map (fun x => x.1)) ||| 2 ^ ro))), (2, .int (nI (p + 3))), (1, .int (b32 lays)), (0, .ref m)], q ∈ lv9) → Ex l mMo_walk D R A (xQ D A Q) R.cells R.slots 176 lv9 [] [sMo m B th mn la ln ap bg wr me fi (nI bs.length) wa wn fo st hl rf rt cu, cMF D B gr gs gb9, cME D B gd] 0 0 := by
                        intro k
                        induction k with
                        | zero => intro j gb9 h; omega
                        | succ k ihb =>
                          intro j gb9 hk hj e1 e2 e3 lv9 hlv
                          refine Ex.lv hlv ?_
                          have s216 : (lays = true → j = nn) → Ex l mMo_walk D R A (xQ D A Q) R.cells R.slots 216 [(8, Value.int (nI j)), (7, .int (nI (fsum dd))), (6, .int (nI nn)), (5, .int (nI ro)), (4, .int (nI f)), (3, .int (nI (msk (fl0.map (fun x => x.1)) ||| 2 ^ ro))), (2, .int (nI (p + 3))), (1, .int (b32 lays)), (0, .ref m)] [] [sMo m B th mn la ln ap bg wr me fi (nI bs.length) wa wn fo st hl rf rt cu, cMF D B gr gs gb9, cME D B gd] 0 0 := by
                            intro hjn
                            refine Ex.p rfl ?_
                            cases lays with
                            | false =>
                              refine Ex.br rfl (fun _ => ?_) (fun c => absurd rfl c)
                              have eg := e1 rfl
                              subst eg
                              refine s238 gr gs gb9 (he0 rfl) _ (fun q h => ?_)
                              simp only [List.mem_cons, List.not_mem_nil, or_false] at h
                              rcases h with rfl | rfl | rfl | rfl | rfl | rfl | rfl <;> first | (simp [xs1, lv_args, Value.category, b32, nI]; done) | (simp [xs1, lv_args, Value.category, b32, nI]; decide) | (simp [xs1, lv_args, Value.category, b32, nI]; exact Or.inr (by decide)) | (simp [xs1, lv_args, Value.category, b32, nI]; exact Or.inl (by decide))
                            | true =>
                              have hjn := hjn rfl
                              subst hjn
                              refine Ex.br rfl (fun c => absurd c (show (1 : Int32) ≠ 0 by decide)) (fun _ => ?_)
                              refine Ex.p rfl ?_
                              refine Ex.gf 0 0 rfl rfl rfl ?_
                              refine Ex.p rfl ?_
                              refine Ex.p rfl ?_
                              refine Ex.ias 1 0 f rfl rfl rfl (nI_toInt (by omega)) (by omega) ?_
                              refine Ex.p rfl ?_
                              refine Ex.gf 0 0 rfl rfl rfl ?_
                              refine Ex.p rfl ?_
                              refine Ex.p rfl ?_
                              refine Ex.ias 1 1 f rfl rfl rfl (nI_toInt (by omega)) (by omega) ?_
                              have hL1 : LayF fl0 gr gs gb := hL
                              have hLn : LayF (fl0 ++ [(ro, dd)]) (upd gr f (nI ro)) (upd gs f (nI j)) gb9 := by
                                intro i x hi
                                rcases app_at hi with hi | ⟨rfl, rfl⟩
                                · have hil := (List.getElem?_eq_some_iff.mp hi).1
                                  obtain ⟨u1, u2, u3, u4, u5⟩ := hL1 i x hi
                                  rw [upd_n _ _ (by omega), upd_n _ _ (by omega)]
                                  refine ⟨u1, u2, u3, u4, fun q hq => ?_⟩
                                  rw [e2 _ (by omega)]
                                  exact u5 q hq
                                · rw [hfl, upd_s, upd_s]
                                  refine ⟨rfl, by rw [hdl], by show ro < 8; omega, by rw [hdl]; omega, fun q hq => ⟨e3 rfl q hq (by have : q < dd.length := hq; omega), (hdb q hq).2⟩⟩
                              refine s238 _ _ gb9 hLn _ (fun q h => ?_)
                              simp only [List.mem_cons, List.not_mem_nil, or_false] at h
                              rcases h with rfl | rfl | rfl | rfl | rfl | rfl | rfl <;> first | (simp [xs1, lv_args, Value.category, b32, nI]; done) | (simp [xs1, lv_args, Value.category, b32, nI]; decide) | (simp [xs1, lv_args, Value.category, b32, nI]; exact Or.inr (by decide)) | (simp [xs1, lv_args, Value.category, b32, nI]; exact Or.inl (by decide))
                          refine Ex.p rfl ?_
                          refine Ex.p rfl ?_
                          refine Ex.br rfl (fun g6 => ?_) (fun g6 => ?_)
                          · have g6 : nI nn ≤ nI j := g6
                            rw [nI_leI (by omega) (by omega)] at g6
                            exact s216 (fun _ => by omega)
                          · have g6 : ¬ nI nn ≤ nI j := g6
                            rw [nI_leI (by omega) (by omega)] at g6
                            refine Ex.p rfl ?_
                            cases lays with
                            | false =>
                              exact Ex.br rfl (fun _ => s216 (fun e => by cases e)) (fun c => absurd rfl c)
                            | true =>
                              refine Ex.br rfl (fun c => absurd c (show (1 : Int32) ≠ 0 by decide)) (fun _ => ?_)
                              obtain ⟨v1, v2⟩ := hdb j (by omega)
                              refine Ex.p rfl ?_
                              refine Ex.gf 0 0 rfl rfl rfl ?_
                              refine Ex.p rfl ?_
                              refine Ex.p rfl ?_
                              refine Ex.p rfl ?_
                              rw [show (Int16.ofInt 300).toInt32 * nI f = nI (300 * f) from pk_mul 300 f]
                              refine Ex.p rfl ?_
                              refine Ex.p rfl ?_
                              rw [nI_add]
                              refine Ex.p rfl ?_
                              refine Ex.gf 0 0 rfl rfl rfl ?_
                              refine Ex.p rfl ?_
                              refine Ex.p rfl ?_
                              refine Ex.p rfl ?_
                              rw [nI_add]
                              refine Ex.ial 2 0 (p + 3 + j) rfl rfl rfl (nI_toInt (by omega)) (by omega) ?_
                              rw [v1]
                              refine Ex.ias 1 2 (300 * f + j) rfl rfl rfl (nI_toInt (by omega)) (by omega) ?_
                              refine Ex.p rfl ?_
                              refine Ex.p rfl ?_
                              rw [i_add1]
                              refine ihb (j + 1) (upd gb9 (300 * f + j) (nI dd[j])) (by omega) (by omega) (fun e => by cases e) (fun i hi => ?_) (fun _ q hq hq2 => ?_) _ (fun q h => ?_)
                              · rw [upd_n _ _ (by omega)]
                                exact e2 i hi
                              · rcases Nat.lt_or_ge q j with w | w
                                · rw [upd_n _ _ (by omega)]
                                  exact e3 rfl q hq w
                                · have eq9 : q = j := by omega
                                  subst eq9
                                  rw [upd_s]
                              · simp only [List.mem_cons, List.not_mem_nil, or_false] at h
                                rcases h with rfl | rfl | rfl | rfl | rfl | rfl | rfl | rfl | rfl <;> first | (simp [xs1, lv_args, Value.category, b32, nI]; done) | (simp [xs1, lv_args, Value.category, b32, nI]; decide) | (simp [xs1, lv_args, Value.category, b32, nI]; exact Or.inr (by decide)) | (simp [xs1, lv_args, Value.category, b32, nI]; exact Or.inl (by decide))
                      have sums : ∀ (k j : Nat), nn - j < k → j ≤ nn → ∀ lv9 : List (Nat × Value), (∀ q ∈ [(8, Value.int (nI j)), (7, .int (nI (fsum (dd.take j)))), (6, .int (nI nn)), (5, .int (nI ro)), (4, .int (nI f)), (3, .int (nI (msk (fl0.map (fun x => x.1)) ||| 2 ^ ro))), (2, .int (nI (p + 3))), (1, .int (b32 lays)), (0, .ref m)], q ∈ lv9) → Ex l mMo_walk D R A (xQ D A Q) R.cells R.slots 137 lv9 [] [sMo m B th mn la ln ap bg wr me fi (nI bs.length) wa wn fo st hl rf rt cu, cMF D B gr gs gb, cME D B gd] 0 0 := by
                        intro k
                        induction k with
                        | zero => intro j h; omega
                        | succ k ihs =>
                          intro j hk hj lv9 hlv
                          refine Ex.lv hlv ?_
                          refine Ex.p rfl ?_
                          refine Ex.p rfl ?_
                          refine Ex.br rfl (fun g6 => ?_) (fun g6 => ?_)
                          · have g6 : nI nn ≤ nI j := g6
                            rw [nI_leI (by omega) (by omega)] at g6
                            have ej : j = dd.length := by omega
                            rw [ej, List.take_length]
                            refine Ex.p rfl ?_
                            refine Ex.p rfl ?_
                            refine bytes (nn + 1) 0 gb (by omega) (by omega) (fun _ => rfl) (fun _ _ => rfl) (fun _ q hq hq2 => by omega) _ (fun q h => ?_)
                            simp only [List.mem_cons, List.not_mem_nil, or_false] at h
                            rcases h with rfl | rfl | rfl | rfl | rfl | rfl | rfl | rfl | rfl <;> first | (simp [xs1, lv_args, Value.category, b32, nI]; done) | (simp [xs1, lv_args, Value.category, b32, nI]; decide) | (simp [xs1, lv_args, Value.category, b32, nI]; exact Or.inr (by decide)) | (simp [xs1, lv_args, Value.category, b32, nI]; exact Or.inl (by decide))
                          · have g6 : ¬ nI nn ≤ nI j := g6
                            rw [nI_leI (by omega) (by omega)] at g6
                            have hjl : j < dd.length := by omega
                            obtain ⟨v1, v2⟩ := hdb j hjl
                            have hfs := fsum_lt (dd.take j)
                            refine Ex.p rfl ?_
                            refine Ex.p rfl ?_
                            refine Ex.p rfl ?_
                            refine Ex.p rfl ?_
                            rw [i_add1]
                            refine Ex.p rfl ?_
                            refine Ex.gf 0 0 rfl rfl rfl ?_
                            refine Ex.p rfl ?_
                            refine Ex.p rfl ?_
                            refine Ex.p rfl ?_
                            rw [nI_add]
                            refine Ex.ial 2 0 (p + 3 + j) rfl rfl rfl (nI_toInt (by omega)) (by omega) ?_
                            rw [v1]
                            refine Ex.p rfl ?_
                            rw [pk_mul]
                            refine Ex.p rfl ?_
                            rw [nI_add]
                            refine Ex.ldcw rfl ?_
                            refine Ex.irem rfl (by decide) ?_
                            have hm9 : (j + 1) * dd[j] ≤ 300 * 255 := Nat.mul_le_mul (by omega) (by omega)
                            rw [show (65521 : Int32) = nI 65521 from rfl, pk_rem (by omega) (by omega) (by omega)]
                            have e1 : (fsum (dd.take j) + (j + 1) * dd[j]) % 65521 = fsum (dd.take (j + 1)) := by
                              rw [List.take_succ_eq_append_getElem hjl, fsum_snoc, List.length_take, Nat.min_eq_left (by omega), Nat.mul_comm dd[j]]
                            rw [e1]
                            refine Ex.p rfl ?_
                            refine Ex.p rfl ?_
                            refine Ex.p rfl ?_
                            rw [i_add1]
                            refine ihs (j + 1) (by omega) (by omega) _ (fun q h => ?_)
                            simp only [List.mem_cons, List.not_mem_nil, or_false] at h
                            rcases h with rfl | rfl | rfl | rfl | rfl | rfl | rfl | rfl | rfl <;> first | (simp [xs1, lv_args, Value.category, b32, nI]; done) | (simp [xs1, lv_args, Value.category, b32, nI]; decide) | (simp [xs1, lv_args, Value.category, b32, nI]; exact Or.inr (by decide)) | (simp [xs1, lv_args, Value.category, b32, nI]; exact Or.inl (by decide))
                      refine sums (nn + 1) 0 (by omega) (by omega) _ (fun q h => ?_)
                      simp only [List.mem_cons, List.not_mem_nil, or_false] at h
                      rcases h with rfl | rfl | rfl | rfl | rfl | rfl | rfl | rfl | rfl <;> first | (simp [xs1, lv_args, Value.category, b32, nI]; done) | (simp [xs1, lv_args, Value.category, b32, nI]; decide) | (simp [xs1, lv_args, Value.category, b32, nI]; exact Or.inr (by decide)) | (simp [xs1, lv_args, Value.category, b32, nI]; exact Or.inl (by decide))
                    · have g5 : ¬ nI (p + 3 + nn + 2) ≤ nI bs.length := g5
                      rw [nI_leI (by omega) (by omega)] at g5
                      refine s122 ?_ _
                      unfold tkF
                      rw [if_neg (by omega), hro9, hnn, if_pos (Or.inr (by omega))]
            · have g1 : ¬ nI (p + 3) ≤ nI bs.length := g1
              rw [nI_leI (by omega) (by omega)] at g1
              refine Ex.p rfl ?_
              refine Ex.iret rfl rfl (Nat.zero_le _) (Nat.zero_le _) rfl (bad _ _ _ (fail ?_) he0)
              unfold tkF
              rw [if_pos (by omega)]
      refine Ex.p rfl ?_
      refine Ex.p rfl ?_
      refine Ex.p rfl ?_
      refine Ex.p rfl ?_
      refine Ex.p rfl ?_
      refine Ex.p rfl ?_
      refine loop (K + 1) 0 1 [] gr0 gs0 gb0 (by omega) (by omega) rfl (by omega) (by omega) (fun x hx => by cases hx) (by decide) (fun q => by simp [msk]) (by rw [ew]; show _ = (tkAll bs K [] 1).map _; cases tkAll bs K [] 1 <;> rfl) ?_ _ (fun q h => ?_)
      · unfold LayW
        split
        · intro i x h
          simp at h
        · exact ⟨rfl, rfl, rfl⟩
      · simp only [List.mem_cons, List.not_mem_nil, or_false] at h
        rcases h with rfl | rfl | rfl | rfl | rfl <;> first | (simp [xs1, lv_args, Value.category, b32, nI]; done) | (simp [xs1, lv_args, Value.category, b32, nI]; decide) | (simp [xs1, lv_args, Value.category, b32, nI]; exact Or.inr (by decide)) | (simp [xs1, lv_args, Value.category, b32, nI]; exact Or.inl (by decide))
    · have c1 : ¬ nI (bs.getD 0 0) ≤ nI 8 := c1
      rw [nI_leI (by omega) (by omega)] at c1
      exact s18 (by unfold wOf; rw [if_pos (Or.inr (by omega))])
end MO7

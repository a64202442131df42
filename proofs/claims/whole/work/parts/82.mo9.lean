/-! the reference: way, collect -/
def hwN (a b : HV) : Nat := max (b.2.1.toInt - a.2.2.2.1.toInt).natAbs (b.2.2.1.toInt - a.2.2.2.2.1.toInt).natAbs
theorem s32 {x y : Int32} (hx : x.toInt.natAbs ≤ 1000000) (hy : y.toInt.natAbs ≤ 1000000) : (x - y).toInt = x.toInt - y.toInt := by
  rw [Int32.toInt_sub]
  exact Int.bmod_eq_of_le (by omega) (by omega)
theorem s64 {x y : Int32} (hx : x.toInt.natAbs ≤ 1000000) (hy : y.toInt.natAbs ≤ 1000000) : (x.toInt64 - y.toInt64).toInt = x.toInt - y.toInt := by
  rw [Int64.toInt_sub, Int32.toInt_toInt64, Int32.toInt_toInt64]
  exact Int.bmod_eq_of_le (by omega) (by omega)
theorem abs64_n {x : Int64} {k : Int} (h : x.toInt = k) (hk : k.natAbs ≤ 10000000) : (abs64 x).toInt = k.natAbs := by
  unfold abs64
  by_cases c : 0 ≤ x
  · rw [if_pos c, h]
    rw [Int64.le_iff_toInt_le] at c
    have c : 0 ≤ x.toInt := c
    omega
  · rw [if_neg c]
    rw [Int64.le_iff_toInt_le] at c
    have c : ¬ 0 ≤ x.toInt := c
    rw [Int64.toInt_sub, h, show (0 : Int64).toInt = 0 from rfl]
    rw [Int.bmod_eq_of_le (by omega) (by omega)]
    omega
theorem hway_n {a b : HV} (ha : a.2.2.2.1.toInt.natAbs ≤ 1000000 ∧ a.2.2.2.2.1.toInt.natAbs ≤ 1000000) (hb : b.2.1.toInt.natAbs ≤ 1000000 ∧ b.2.2.1.toInt.natAbs ≤ 1000000) : hway a b = nI (hwN a b) ∧ hwN a b ≤ 2000000 := by
  have e1 := s32 hb.1 ha.1
  have e2 := s32 hb.2 ha.2
  have hm : hwN a b ≤ 2000000 := by
    unfold hwN
    omega
  refine ⟨?_, hm⟩
  unfold hway abs32
  rw [abs_nat (by omega), abs_nat (by omega), e1, e2]
  unfold max32 hwN
  by_cases c : nI (b.2.1.toInt - a.2.2.2.1.toInt).natAbs < nI (b.2.2.1.toInt - a.2.2.2.2.1.toInt).natAbs
  · rw [if_pos c]
    rw [nI_ltI (by omega) (by omega)] at c
    rw [Nat.max_eq_right (by omega)]
  · rw [if_neg c]
    rw [nI_ltI (by omega) (by omega)] at c
    rw [Nat.max_eq_left (by omega)]
theorem way64_n {a b : HV} (ha : a.2.2.2.1.toInt.natAbs ≤ 1000000 ∧ a.2.2.2.2.1.toInt.natAbs ≤ 1000000) (hb : b.2.1.toInt.natAbs ≤ 1000000 ∧ b.2.2.1.toInt.natAbs ≤ 1000000) : way64 a.2.2.2.1.toInt64 a.2.2.2.2.1.toInt64 b.2.1.toInt64 b.2.2.1.toInt64 = (hway a b).toInt64 := by
  obtain ⟨h1, h2⟩ := hway_n ha hb
  have e1 := abs64_n (s64 ha.1 hb.1) (by omega)
  have e2 := abs64_n (s64 ha.2 hb.2) (by omega)
  apply Int64.toInt_inj.mp
  rw [Int32.toInt_toInt64, h1, nI_toInt (by omega)]
  unfold way64
  by_cases c : abs64 (a.2.2.2.1.toInt64 - b.2.1.toInt64) ≤ abs64 (a.2.2.2.2.1.toInt64 - b.2.2.1.toInt64)
  · rw [if_pos c, e2]
    rw [Int64.le_iff_toInt_le, e1, e2] at c
    unfold hwN
    omega
  · rw [if_neg c, e1]
    rw [Int64.le_iff_toInt_le, e1, e2] at c
    unfold hwN
    omega
theorem hOK.near {h : HV} (H : hOK h) : (h.2.2.2.1.toInt.natAbs ≤ 1000000 ∧ h.2.2.2.2.1.toInt.natAbs ≤ 1000000) ∧ h.2.1.toInt.natAbs ≤ 1000000 ∧ h.2.2.1.toInt.natAbs ≤ 1000000 := ⟨⟨H.1.2.2.1, H.1.2.2.2⟩, H.1.1, H.1.2.1⟩
/-- hit k of hv, or the start -/
def hvO (hv : List HV) (k : Int32) : HV := (ixo hv k).getD ogv
def RowIs (g : Nat → Int32) (ns : List Nat) : Prop := ∀ (j : Nat) (h : j < ns.length), g j = nI ns[j]
section MO9
variable {l : Launch} {D : xD} {R : Room}
theorem ct_Mo_way {m n : Nat} {B : Nat → Nat} {k9 : Int32} {g h : HV} {th mn la ln ap bg wr fi fe wa wn fo st rf rt cu : Int32} {me hl : Bool} {L : Nat → List HV} {C : va_W} (iH : IsMH D B L C) (hn : (L 0)[n]? = some h) (hk : (k9 = -1 ∧ g = ogv) ∨ ∃ k, k9 = nI k ∧ (L 0)[k]? = some g) (hok : ∀ h ∈ L 0, hOK h) (hr : rmOk R 2 0 0) : Ct l mMo_way D R [.ref m, .int k9, .int (nI n)] [sMo m B th mn la ln ap bg wr me fi fe wa wn fo st hl rf rt cu, C] (fun v S => v = some (.long (hway g h).toInt64) ∧ S = [sMo m B th mn la ln ap bg wr me fi fe wa wn fo st hl rf rt cu, C]) := by
  obtain ⟨r1, r2, r3, r4⟩ := hr
  obtain ⟨gH, gO, gX, gY, gE, gG, gF, gU, gS, rfl, hs⟩ := iH
  obtain ⟨h1, h2, h3⟩ := hs 0 (by omega)
  have hnl := (List.getElem?_eq_some_iff.mp hn).1
  obtain ⟨-, p2, p3, -⟩ := h3 n h hn
  rw [show 60 * 0 + n = n by omega] at p2 p3
  have hh := (hok h (List.mem_of_getElem? hn)).near
  refine Ct.of rfl (by decide) tkMo_way (Nat.le_of_ble_eq_true rfl) (fun A => ?_)
  refine Ex.p rfl ?_
  refine Ex.p rfl ?_
  rcases hk with ⟨rfl, rfl⟩ | ⟨k, rfl, hk⟩
  · refine Ex.br rfl (fun c => absurd rfl c) (fun _ => ?_)
    refine Ex.p rfl ?_
    refine Ex.p rfl ?_
    refine Ex.p rfl ?_
    refine Ex.gf 0 0 rfl rfl rfl ?_
    refine Ex.p rfl ?_
    refine Ex.lal 1 2 n rfl rfl rfl (nI_toInt (by omega)) (by omega) ?_
    rw [p2]
    refine Ex.p rfl ?_
    refine Ex.gf 0 0 rfl rfl rfl ?_
    refine Ex.p rfl ?_
    refine Ex.lal 1 3 n rfl rfl rfl (nI_toInt (by omega)) (by omega) ?_
    rw [p3]
    refine Ex.cs0 (Mc := mMo_wayOf) (Rc := rm 1 0 0) (As := [.long (Int64.ofNat 0), .long (Int64.ofNat 0), .long h.2.1.toInt64, .long h.2.2.1.toInt64]) (rest := []) (ct_Mo_wayOf (rm_ok _ _ _)) rfl lk_10_123 lcMo_wayOf rfl ⟨by dsimp only [rm]; omega, by show 8 + (12 + 11) + 40 ≤ R.locals; omega⟩ (Nat.le_of_ble_eq_true rfl) (by first | (dsimp only [rm]; omega) | omega) (by first | (dsimp only [rm]; omega) | omega) ?_
    rintro v S1 ⟨rfl, rfl⟩
    refine Ex.p rfl ?_
    refine Ex.lret rfl rfl (by first | (dsimp only [rm]; omega) | omega) (by first | (dsimp only [rm]; omega) | omega) rfl ⟨?_, rfl⟩
    have := way64_n (a := ogv) (b := h) ⟨by decide, by decide⟩ hh.2
    rw [← this]
    rfl
  · have hkl := (List.getElem?_eq_some_iff.mp hk).1
    obtain ⟨-, -, -, q4, q5, -⟩ := h3 k g hk
    rw [show 60 * 0 + k = k by omega] at q4 q5
    have hg := (hok g (List.mem_of_getElem? hk)).near
    refine Ex.br rfl (fun _ => ?_) (fun c => ?_)
    · refine Ex.p rfl ?_
      refine Ex.gf 0 0 rfl rfl rfl ?_
      refine Ex.p rfl ?_
      refine Ex.lal 1 4 k rfl rfl rfl (nI_toInt (by omega)) (by omega) ?_
      rw [q4]
      refine Ex.p rfl ?_
      refine Ex.gf 0 0 rfl rfl rfl ?_
      refine Ex.p rfl ?_
      refine Ex.lal 1 5 k rfl rfl rfl (nI_toInt (by omega)) (by omega) ?_
      rw [q5]
      refine Ex.p rfl ?_
      refine Ex.gf 0 0 rfl rfl rfl ?_
      refine Ex.p rfl ?_
      refine Ex.lal 1 2 n rfl rfl rfl (nI_toInt (by omega)) (by omega) ?_
      rw [p2]
      refine Ex.p rfl ?_
      refine Ex.gf 0 0 rfl rfl rfl ?_
      refine Ex.p rfl ?_
      refine Ex.lal 1 3 n rfl rfl rfl (nI_toInt (by omega)) (by omega) ?_
      rw [p3]
      refine Ex.cs0 (Mc := mMo_wayOf) (Rc := rm 1 0 0) (As := [.long g.2.2.2.1.toInt64, .long g.2.2.2.2.1.toInt64, .long h.2.1.toInt64, .long h.2.2.1.toInt64]) (rest := []) (ct_Mo_wayOf (rm_ok _ _ _)) rfl lk_10_123 lcMo_wayOf rfl ⟨by dsimp only [rm]; omega, by show 8 + (12 + 11) + 40 ≤ R.locals; omega⟩ (Nat.le_of_ble_eq_true rfl) (by first | (dsimp only [rm]; omega) | omega) (by first | (dsimp only [rm]; omega) | omega) ?_
      rintro v S1 ⟨rfl, rfl⟩
      refine Ex.lret rfl rfl (by first | (dsimp only [rm]; omega) | omega) (by first | (dsimp only [rm]; omega) | omega) rfl ⟨?_, rfl⟩
      rw [way64_n hg.1 hh.2]
    · have c : ¬ ¬ nI k = Int32.ofInt (-1) := c
      have c := congrArg Int32.toInt (Decidable.not_not.mp c)
      rw [nI_toInt (by omega), show (Int32.ofInt (-1)).toInt = -1 from rfl] at c
      omega
theorem ct_Mo_collect {m t : Nat} {B : Nat → Nat} {th mn la ln ap bg wr fi fe wa wn fo st rf rt cu : Int32} {me hl : Bool} {L : Nat → List HV} {C : va_W} {gR gQ : Nat → Int32} {gL : Nat → Int64} (iH : IsMH D B L C) : Ct l mMo_collect D R [.ref m, .int (nI t)] [sMo m B th mn la ln ap bg wr me fi fe wa wn fo st hl rf rt cu, C, cMO D B gR gQ gL] (fun v S => v = none ∧ ∃ gR', S = [sMo m B th (nI (tns (L 0) t).length) la ln ap bg wr me fi fe wa wn fo st hl rf rt cu, C, cMO D B gR' gQ gL] ∧ RowIs gR' (tns (L 0) t)) := by
  obtain ⟨gH, gO, gX, gY, gE, gG, gF, gU, gS, rfl, hs⟩ := iH
  obtain ⟨h1, h2, h3⟩ := hs 0 (by omega)
  refine Ct.of rfl (by decide) tkMo_collect (Nat.le_of_ble_eq_true rfl) (fun A => ?_)
  generalize hQ : (fun (v : Option Value) S => v = none ∧ ∃ gR', S = [sMo m B th (nI (tns (L 0) t).length) la ln ap bg wr me fi fe wa wn fo st hl rf rt cu, cMH D B gH gO gX gY gE gG gF gU gS, cMO D B gR' gQ gL] ∧ RowIs gR' (tns (L 0) t)) = Q
  have loop : ∀ (k j : Nat) (gR : Nat → Int32), (L 0).length - j < k → j ≤ (L 0).length → RowIs gR (tnsA (nI t) 0 ((L 0).take j)) → ∀ lv9 : List (Nat × Value), (∀ q ∈ [(2, Value.int (nI j)), (1, .int (nI t)), (0, .ref m)], q ∈ lv9) → Ex l mMo_collect D R A (xQ D A Q) R.cells R.slots 7 lv9 [] [sMo m B th (nI (tnsA (nI t) 0 ((L 0).take j)).length) la ln ap bg wr me fi fe wa wn fo st hl rf rt cu, cMH D B gH gO gX gY gE gG gF gU gS, cMO D B gR gQ gL] 0 0 := by
    intro k
    induction k with
    | zero => intro j gR h; omega
    | succ k ih =>
      intro j gR hk hj hR lv9 hlv
      refine Ex.lv hlv ?_
      refine Ex.p rfl ?_
      refine Ex.p rfl ?_
      refine Ex.gf 0 0 rfl rfl rfl ?_
      refine Ex.p rfl ?_
      refine Ex.ial 1 0 0 rfl rfl rfl rfl (by decide) ?_
      rw [h1]
      refine Ex.br rfl (fun c => ?_) (fun c => ?_)
      · have c : nI (L 0).length ≤ nI j := c
        rw [nI_leI (by omega) (by omega)] at c
        have ej : j = (L 0).length := by omega
        subst ej
        rw [List.take_length] at hR ⊢
        refine Ex.vret rfl rfl (Nat.zero_le _) (Nat.zero_le _) rfl ?_
        subst hQ
        exact ⟨rfl, gR, rfl, hR⟩
      · have c : ¬ nI (L 0).length ≤ nI j := c
        rw [nI_leI (by omega) (by omega)] at c
        have hjl : j < (L 0).length := by omega
        have hi2 : (L 0)[j]? = some (L 0)[j] := List.getElem?_eq_getElem hjl
        obtain ⟨q1, -⟩ := h3 j _ hi2
        rw [show 60 * 0 + j = j by omega] at q1
        have hlen := tnsA_len (nI t) ((L 0).take j) 0
        rw [List.length_take] at hlen
        have htk : tnsA (nI t) 0 ((L 0).take (j + 1)) = tnsA (nI t) 0 ((L 0).take j) ++ (if (L 0)[j].1 = nI t then [j] else []) := by
          rw [List.take_succ_eq_append_getElem hjl, tnsA_app, List.length_take, Nat.min_eq_left (by omega), Nat.zero_add]
        refine Ex.p rfl ?_
        refine Ex.gf 0 0 rfl rfl rfl ?_
        refine Ex.p rfl ?_
        refine Ex.ial 1 1 j rfl rfl rfl (nI_toInt (by omega)) (by omega) ?_
        rw [q1]
        refine Ex.p rfl ?_
        refine Ex.br rfl (fun c1 => ?_) (fun c1 => ?_)
        · have c1 : (L 0)[j].1 = nI t := c1
          rw [if_pos c1] at htk
          generalize tnsA (nI t) 0 ((L 0).take j) = ns at hR hlen htk
          refine Ex.p rfl ?_
          refine Ex.gf 0 0 rfl rfl rfl ?_
          refine Ex.p rfl ?_
          refine Ex.gf 0 0 rfl rfl rfl ?_
          refine Ex.p rfl ?_
          refine Ex.ias 2 0 ns.length rfl rfl rfl (nI_toInt (by omega)) (by omega) ?_
          refine Ex.p rfl ?_
          refine Ex.p rfl ?_
          refine Ex.gf 0 0 rfl rfl rfl ?_
          refine Ex.p rfl ?_
          refine Ex.p rfl ?_
          rw [i_add1]
          refine Ex.pf 0 0 rfl rfl rfl rfl rfl rfl ?_
          refine Ex.p rfl ?_
          refine Ex.p rfl ?_
          rw [i_add1]
          refine Ex.seg (S' := [sMo m B th (nI (tnsA (nI t) 0 ((L 0).take (j + 1))).length) la ln ap bg wr me fi fe wa wn fo st hl rf rt cu, cMH D B gH gO gX gY gE gG gF gU gS, cMO D B (upd gR ns.length (nI j)) gQ gL]) (by rw [htk, List.length_append]; rfl) ?_
          refine ih (j + 1) _ (by omega) (by omega) ?_ _ (fun q h => ?_)
          · rw [htk]
            intro i hi
            rcases Nat.lt_or_ge i ns.length with g | g
            · rw [upd_n _ _ (by omega), List.getElem_append_left g]
              exact hR i g
            · have ei : i = ns.length := by simp at hi; omega
              subst ei
              rw [upd_s, List.getElem_concat_length]
              rfl
          · simp only [List.mem_cons, List.not_mem_nil, or_false] at h
            rcases h with rfl | rfl | rfl <;> first | (simp [xs1, lv_args, Value.category, b32, nI]; done) | (simp [xs1, lv_args, Value.category, b32, nI]; decide) | (simp [xs1, lv_args, Value.category, b32, nI]; exact Or.inr (by decide)) | (simp [xs1, lv_args, Value.category, b32, nI]; exact Or.inl (by decide))
        · have c1 : ¬ (L 0)[j].1 = nI t := c1
          rw [if_neg c1, List.append_nil] at htk
          refine Ex.p rfl ?_
          refine Ex.p rfl ?_
          refine Ex.p rfl ?_
          rw [i_add1]
          rw [← htk] at hR ⊢
          refine ih (j + 1) gR (by omega) (by omega) hR _ (fun q h => ?_)
          simp only [List.mem_cons, List.not_mem_nil, or_false] at h
          rcases h with rfl | rfl | rfl <;> first | (simp [xs1, lv_args, Value.category, b32, nI]; done) | (simp [xs1, lv_args, Value.category, b32, nI]; decide) | (simp [xs1, lv_args, Value.category, b32, nI]; exact Or.inr (by decide)) | (simp [xs1, lv_args, Value.category, b32, nI]; exact Or.inl (by decide))
  refine Ex.p rfl ?_
  refine Ex.p rfl ?_
  refine Ex.pf 0 0 rfl rfl rfl rfl rfl rfl ?_
  refine Ex.p rfl ?_
  refine Ex.p rfl ?_
  refine loop ((L 0).length + 1) 0 gR (by omega) (by omega) (fun j h => by simp [tnsA] at h) _ (fun q h => ?_)
  simp only [List.mem_cons, List.not_mem_nil, or_false] at h
  rcases h with rfl | rfl | rfl <;> first | (simp [xs1, lv_args, Value.category, b32, nI]; done) | (simp [xs1, lv_args, Value.category, b32, nI]; decide) | (simp [xs1, lv_args, Value.category, b32, nI]; exact Or.inr (by decide)) | (simp [xs1, lv_args, Value.category, b32, nI]; exact Or.inl (by decide))
end MO9

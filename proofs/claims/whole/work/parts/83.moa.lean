/-! the reference: orderNearest -/
def cnt (ok : Nat → Bool) : Nat → Nat
  | 0 => 0
  | n + 1 => cnt ok n + (if ok n then 1 else 0)
theorem nfold_no {ok : Nat → Bool} {w : Nat → Int32} : ∀ {n : Nat}, (nfold ok w n).1 = none → ∀ j, j < n → ok j = false
  | 0, _, j, hj => by omega
  | n + 1, h, j, hj => by
    unfold nfold at h
    split at h
    · cases h
    · rename_i c
      rcases Nat.lt_or_ge j n with q | q
      · exact nfold_no h j q
      · have ej : j = n := by omega
        subst ej
        cases e : ok j with
        | false => rfl
        | true => exact absurd ⟨e, Or.inl h⟩ c
theorem nfold_w {ok : Nat → Bool} {w : Nat → Int32} : ∀ {n b : Nat}, (nfold ok w n).1 = some b → (nfold ok w n).2 = w b ∧ ok b = true
  | 0, b, h => by cases h
  | n + 1, b, h => by
    unfold nfold at h ⊢
    split at h
    · rename_i c
      cases h
      rw [if_pos c]
      exact ⟨rfl, c.1⟩
    · rename_i c
      rw [if_neg c]
      exact nfold_w h
theorem nfold_skip {ok : Nat → Bool} {w : Nat → Int32} {n : Nat} (h : ok n = false) : nfold ok w (n + 1) = nfold ok w n := by
  show (if ok n = true ∧ ((nfold ok w n).1 = none ∨ w n < (nfold ok w n).2) then (some n, w n) else nfold ok w n) = _
  rw [if_neg (fun q => by rw [h] at q; cases q.1)]
theorem cnt_zero {ok : Nat → Bool} : ∀ {n : Nat}, (∀ j, j < n → ok j = false) → cnt ok n = 0
  | 0, _ => rfl
  | n + 1, h => by
    unfold cnt
    rw [cnt_zero (fun j hj => h j (by omega)), h n (by omega)]
    rfl
theorem cnt_all {ok : Nat → Bool} : ∀ {n : Nat}, (∀ j, j < n → ok j = true) → cnt ok n = n
  | 0, _ => rfl
  | n + 1, h => by
    unfold cnt
    rw [cnt_all (fun j hj => h j (by omega)), h n (by omega)]
    rfl
theorem cnt_congr {ok ok' : Nat → Bool} : ∀ {n : Nat}, (∀ j, j < n → ok j = ok' j) → cnt ok n = cnt ok' n
  | 0, _ => rfl
  | n + 1, h => by
    unfold cnt
    rw [cnt_congr (fun j hj => h j (by omega)), h n (by omega)]
theorem cnt_upd {ok ok' : Nat → Bool} {b : Nat} (hb : ok b = true) (hb' : ok' b = false) (h : ∀ j, j ≠ b → ok j = ok' j) : ∀ {n : Nat}, b < n → cnt ok n = cnt ok' n + 1
  | 0, hn => by omega
  | n + 1, hn => by
    unfold cnt
    by_cases e : b = n
    · subst e
      rw [cnt_congr (ok := ok) (ok' := ok') (fun j hj => h j (by omega)), hb, hb']
      rfl
    · rw [cnt_upd hb hb' h (show b < n by omega), h n (fun q => e q.symm)]
      omega
theorem nfold_some {ok : Nat → Bool} {w : Nat → Int32} {n : Nat} (h : 0 < cnt ok n) : ∃ b, (nfold ok w n).1 = some b := by
  cases e : (nfold ok w n).1 with
  | some b => exact ⟨b, rfl⟩
  | none =>
    rw [cnt_zero (nfold_no e)] at h
    omega
theorem lt64 {x y : Int32} : x.toInt64 < y.toInt64 ↔ x < y := by
  rw [Int64.lt_iff_toInt_lt, Int32.toInt_toInt64, Int32.toInt_toInt64, Int32.lt_iff_toInt_lt]
theorem le64 {x y : Int32} : x.toInt64 ≤ y.toInt64 ↔ x ≤ y := by
  rw [Int64.le_iff_toInt_le, Int32.toInt_toInt64, Int32.toInt_toInt64, Int32.le_iff_toInt_le]
/-- an order that the reference has written -/
def OrdIs (hv : List HV) (ns : List Nat) (g : Nat → Int32) : Prop := ∃ ps len, TOrd ns.length (mvH hv ns) ps len ∧ ps.length = ns.length ∧ ∀ i, i < ns.length → g i = nI (ns.getD (ps.getD i 0) 0)
theorem mvH_at {hv : List HV} {ns : List Nat} {j : Nat} (hj : j < ns.length) (hns : ∀ x ∈ ns, x < hv.length) : hv[ns[j]]? = some (mvH hv ns j) := by
  have h := hns _ (List.getElem_mem hj)
  unfold mvH
  rw [List.getD_eq_getElem?_getD (l := ns), List.getElem?_eq_getElem hj, Option.getD_some, List.getD_eq_getElem?_getD, List.getElem?_eq_getElem h]
  rfl
section MOA
variable {l : Launch} {D : xD} {R : Room}
theorem ct_Mo_orderNearest {m : Nat} {B : Nat → Nat} {ns : List Nat} {th la ln ap bg wr fi fe wa wn fo st rf rt cu : Int32} {me hl : Bool} {L : Nat → List HV} {C : va_W} {gR0 gQ0 : Nat → Int32} {gL : Nat → Int64} (iH : IsMH D B L C) (hok : ∀ h ∈ L 0, hOK h) (hR0 : RowIs gR0 ns) (hns : ∀ x ∈ ns, x < (L 0).length) (hn8 : 8 < ns.length) (hn60 : ns.length ≤ 60) (hr : rmOk R 3 0 0) : Ct l mMo_orderNearest D R [.ref m] [sMo m B th (nI ns.length) la ln ap bg wr me fi fe wa wn fo st hl rf rt cu, C, cMO D B gR0 gQ0 gL] (fun v S => v = none ∧ ∃ gR gQ, S = [sMo m B th (nI ns.length) la ln ap bg wr me fi fe wa wn fo st hl rf rt cu, C, cMO D B gR gQ gL] ∧ OrdIs (L 0) ns gQ) := by
  obtain ⟨r1, r2, r3, r4⟩ := hr
  have h60 : (L 0).length ≤ 60 := by
    obtain ⟨_, _, _, _, _, _, _, _, _, -, hs⟩ := id iH
    exact (hs 0 (by omega)).2.1
  have hat : ∀ j (hj : j < ns.length), (L 0)[ns[j]]? = some (mvH (L 0) ns j) := fun j hj => mvH_at hj hns
  have hnlt : ∀ j (hj : j < ns.length), ns[j] < 60 := fun j hj => by have := hns _ (List.getElem_mem hj); omega
  generalize hmv : mvH (L 0) ns = mv at hat
  refine Ct.of rfl (by decide) tkMo_orderNearest (Nat.le_of_ble_eq_true rfl) (fun A => ?_)
  generalize hQ : (fun (v : Option Value) S => v = none ∧ ∃ gR gQ, S = [sMo m B th (nI ns.length) la ln ap bg wr me fi fe wa wn fo st hl rf rt cu, C, cMO D B gR gQ gL] ∧ OrdIs (L 0) ns gQ) = Q
  have outer : ∀ (k i : Nat) (fd : Nat → Int32) (g : HV) (k9 : Int32) (gR gQ : Nat → Int32), ns.length - i < k → i ≤ ns.length → ((k9 = -1 ∧ g = ogv) ∨ ∃ b, k9 = nI b ∧ (L 0)[b]? = some g) → (∀ j (hj : j < ns.length), gR j = if fd j = 0 then nI ns[j] else -1) → cnt (fun j => decide (fd j = 0)) ns.length = ns.length - i → npk ns.length mv (ns.length - i) fd g = (npk ns.length mv ns.length (fun _ => 0) ogv).drop i → (npk ns.length mv ns.length (fun _ => 0) ogv).length = i + (npk ns.length mv (ns.length - i) fd g).length → (∀ q, q < i → gQ q = nI (ns.getD (((npk ns.length mv ns.length (fun _ => 0) ogv).map (fun b => b.1)).getD q 0) 0)) → ∀ lv9 : List (Nat × Value), (∀ q ∈ [(2, Value.int (nI i)), (1, .int k9), (0, .ref m)], q ∈ lv9) → ∀ k8 n8 : Nat, k8 ≤ 0 → n8 ≤ 0 → Ex l mMo_orderNearest D R A (xQ D A Q) R.cells R.slots 4 lv9 [] [sMo m B th (nI ns.length) la ln ap bg wr me fi fe wa wn fo st hl rf rt cu, C, cMO D B gR gQ gL] k8 n8 := by
    intro k
    induction k with
    | zero => intro i fd g k9 gR gQ h; omega
    | succ k ih =>
      intro i fd g k9 gR gQ hk hi hk9 hgR hct hdr hln hgQ lv9 hlv k8 n8 hk8 hn8'
      refine Ex.more (k' := 0) (n' := 0) hk8 hn8' ?_
      refine Ex.lv hlv ?_
      refine Ex.p rfl ?_
      refine Ex.p rfl ?_
      refine Ex.gf 0 0 rfl rfl rfl ?_
      refine Ex.br rfl (fun c => ?_) (fun c => ?_)
      · have c : nI ns.length ≤ nI i := c
        rw [nI_leI (by omega) (by omega)] at c
        have ei : i = ns.length := by omega
        subst ei
        refine Ex.vret rfl rfl (Nat.zero_le _) (Nat.zero_le _) rfl ?_
        subst hQ
        refine ⟨rfl, gR, gQ, rfl, (npk ns.length mv ns.length (fun _ => 0) ogv).map (fun b => b.1), nacc 0 (npk ns.length mv ns.length (fun _ => 0) ogv), ⟨fun q => by omega, fun _ => by rw [hmv]; exact ⟨rfl, rfl⟩⟩, ?_, hgQ⟩
        rw [List.length_map, hln, show ns.length - ns.length = 0 by omega]
        rfl
      · have c : ¬ nI ns.length ≤ nI i := c
        rw [nI_leI (by omega) (by omega)] at c
        generalize hw : (fun j => hway g (mv j)) = w
        generalize hok9 : (fun j => decide (fd j = 0)) = ok at hct
        have hokj : ∀ j, ok j = decide (fd j = 0) := fun j => by rw [← hok9]
        have hwj : ∀ j, w j = hway g (mv j) := fun j => by rw [← hw]
        have s81 : ∀ lv9 : List (Nat × Value), (∀ q ∈ [(3, Value.int (bi (nfold ok w ns.length).1)), (2, .int (nI i)), (1, .int k9), (0, .ref m)], q ∈ lv9) → Ex l mMo_orderNearest D R A (xQ D A Q) R.cells R.slots 81 lv9 [] [sMo m B th (nI ns.length) la ln ap bg wr me fi fe wa wn fo st hl rf rt cu, C, cMO D B gR gQ gL] 0 0 := by
          intro lv9 hlv
          refine Ex.lv hlv ?_
          obtain ⟨b, hb⟩ := nfold_some (ok := ok) (w := w) (n := ns.length) (by omega)
          have hbn := nfold_lt hb
          obtain ⟨hv2, hob⟩ := nfold_w hb
          have hfb : fd b = 0 := of_decide_eq_true (by rw [← hokj]; exact hob)
          have hgb : gR b = nI ns[b] := by rw [hgR b hbn, if_pos hfb]
          have e1 : ns.length - i = (ns.length - (i + 1)) + 1 := by omega
          have hstep : npk ns.length mv (ns.length - i) fd g = (b, w b) :: npk ns.length mv (ns.length - (i + 1)) (upd fd b 1) (mv b) := by
            rw [e1]
            conv => lhs; unfold npk
            rw [hok9, hw, hb, hv2]
          rw [hb]
          refine Ex.p rfl ?_
          refine Ex.gf 0 0 rfl rfl rfl ?_
          refine Ex.p rfl ?_
          refine Ex.p rfl ?_
          refine Ex.gf 0 0 rfl rfl rfl ?_
          refine Ex.p rfl ?_
          refine Ex.ial 2 0 b rfl rfl rfl (nI_toInt (by omega)) (by omega) ?_
          rw [hgb]
          refine Ex.ias 2 1 i rfl rfl rfl (nI_toInt (by omega)) (by omega) ?_
          refine Ex.p rfl ?_
          refine Ex.gf 0 0 rfl rfl rfl ?_
          refine Ex.p rfl ?_
          refine Ex.ial 2 0 b rfl rfl rfl (nI_toInt (by omega)) (by omega) ?_
          rw [hgb]
          refine Ex.p rfl ?_
          refine Ex.p rfl ?_
          refine Ex.gf 0 0 rfl rfl rfl ?_
          refine Ex.p rfl ?_
          refine Ex.p rfl ?_
          refine Ex.ias 2 0 b rfl rfl rfl (nI_toInt (by omega)) (by omega) ?_
          refine Ex.p rfl ?_
          refine Ex.p rfl ?_
          rw [i_add1]
          rw [hstep] at hdr hln
          refine ih (i + 1) (upd fd b 1) (mv b) (nI ns[b]) (upd gR b (-1)) (upd gQ i (nI ns[b])) (by omega) (by omega) (Or.inr ⟨_, rfl, hat b hbn⟩) (fun j hj => ?_) ?_ ?_ ?_ (fun q hq => ?_) _ (fun q h => ?_) 0 0 (Nat.le_refl _) (Nat.le_refl _)
          · by_cases e : j = b
            · subst e
              rw [upd_s, upd_s, if_neg (by decide)]
            · rw [upd_n _ _ e, upd_n _ _ e]
              exact hgR j hj
          · have := cnt_upd (ok := ok) (ok' := fun j => decide (upd fd b 1 j = 0)) (b := b) hob (by simp [upd_s]) (fun j hj => by rw [hokj]; simp only [upd_n _ _ hj]) hbn
            omega
          · rw [← List.drop_drop, ← hdr]
            rfl
          · rw [hln]
            simp only [List.length_cons]
            omega
          · rcases Nat.lt_or_ge q i with g9 | g9
            · rw [upd_n _ _ (by omega)]
              exact hgQ q g9
            · have eq9 : q = i := by omega
              subst eq9
              rw [upd_s]
              have h9 : (npk ns.length mv ns.length (fun _ => 0) ogv)[q]? = some (b, w b) := by
                rw [← Nat.add_zero q, ← List.getElem?_drop, ← hdr]
                rfl
              rw [List.getD_eq_getElem?_getD (l := List.map _ _), List.getElem?_map, h9]
              show nI ns[b] = nI (ns.getD b 0)
              rw [List.getD_eq_getElem?_getD, List.getElem?_eq_getElem hbn]
              rfl
          · simp only [List.mem_cons, List.not_mem_nil, or_false] at h
            rcases h with rfl | rfl | rfl <;> first | (simp [xs1, lv_args, Value.category, b32, nI]; done) | (simp [xs1, lv_args, Value.category, b32, nI]; decide) | (simp [xs1, lv_args, Value.category, b32, nI]; exact Or.inr (by decide)) | (simp [xs1, lv_args, Value.category, b32, nI]; exact Or.inl (by decide))
        have inner : ∀ (k j : Nat), ns.length - j < k → j ≤ ns.length → ∀ lv9 : List (Nat × Value), (∀ q ∈ [(4, Value.int (nI j)), (3, .int (bi (nfold ok w j).1)), (2, .int (nI i)), (1, .int k9), (0, .ref m)], q ∈ lv9) → ∀ k8 n8 : Nat, k8 ≤ 0 → n8 ≤ 0 → Ex l mMo_orderNearest D R A (xQ D A Q) R.cells R.slots 17 lv9 [] [sMo m B th (nI ns.length) la ln ap bg wr me fi fe wa wn fo st hl rf rt cu, C, cMO D B gR gQ gL] k8 n8 := by
          intro k
          induction k with
          | zero => intro j h; omega
          | succ k ihj =>
            intro j hk hj lv9 hlv k8 n8 hk8 hn8'
            refine Ex.more (k' := 0) (n' := 0) hk8 hn8' ?_
            refine Ex.lv hlv ?_
            refine Ex.p rfl ?_
            refine Ex.p rfl ?_
            refine Ex.gf 0 0 rfl rfl rfl ?_
            refine Ex.br rfl (fun c1 => ?_) (fun c1 => ?_)
            · have c1 : nI ns.length ≤ nI j := c1
              rw [nI_leI (by omega) (by omega)] at c1
              have ej : j = ns.length := by omega
              subst ej
              refine s81 _ (fun q h => ?_)
              simp only [List.mem_cons, List.not_mem_nil, or_false] at h
              rcases h with rfl | rfl | rfl | rfl <;> first | (simp [xs1, lv_args, Value.category, b32, nI]; done) | (simp [xs1, lv_args, Value.category, b32, nI]; decide) | (simp [xs1, lv_args, Value.category, b32, nI]; exact Or.inr (by decide)) | (simp [xs1, lv_args, Value.category, b32, nI]; exact Or.inl (by decide))
            · have c1 : ¬ nI ns.length ≤ nI j := c1
              rw [nI_leI (by omega) (by omega)] at c1
              have hjn : j < ns.length := by omega
              have hb100 : ∀ b, (nfold ok w j).1 = some b → b < 100 := fun b hb => by have := nfold_lt hb; omega
              have s75 : ∀ (v : Int32), v = bi (nfold ok w (j + 1)).1 → ∀ lv9 : List (Nat × Value), (∀ q ∈ [(4, Value.int (nI j)), (3, .int v), (2, .int (nI i)), (1, .int k9), (0, .ref m)], q ∈ lv9) → ∀ k8 n8 : Nat, k8 ≤ 0 → n8 ≤ 0 → Ex l mMo_orderNearest D R A (xQ D A Q) R.cells R.slots 75 lv9 [] [sMo m B th (nI ns.length) la ln ap bg wr me fi fe wa wn fo st hl rf rt cu, C, cMO D B gR gQ gL] k8 n8 := by
                intro v hv lv9 hlv k8 n8 hk8 hn8'
                subst hv
                refine Ex.lv hlv ?_
                refine Ex.p rfl ?_
                refine Ex.p rfl ?_
                rw [i_add1]
                refine ihj (j + 1) (by omega) (by omega) _ (fun q h => ?_) _ _ hk8 hn8'
                simp only [List.mem_cons, List.not_mem_nil, or_false] at h
                rcases h with rfl | rfl | rfl | rfl | rfl <;> first | (simp [xs1, lv_args, Value.category, b32, nI]; done) | (simp [xs1, lv_args, Value.category, b32, nI]; decide) | (simp [xs1, lv_args, Value.category, b32, nI]; exact Or.inr (by decide)) | (simp [xs1, lv_args, Value.category, b32, nI]; exact Or.inl (by decide))
              have s72 : (nfold ok w (j + 1)).1 = some j → ∀ k8 n8 : Nat, k8 ≤ 0 → n8 ≤ 0 → Ex l mMo_orderNearest D R A (xQ D A Q) R.cells R.slots 72 [(4, Value.int (nI j)), (3, .int (bi (nfold ok w j).1)), (2, .int (nI i)), (1, .int k9), (0, .ref m)] [] [sMo m B th (nI ns.length) la ln ap bg wr me fi fe wa wn fo st hl rf rt cu, C, cMO D B gR gQ gL] k8 n8 := by
                intro e k8 n8 hk8 hn8'
                refine Ex.p rfl ?_
                refine Ex.p rfl ?_
                refine s75 (nI j) (by rw [e]; rfl) _ (fun q h => ?_) _ _ hk8 hn8'
                simp only [List.mem_cons, List.not_mem_nil, or_false] at h
                rcases h with rfl | rfl | rfl | rfl | rfl <;> first | (simp [xs1, lv_args, Value.category, b32, nI]; done) | (simp [xs1, lv_args, Value.category, b32, nI]; decide) | (simp [xs1, lv_args, Value.category, b32, nI]; exact Or.inr (by decide)) | (simp [xs1, lv_args, Value.category, b32, nI]; exact Or.inl (by decide))
              refine Ex.p rfl ?_
              refine Ex.gf 0 0 rfl rfl rfl ?_
              refine Ex.p rfl ?_
              refine Ex.ial 2 0 j rfl rfl rfl (nI_toInt (by omega)) (by omega) ?_
              rw [hgR j hjn]
              refine Ex.p rfl ?_
              by_cases hfj : fd j = 0
              · rw [if_pos hfj]
                have hoj : ok j = true := by rw [hokj]; exact decide_eq_true hfj
                have hnj := hnlt j hjn
                refine Ex.br rfl (fun _ => ?_) (fun c2 => ?_)
                · refine Ex.p rfl ?_
                  refine Ex.p rfl ?_
                  refine Ex.br rfl (fun c2 => ?_) (fun c2 => ?_)
                  · have c2 := (bi_m1 hb100).mp c2
                    refine s72 ?_ 0 0 (Nat.le_refl _) (Nat.le_refl _)
                    unfold nfold
                    rw [if_pos ⟨hoj, Or.inl c2⟩]
                  · have c2 : ¬ bi (nfold ok w j).1 = -1 := c2
                    rw [bi_m1 hb100] at c2
                    obtain ⟨b, hb⟩ := Option.ne_none_iff_exists'.mp c2
                    have hbj := nfold_lt hb
                    obtain ⟨hv2, hob⟩ := nfold_w hb
                    have hfb : fd b = 0 := of_decide_eq_true (by rw [← hokj]; exact hob)
                    have hgb : gR b = nI ns[b] := by rw [hgR b (by omega), if_pos hfb]
                    rw [hb]
                    refine Ex.p rfl ?_
                    refine Ex.p rfl ?_
                    refine Ex.p rfl ?_
                    refine Ex.gf 0 0 rfl rfl rfl ?_
                    refine Ex.p rfl ?_
                    refine Ex.ial 2 0 j rfl rfl rfl (nI_toInt (by omega)) (by omega) ?_
                    rw [hgR j hjn, if_pos hfj]
                    refine Ex.cv (Mc := mMo_way) (Rc := rm 2 0 0) (As := [.int k9, .int (nI ns[j])]) (rest := []) (Sr := [cMO D B gR gQ gL]) (ic := 0) (jc := 0) (ci := 10) [0, 1] [2] (ct_Mo_way iH (hat j hjn) hk9 hok (rm_ok _ _ _)) rfl lk_10_132 lcMo_way rfl rfl rfl rfl rfl (by decide) rfl rfl rfl (by decide) ⟨by dsimp only [rm]; omega, by show 8 + (3 + 11) + 80 ≤ R.locals; omega⟩ (Nat.le_of_ble_eq_true rfl) (by first | (dsimp only [rm]; omega) | omega) (by first | (dsimp only [rm]; omega) | omega) ?_
                    rintro v S1 ⟨rfl, rfl⟩
                    refine Ex.sub (S' := [sMo m B th (nI ns.length) la ln ap bg wr me fi fe wa wn fo st hl rf rt cu, C, cMO D B gR gQ gL]) [1, 2, 0] rfl rfl ?_
                    refine Ex.p rfl ?_
                    refine Ex.p rfl ?_
                    refine Ex.p rfl ?_
                    refine Ex.gf 0 0 rfl rfl rfl ?_
                    refine Ex.p rfl ?_
                    refine Ex.ial 2 0 b rfl rfl rfl (nI_toInt (by omega)) (by omega) ?_
                    rw [hgb]
                    refine Ex.cv (Mc := mMo_way) (Rc := rm 2 0 0) (As := [.int k9, .int (nI ns[b])]) (rest := [.long (hway g (mv j)).toInt64]) (Sr := [cMO D B gR gQ gL]) (ic := 0) (jc := 0) (ci := 10) [0, 1] [2] (ct_Mo_way iH (hat b (by omega)) hk9 hok (rm_ok _ _ _)) rfl lk_10_132 lcMo_way rfl rfl rfl rfl rfl (by decide) rfl rfl rfl (by decide) ⟨by dsimp only [rm]; omega, by show 8 + (3 + 11) + 80 ≤ R.locals; omega⟩ (Nat.le_of_ble_eq_true rfl) (by first | (dsimp only [rm]; omega) | omega) (by first | (dsimp only [rm]; omega) | omega) ?_
                    rintro v S1 ⟨rfl, rfl⟩
                    refine Ex.sub (S' := [sMo m B th (nI ns.length) la ln ap bg wr me fi fe wa wn fo st hl rf rt cu, C, cMO D B gR gQ gL]) [1, 2, 0] rfl rfl ?_
                    refine Ex.p rfl ?_
                    refine Ex.br rfl (fun c3 => ?_) (fun c3 => ?_)
                    · rw [lg_cmp_ge, le64] at c3
                      refine s75 (bi (some b)) ?_ _ (fun q h => ?_) _ _ (by first | (dsimp only [rm]; omega) | omega) (by first | (dsimp only [rm]; omega) | omega)
                      · unfold nfold
                        rw [if_neg]
                        · rw [hb]
                        · intro q
                          rcases q.2 with q | q
                          · rw [hb] at q
                            cases q
                          · rw [hv2, hwj, hwj] at q
                            exact absurd q (Int32.not_lt.mpr c3)
                      · simp only [List.mem_cons, List.not_mem_nil, or_false] at h
                        rcases h with rfl | rfl | rfl | rfl | rfl <;> first | (simp [xs1, lv_args, Value.category, b32, nI]; done) | (simp [xs1, lv_args, Value.category, b32, nI]; decide) | (simp [xs1, lv_args, Value.category, b32, nI]; exact Or.inr (by decide)) | (simp [xs1, lv_args, Value.category, b32, nI]; exact Or.inl (by decide))
                    · rw [lg_cmp_ge, le64] at c3
                      have hs72 := s72
                      rw [hb] at hs72
                      refine hs72 ?_ _ _ (by first | (dsimp only [rm]; omega) | omega) (by first | (dsimp only [rm]; omega) | omega)
                      unfold nfold
                      rw [if_pos]
                      refine ⟨hoj, Or.inr ?_⟩
                      rw [hv2, hwj, hwj]
                      exact Int32.not_le.mp c3
                · have c2 : ¬ ¬ nI ns[j] = Int32.ofInt (-1) := c2
                  have c2 := congrArg Int32.toInt (Decidable.not_not.mp c2)
                  rw [nI_toInt (by omega), show (Int32.ofInt (-1)).toInt = -1 from rfl] at c2
                  omega
              · rw [if_neg hfj]
                refine Ex.br rfl (fun c2 => absurd rfl c2) (fun _ => ?_)
                refine Ex.p rfl ?_
                refine s75 (bi (nfold ok w j).1) ?_ _ (fun q h => ?_) 0 0 (Nat.le_refl _) (Nat.le_refl _)
                · rw [nfold_skip (by rw [hokj]; exact decide_eq_false hfj)]
                · simp only [List.mem_cons, List.not_mem_nil, or_false] at h
                  rcases h with rfl | rfl | rfl | rfl | rfl <;> first | (simp [xs1, lv_args, Value.category, b32, nI]; done) | (simp [xs1, lv_args, Value.category, b32, nI]; decide) | (simp [xs1, lv_args, Value.category, b32, nI]; exact Or.inr (by decide)) | (simp [xs1, lv_args, Value.category, b32, nI]; exact Or.inl (by decide))
        refine Ex.p rfl ?_
        refine Ex.p rfl ?_
        refine Ex.p rfl ?_
        refine Ex.p rfl ?_
        refine inner (ns.length + 1) 0 (by omega) (by omega) _ (fun q h => ?_) 0 0 (Nat.le_refl _) (Nat.le_refl _)
        rw [show bi (nfold ok w 0).1 = Int32.ofInt (-1) from rfl] at h
        simp only [List.mem_cons, List.not_mem_nil, or_false] at h
        rcases h with rfl | rfl | rfl | rfl | rfl <;> first | (simp [xs1, lv_args, Value.category, b32, nI]; done) | (simp [xs1, lv_args, Value.category, b32, nI]; decide) | (simp [xs1, lv_args, Value.category, b32, nI]; exact Or.inr (by decide)) | (simp [xs1, lv_args, Value.category, b32, nI]; exact Or.inl (by decide))
  refine Ex.p rfl ?_
  refine Ex.p rfl ?_
  refine Ex.p rfl ?_
  refine Ex.p rfl ?_
  refine outer (ns.length + 1) 0 (fun _ => 0) ogv (-1) gR0 gQ0 (by omega) (by omega) (Or.inl ⟨rfl, rfl⟩) (fun j hj => by rw [if_pos rfl]; exact hR0 j hj) (cnt_all (fun j _ => by simp)) rfl (by simp) (fun q hq => by omega) _ (fun q h => ?_) 0 0 (Nat.le_refl _) (Nat.le_refl _)
  simp only [List.mem_cons, List.not_mem_nil, or_false] at h
  rcases h with rfl | rfl | rfl <;> first | (simp [xs1, lv_args, Value.category, b32, nI]; done) | (simp [xs1, lv_args, Value.category, b32, nI]; decide) | (simp [xs1, lv_args, Value.category, b32, nI]; exact Or.inr (by decide)) | (simp [xs1, lv_args, Value.category, b32, nI]; exact Or.inl (by decide))
end MOA

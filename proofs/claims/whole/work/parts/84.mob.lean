/-! the reference: orderExactly -/
theorem nfold_none2 {ok : Nat → Bool} {w : Nat → Int32} : ∀ {n : Nat}, (nfold ok w n).1 = none → (nfold ok w n).2 = 0
  | 0, _ => rfl
  | n + 1, h => by
    unfold nfold at h ⊢
    split at h
    · cases h
    · rename_i c
      rw [if_neg c]
      exact nfold_none2 h
theorem nfold_take {ok : Nat → Bool} {w : Nat → Int32} {n : Nat} (h : ok n = true) (h2 : (nfold ok w n).1 = none ∨ w n < (nfold ok w n).2) : nfold ok w (n + 1) = (some n, w n) := by
  show (if ok n = true ∧ ((nfold ok w n).1 = none ∨ w n < (nfold ok w n).2) then (some n, w n) else nfold ok w n) = _
  rw [if_pos ⟨h, h2⟩]
theorem nfold_leave {ok : Nat → Bool} {w : Nat → Int32} {n : Nat} (h1 : (nfold ok w n).1 ≠ none) (h2 : ¬ w n < (nfold ok w n).2) : nfold ok w (n + 1) = nfold ok w n := by
  show (if ok n = true ∧ ((nfold ok w n).1 = none ∨ w n < (nfold ok w n).2) then (some n, w n) else nfold ok w n) = _
  rw [if_neg (fun q => by rcases q.2 with q | q; exact h1 q; exact h2 q)]
theorem all_bits {n s : Nat} (hs : s < 2 ^ n) (h : ∀ j, j < n → s.testBit j = true) : s = 2 ^ n - 1 := by
  apply Nat.eq_of_testBit_eq
  intro j
  rw [Nat.testBit_two_pow_sub_one]
  rcases Nat.lt_or_ge j n with q | q
  · rw [h j q, decide_eq_true q]
  · rw [decide_eq_false (by omega), Nat.testBit_lt_two_pow (Nat.lt_of_lt_of_le hs (Nat.pow_le_pow_right (by omega) q))]
def fwM (mv : Nat → HV) (i : Nat) : Int32 := if i < 64 then hway (mv (i / 8)) (mv (i % 8)) else hway ogv (mv (i - 64))
theorem fwM_ok {n : Nat} {mv : Nat → HV} (hn : n ≤ 8) : WaysOK n mv (fwM mv) := by
  refine ⟨fun la nx h1 h2 => ?_, fun nx h => ?_⟩
  · unfold fwM
    rw [if_pos (by omega), show (la * 8 + nx) / 8 = la by omega, show (la * 8 + nx) % 8 = nx by omega]
  · unfold fwM
    rw [if_neg (by omega), show 64 + nx - 64 = nx by omega]
theorem add64 {x y : Int32} (hx : 0 ≤ x.toInt ∧ x.toInt ≤ 2000000) (hy : 0 ≤ y.toInt ∧ y.toInt ≤ 600000000) : x.toInt64 + y.toInt64 = (x + y).toInt64 ∧ (x + y).toInt = x.toInt + y.toInt := by
  have e : (x + y).toInt = x.toInt + y.toInt := by
    rw [Int32.toInt_add]
    exact Int.bmod_eq_of_le (by omega) (by omega)
  refine ⟨?_, e⟩
  apply Int64.toInt_inj.mp
  rw [Int64.toInt_add, Int32.toInt_toInt64, Int32.toInt_toInt64, Int32.toInt_toInt64, e]
  exact Int.bmod_eq_of_le (by omega) (by omega)
/-- a row of the reference's table -/
def TabAt (n : Nat) (fw fr : Nat → Int32) (gL : Nat → Int64) (s la : Nat) : Prop := gL (8 * s + la) = (fr (s * 8 + la)).toInt64 ∧ 0 ≤ (fr (s * 8 + la)).toInt ∧ (fr (s * 8 + la)).toInt ≤ 2000000 * (2 ^ n - 1 - s : Nat) ∧ RestEq n fw fr s la
theorem TabAt.keep {n : Nat} {fw fr : Nat → Int32} {gL : Nat → Int64} {s la s0 la0 : Nat} {v : Int32} {v64 : Int64} (hn : n ≤ 8) (hs : s < 256) (hla : la < n) (hla0 : la0 < n) (h : TabAt n fw fr gL s la) (hne : s0 < s ∨ (s0 = s ∧ la ≠ la0)) : TabAt n fw (upd fr (s0 * 8 + la0) v) (vp_updL gL (8 * s0 + la0) v64) s la := by
  obtain ⟨h1, h2, h3, h4⟩ := h
  refine ⟨?_, ?_, ?_, h4.keep hn hs hla hla0 hne⟩
  · rw [upd_n _ _ (by omega), updL_n _ _ (by omega)]
    exact h1
  · rw [upd_n _ _ (by omega)]
    exact h2
  · rw [upd_n _ _ (by omega)]
    exact h3
section MOB
variable {l : Launch} {D : xD} {R : Room}
theorem ct_Mo_orderExactly {m : Nat} {B : Nat → Nat} {ns : List Nat} {th ld ln ap bg wr fi fe wa wn fo st rf rt cu : Int32} {me hl : Bool} {L : Nat → List HV} {C : va_W} {gR gQ0 : Nat → Int32} {gL0 : Nat → Int64} (iH : IsMH D B L C) (hok : ∀ h ∈ L 0, hOK h) (hR : RowIs gR ns) (hns : ∀ x ∈ ns, x < (L 0).length) (hn8 : ns.length ≤ 8) (hr : rmOk R 3 0 0) : Ct l mMo_orderExactly D R [.ref m] [sMo m B th (nI ns.length) ld ln ap bg wr me fi fe wa wn fo st hl rf rt cu, C, cMO D B gR gQ0 gL0] (fun v S => v = none ∧ ∃ gR gQ gL, S = [sMo m B th (nI ns.length) ld ln ap bg wr me fi fe wa wn fo st hl rf rt cu, C, cMO D B gR gQ gL] ∧ OrdIs (L 0) ns gQ) := by
  obtain ⟨r1, r2, r3, r4⟩ := hr
  have h60 : (L 0).length ≤ 60 := by
    obtain ⟨_, _, _, _, _, _, _, _, _, -, hs⟩ := id iH
    exact (hs 0 (by omega)).2.1
  have hat : ∀ j (hj : j < ns.length), (L 0)[ns[j]]? = some (mvH (L 0) ns j) := fun j hj => mvH_at hj hns
  have hnlt : ∀ j (hj : j < ns.length), ns[j] < 60 := fun j hj => by have := hns _ (List.getElem_mem hj); omega
  have hnear : ∀ j, j < ns.length → hOK (mvH (L 0) ns j) := fun j hj => hok _ (List.mem_of_getElem? (hat j hj))
  generalize hmv : mvH (L 0) ns = mv at hat hnear
  obtain ⟨hsh, h256, h1n⟩ := sh_all ns.length hn8
  generalize hfw : fwM mv = fw
  have hW : WaysOK ns.length mv fw := by rw [← hfw]; exact fwM_ok hn8
  have hwb : ∀ la nx, (la < ns.length ∨ la = 8) → nx < ns.length → 0 ≤ (fw (la * 8 + nx)).toInt ∧ (fw (la * 8 + nx)).toInt ≤ 2000000 := by
    intro la nx h1 h2
    have hq := (hnear nx h2).near
    rcases h1 with h1 | h1
    · rw [hW.1 la nx h1 h2]
      obtain ⟨e1, e2⟩ := hway_n (hnear la h1).near.1 hq.2
      rw [e1, nI_toInt (by omega)]
      omega
    · subst h1
      rw [show 8 * 8 + nx = 64 + nx by omega, hW.2 nx h2]
      obtain ⟨e1, e2⟩ := hway_n (a := ogv) ⟨by decide, by decide⟩ hq.2
      rw [e1, nI_toInt (by omega)]
      omega
  refine Ct.of rfl (by decide) tkMo_orderExactly (Nat.le_of_ble_eq_true rfl) (fun A => ?_)
  generalize hQ : (fun (v : Option Value) S => v = none ∧ ∃ gR gQ gL, S = [sMo m B th (nI ns.length) ld ln ap bg wr me fi fe wa wn fo st hl rf rt cu, C, cMO D B gR gQ gL] ∧ OrdIs (L 0) ns gQ) = Q
  have second : ∀ (fr : Nat → Int32) (gL : Nat → Int64), (∀ s la, 0 < s → s < 2 ^ ns.length → la < ns.length → s.testBit la = true → TabAt ns.length fw fr gL s la) → ∀ lv9 : List (Nat × Value), (∀ q ∈ [(0, Value.ref m)], q ∈ lv9) → ∀ k8 n8 : Nat, k8 ≤ 0 → n8 ≤ 0 → Ex l mMo_orderExactly D R A (xQ D A Q) R.cells R.slots 167 lv9 [] [sMo m B th (nI ns.length) ld ln ap bg wr me fi fe wa wn fo st hl rf rt cu, C, cMO D B gR gQ0 gL] k8 n8 := by
    intro fr gL hTab lv9 hlv k8 n8 hk8 hn8'
    refine Ex.more (k' := 0) (n' := 0) hk8 hn8' ?_
    refine Ex.lv hlv ?_
    have hRest : RestOK ns.length fw fr := fun s la h1 h2 h3 h4 => (hTab s la h1 h2 h3 h4).2.2.2
    have outer : ∀ (k i s la : Nat) (k9 : Int32) (gQ : Nat → Int32), ns.length - i < k → i ≤ ns.length → s < 2 ^ ns.length → ((k9 = -1 ∧ la = 8) ∨ (k9 = nI la ∧ la < ns.length)) → cnt (fun j => !s.testBit j) ns.length = ns.length - i → picks ns.length fw fr (ns.length - i) s la = (picks ns.length fw fr ns.length 0 8).drop i → (picks ns.length fw fr ns.length 0 8).length = i + (picks ns.length fw fr (ns.length - i) s la).length → (∀ q, q < i → gQ q = nI (ns.getD ((picks ns.length fw fr ns.length 0 8).getD q 0) 0)) → ∀ lv9 : List (Nat × Value), (∀ q ∈ [(4, Value.int (nI i)), (3, .int k9), (2, .int (nI s)), (0, .ref m)], q ∈ lv9) → ∀ k8 n8 : Nat, k8 ≤ 0 → n8 ≤ 0 → Ex l mMo_orderExactly D R A (xQ D A Q) R.cells R.slots 174 lv9 [] [sMo m B th (nI ns.length) ld ln ap bg wr me fi fe wa wn fo st hl rf rt cu, C, cMO D B gR gQ gL] k8 n8 := by
      intro k
      induction k with
      | zero => intro i s la k9 gQ h; omega
      | succ k ih =>
        intro i s la k9 gQ hk hi hs hla hct hdr hln hgQ lv9 hlv k8 n8 hk8 hn8'
        refine Ex.more (k' := 0) (n' := 0) hk8 hn8' ?_
        refine Ex.lv hlv ?_
        have hla9 : la < ns.length ∨ la = 8 := by
          rcases hla with h | h
          · exact Or.inr h.2
          · exact Or.inl h.2
        refine Ex.p rfl ?_
        refine Ex.p rfl ?_
        refine Ex.gf 0 0 rfl rfl rfl ?_
        refine Ex.br rfl (fun c => ?_) (fun c => ?_)
        · have c : nI ns.length ≤ nI i := c
          rw [nI_leI (by omega) (by omega)] at c
          have ei : i = ns.length := by omega
          subst ei
          refine Ex.vret rfl rfl (Nat.zero_le _) (Nat.zero_le _) rfl ?_
          subst hQ
          refine ⟨rfl, gR, gQ, gL, rfl, picks ns.length fw fr ns.length 0 8, pacc fw 0 8 (picks ns.length fw fr ns.length 0 8), ⟨fun _ => ⟨fw, fr, by rw [hmv]; exact hW, hRest, rfl, rfl⟩, fun q => by omega⟩, ?_, hgQ⟩
          rw [hln, show ns.length - ns.length = 0 by omega]
          rfl
        · have c : ¬ nI ns.length ≤ nI i := c
          rw [nI_leI (by omega) (by omega)] at c
          generalize hw : bw fw fr s la = w
          generalize hok9 : (fun j => !s.testBit j) = ok at hct
          have hokj : ∀ j, ok j = !s.testBit j := fun j => by rw [← hok9]
          have hwj : ∀ j, w j = fw (la * 8 + j) + fr ((s ||| 2 ^ j) * 8 + j) := fun j => by rw [← hw]; rfl
          have s291 : ∀ (bs : Int64) (lv9 : List (Nat × Value)), (∀ q ∈ [(5, Value.int (bi (nfold ok w ns.length).1)), (4, .int (nI i)), (2, .int (nI s)), (0, .ref m)], q ∈ lv9) → ∀ k8 n8 : Nat, k8 ≤ 0 → n8 ≤ 0 → Ex l mMo_orderExactly D R A (xQ D A Q) R.cells R.slots 291 lv9 [] [sMo m B th (nI ns.length) ld ln ap bg wr me fi fe wa wn fo st hl rf rt cu, C, cMO D B gR gQ gL] k8 n8 := by
            intro bs lv9 hlv k8 n8 hk8 hn8'
            refine Ex.more (k' := 0) (n' := 0) hk8 hn8' ?_
            refine Ex.lv hlv ?_
            obtain ⟨b, hb⟩ := nfold_some (ok := ok) (w := w) (n := ns.length) (by omega)
            have hbn := nfold_lt hb
            obtain ⟨hv2, hob⟩ := nfold_w hb
            have hsb : s.testBit b = false := by
              have := hokj b
              rw [hob] at this
              simpa using this.symm
            have hor := bit_or s (by omega) b (by omega)
            have hlt : s ||| 2 ^ b < 2 ^ ns.length := Nat.or_lt_two_pow hs (Nat.pow_lt_pow_right (by omega) hbn)
            have e1 : ns.length - i = (ns.length - (i + 1)) + 1 := by omega
            have hstep : picks ns.length fw fr (ns.length - i) s la = b :: picks ns.length fw fr (ns.length - (i + 1)) (s ||| 2 ^ b) b := by
              rw [e1]
              conv => lhs; unfold picks
              rw [hok9, hw, hb]
            rw [hb]
            refine Ex.p rfl ?_
            refine Ex.gf 0 0 rfl rfl rfl ?_
            refine Ex.p rfl ?_
            refine Ex.p rfl ?_
            refine Ex.gf 0 0 rfl rfl rfl ?_
            refine Ex.p rfl ?_
            refine Ex.ial 2 0 b rfl rfl rfl (nI_toInt (by omega)) (by omega) ?_
            rw [hR b hbn]
            refine Ex.ias 2 1 i rfl rfl rfl (nI_toInt (by omega)) (by omega) ?_
            refine Ex.p rfl ?_
            refine Ex.p rfl ?_
            refine Ex.p rfl ?_
            refine Ex.p rfl ?_
            refine Ex.p rfl ?_
            rw [show (nI s ||| (Int32.ofInt 1 <<< (bi (some b) &&& 31))) = nI (s ||| 2 ^ b) from hor.1]
            refine Ex.p rfl ?_
            refine Ex.p rfl ?_
            refine Ex.p rfl ?_
            refine Ex.p rfl ?_
            refine Ex.p rfl ?_
            rw [i_add1]
            rw [hstep] at hdr hln
            refine ih (i + 1) (s ||| 2 ^ b) b (nI b) (upd gQ i (nI ns[b])) (by omega) (by omega) hlt (Or.inr ⟨rfl, hbn⟩) ?_ ?_ ?_ (fun q hq => ?_) _ (fun q h => ?_) 0 0 (Nat.le_refl _) (Nat.le_refl _)
            · have := cnt_upd (ok := ok) (ok' := fun j => !(s ||| 2 ^ b).testBit j) (b := b) hob (by simp [Nat.testBit_or, Nat.testBit_two_pow_self]) (fun j hj => by rw [hokj, Nat.testBit_or, Nat.testBit_two_pow, decide_eq_false (fun q => hj q.symm), Bool.or_false]) hbn
              omega
            · rw [← List.drop_drop, ← hdr]
              rfl
            · rw [hln]
              simp only [List.length_cons]
              omega
            · rcases Nat.lt_or_ge q i with g9 | g9
              · rw [upd_n _ _ (by omega)]
                exact hgQ q g9
              · have eq9 : q = i := by omega
                subst eq9
                rw [upd_s]
                have h9 : (picks ns.length fw fr ns.length 0 8)[q]? = some b := by
                  rw [← Nat.add_zero q, ← List.getElem?_drop, ← hdr]
                  rfl
                rw [List.getD_eq_getElem?_getD (l := picks _ _ _ _ _ _), h9]
                show nI ns[b] = nI (ns.getD b 0)
                rw [List.getD_eq_getElem?_getD, List.getElem?_eq_getElem hbn]
                rfl
            · rw [show nI b = bi (some b) from rfl] at h
              simp only [List.mem_cons, List.not_mem_nil, or_false] at h
              rcases h with rfl | rfl | rfl | rfl <;> first | (simp [xs1, xs2, lv_args, Value.category, b32, nI]; done) | (simp [xs1, xs2, lv_args, Value.category, b32, nI]; decide) | (simp [xs1, xs2, lv_args, Value.category, b32, nI]; exact Or.inr (by decide)) | (simp [xs1, xs2, lv_args, Value.category, b32, nI]; exact Or.inl (by decide))
          have inner : ∀ (k j : Nat), ns.length - j < k → j ≤ ns.length → ∀ lv9 : List (Nat × Value), (∀ q ∈ [(8, Value.int (nI j)), (6, .long (nfold ok w j).2.toInt64), (5, .int (bi (nfold ok w j).1)), (4, .int (nI i)), (3, .int k9), (2, .int (nI s)), (0, .ref m)], q ∈ lv9) → ∀ k8 n8 : Nat, k8 ≤ 0 → n8 ≤ 0 → Ex l mMo_orderExactly D R A (xQ D A Q) R.cells R.slots 192 lv9 [] [sMo m B th (nI ns.length) ld ln ap bg wr me fi fe wa wn fo st hl rf rt cu, C, cMO D B gR gQ gL] k8 n8 := by
            intro k
            induction k with
            | zero => intro j h; omega
            | succ k ihj =>
              intro j hk hj lv9 hlv k8 n8 hk8 hn8'
              refine Ex.more (k' := 0) (n' := 0) hk8 hn8' ?_
              refine Ex.lv hlv ?_
              refine Ex.p rfl ?_
              refine Ex.p rfl ?_
              refine Ex.gf 0 0 rfl rfl rfl ?_
              refine Ex.br rfl (fun c1 => ?_) (fun c1 => ?_)
              · have c1 : nI ns.length ≤ nI j := c1
                rw [nI_leI (by omega) (by omega)] at c1
                have ej : j = ns.length := by omega
                subst ej
                refine s291 0 _ (fun q h => ?_) 0 0 (Nat.le_refl _) (Nat.le_refl _)
                simp only [List.mem_cons, List.not_mem_nil, or_false] at h
                rcases h with rfl | rfl | rfl | rfl <;> first | (simp [xs1, xs2, lv_args, Value.category, b32, nI]; done) | (simp [xs1, xs2, lv_args, Value.category, b32, nI]; decide) | (simp [xs1, xs2, lv_args, Value.category, b32, nI]; exact Or.inr (by decide)) | (simp [xs1, xs2, lv_args, Value.category, b32, nI]; exact Or.inl (by decide))
              · have c1 : ¬ nI ns.length ≤ nI j := c1
                rw [nI_leI (by omega) (by omega)] at c1
                have hjn : j < ns.length := by omega
                have hnj := hnlt j hjn
                have hb100 : ∀ b, (nfold ok w j).1 = some b → b < 100 := fun b hb => by have := nfold_lt hb; omega
                have s285 : ∀ (p9 : Int32) (v9 : Int64), p9 = bi (nfold ok w (j + 1)).1 → v9 = (nfold ok w (j + 1)).2.toInt64 → ∀ lv9 : List (Nat × Value), (∀ q ∈ [(8, Value.int (nI j)), (6, .long v9), (5, .int p9), (4, .int (nI i)), (3, .int k9), (2, .int (nI s)), (0, .ref m)], q ∈ lv9) → ∀ k8 n8 : Nat, k8 ≤ 0 → n8 ≤ 0 → Ex l mMo_orderExactly D R A (xQ D A Q) R.cells R.slots 285 lv9 [] [sMo m B th (nI ns.length) ld ln ap bg wr me fi fe wa wn fo st hl rf rt cu, C, cMO D B gR gQ gL] k8 n8 := by
                  intro p9 v9 hp9 hv9 lv9 hlv k8 n8 hk8 hn8'
                  subst hp9 hv9
                  refine Ex.lv hlv ?_
                  refine Ex.p rfl ?_
                  refine Ex.p rfl ?_
                  rw [i_add1]
                  refine ihj (j + 1) (by omega) (by omega) _ (fun q h => ?_) _ _ hk8 hn8'
                  simp only [List.mem_cons, List.not_mem_nil, or_false] at h
                  rcases h with rfl | rfl | rfl | rfl | rfl | rfl | rfl <;> first | (simp [xs1, xs2, lv_args, Value.category, b32, nI]; done) | (simp [xs1, xs2, lv_args, Value.category, b32, nI]; decide) | (simp [xs1, xs2, lv_args, Value.category, b32, nI]; exact Or.inr (by decide)) | (simp [xs1, xs2, lv_args, Value.category, b32, nI]; exact Or.inl (by decide))
                have hb1 := bit_1 s (by omega) j (by omega)
                refine Ex.p rfl ?_
                refine Ex.p rfl ?_
                refine Ex.p rfl ?_
                refine Ex.p rfl ?_
                refine Ex.p rfl ?_
                refine Ex.p rfl ?_
                refine Ex.br rfl (fun c2 => ?_) (fun c2 => ?_)
                · have c2 : ¬ ((nI s >>> (nI j &&& 31)) &&& Int32.ofInt 1) = Int32.ofInt 1 := c2
                  rw [hb1] at c2
                  have hsj : s.testBit j = false := by simpa using c2
                  have hoj : ok j = true := by rw [hokj, hsj]; rfl
                  have hor := bit_or s (by omega) j (by omega)
                  have hlt : s ||| 2 ^ j < 2 ^ ns.length := Nat.or_lt_two_pow hs (Nat.pow_lt_pow_right (by omega) hjn)
                  have hgt := (or_gt s (by omega) j (by omega)).2 hsj
                  obtain ⟨t1, t2, t3, -⟩ := hTab (s ||| 2 ^ j) j (by omega) hlt hjn (by rw [Nat.testBit_or, Nat.testBit_two_pow_self, Bool.or_true])
                  have hw9 := hwb la j hla9 hjn
                  have hmul : 2000000 * (2 ^ ns.length - 1 - (s ||| 2 ^ j)) ≤ 2000000 * 255 := Nat.mul_le_mul_left _ (by omega)
                  obtain ⟨a1, a2⟩ := add64 (x := fw (la * 8 + j)) (y := fr ((s ||| 2 ^ j) * 8 + j)) hw9 ⟨t2, by omega⟩
                  have s230 : ∀ (g : HV) (kk : Int32), fw (la * 8 + j) = hway g (mv j) → ((kk = -1 ∧ g = ogv) ∨ ∃ b, kk = nI b ∧ (L 0)[b]? = some g) → Ex l mMo_orderExactly D R A (xQ D A Q) R.cells R.slots 230 [(8, Value.int (nI j)), (6, .long (nfold ok w j).2.toInt64), (5, .int (bi (nfold ok w j).1)), (4, .int (nI i)), (3, .int k9), (2, .int (nI s)), (0, .ref m)] [.int kk, .ref m] [sMo m B th (nI ns.length) ld ln ap bg wr me fi fe wa wn fo st hl rf rt cu, C, cMO D B gR gQ gL] 0 0 := by
                    intro g kk hg hkk
                    refine Ex.p rfl ?_
                    refine Ex.gf 0 0 rfl rfl rfl ?_
                    refine Ex.p rfl ?_
                    refine Ex.ial 2 0 j rfl rfl rfl (nI_toInt (by omega)) (by omega) ?_
                    rw [hR j hjn]
                    refine Ex.cv (Mc := mMo_way) (Rc := rm 2 0 0) (As := [.int kk, .int (nI ns[j])]) (rest := []) (Sr := [cMO D B gR gQ gL]) (ic := 0) (jc := 0) (ci := 10) [0, 1] [2] (ct_Mo_way iH (hat j hjn) hkk hok (rm_ok _ _ _)) rfl lk_10_132 lcMo_way rfl rfl rfl rfl rfl (by decide) rfl rfl rfl (by decide) ⟨by dsimp only [rm]; omega, by show 8 + (3 + 11) + 80 ≤ R.locals; omega⟩ (Nat.le_of_ble_eq_true rfl) (by first | (dsimp only [rm]; omega) | omega) (by first | (dsimp only [rm]; omega) | omega) ?_
                    rintro v S1 ⟨rfl, rfl⟩
                    refine Ex.sub (S' := [sMo m B th (nI ns.length) ld ln ap bg wr me fi fe wa wn fo st hl rf rt cu, C, cMO D B gR gQ gL]) [1, 2, 0] rfl rfl ?_
                    rw [← hg]
                    refine Ex.p rfl ?_
                    refine Ex.gf 0 0 rfl rfl rfl ?_
                    refine Ex.p rfl ?_
                    refine Ex.p rfl ?_
                    refine Ex.p rfl ?_
                    refine Ex.p rfl ?_
                    refine Ex.p rfl ?_
                    refine Ex.p rfl ?_
                    rw [show (nI s ||| (Int32.ofInt 1 <<< (nI j &&& 31))) = nI (s ||| 2 ^ j) from hor.1]
                    refine Ex.p rfl ?_
                    rw [show (Int8.ofInt 8).toInt32 * nI (s ||| 2 ^ j) = nI (8 * (s ||| 2 ^ j)) from pk_mul 8 _]
                    refine Ex.p rfl ?_
                    refine Ex.p rfl ?_
                    rw [nI_add]
                    refine Ex.lal 2 2 (8 * (s ||| 2 ^ j) + j) rfl rfl rfl (nI_toInt (by omega)) (by omega) ?_
                    rw [t1]
                    refine Ex.p rfl ?_
                    rw [a1, ← hwj j]
                    refine Ex.p rfl ?_
                    refine Ex.p rfl ?_
                    refine Ex.p rfl ?_
                    have s277 : nfold ok w (j + 1) = (some j, w j) → ∀ lv9 : List (Nat × Value), (∀ q ∈ [(9, Value.long (w j).toInt64), (8, .int (nI j)), (4, .int (nI i)), (3, .int k9), (2, .int (nI s)), (0, .ref m)], q ∈ lv9) → ∀ k8 n8 : Nat, k8 ≤ 0 → n8 ≤ 0 → Ex l mMo_orderExactly D R A (xQ D A Q) R.cells R.slots 277 lv9 [] [sMo m B th (nI ns.length) ld ln ap bg wr me fi fe wa wn fo st hl rf rt cu, C, cMO D B gR gQ gL] k8 n8 := by
                      intro e lv9 hlv k8 n8 hk8 hn8'
                      refine Ex.lv hlv ?_
                      refine Ex.p rfl ?_
                      refine Ex.p rfl ?_
                      refine Ex.p rfl ?_
                      refine Ex.p rfl ?_
                      refine s285 (nI j) (w j).toInt64 (by rw [e]; rfl) (by rw [e]) _ (fun q h => ?_) _ _ hk8 hn8'
                      simp only [List.mem_cons, List.not_mem_nil, or_false] at h
                      rcases h with rfl | rfl | rfl | rfl | rfl | rfl | rfl <;> first | (simp [xs1, xs2, lv_args, Value.category, b32, nI]; done) | (simp [xs1, xs2, lv_args, Value.category, b32, nI]; decide) | (simp [xs1, xs2, lv_args, Value.category, b32, nI]; exact Or.inr (by decide)) | (simp [xs1, xs2, lv_args, Value.category, b32, nI]; exact Or.inl (by decide))
                    refine Ex.br rfl (fun c3 => ?_) (fun c3 => ?_)
                    · have c3 := (bi_m1 hb100).mp c3
                      refine s277 (nfold_take hoj (Or.inl c3)) _ (fun q h => ?_) _ _ (by first | (dsimp only [rm]; omega) | omega) (by first | (dsimp only [rm]; omega) | omega)
                      simp only [List.mem_cons, List.not_mem_nil, or_false] at h
                      rcases h with rfl | rfl | rfl | rfl | rfl | rfl <;> first | (simp [xs1, xs2, lv_args, Value.category, b32, nI]; done) | (simp [xs1, xs2, lv_args, Value.category, b32, nI]; decide) | (simp [xs1, xs2, lv_args, Value.category, b32, nI]; exact Or.inr (by decide)) | (simp [xs1, xs2, lv_args, Value.category, b32, nI]; exact Or.inl (by decide))
                    · have c3 : ¬ bi (nfold ok w j).1 = -1 := c3
                      rw [bi_m1 hb100] at c3
                      refine Ex.p rfl ?_
                      refine Ex.p rfl ?_
                      refine Ex.p rfl ?_
                      refine Ex.br rfl (fun c4 => ?_) (fun c4 => ?_)
                      · rw [lg_cmp_lt, lt64] at c4
                        refine s277 (nfold_take hoj (Or.inr c4)) _ (fun q h => ?_) _ _ (by first | (dsimp only [rm]; omega) | omega) (by first | (dsimp only [rm]; omega) | omega)
                        simp only [List.mem_cons, List.not_mem_nil, or_false] at h
                        rcases h with rfl | rfl | rfl | rfl | rfl | rfl <;> first | (simp [xs1, xs2, lv_args, Value.category, b32, nI]; done) | (simp [xs1, xs2, lv_args, Value.category, b32, nI]; decide) | (simp [xs1, xs2, lv_args, Value.category, b32, nI]; exact Or.inr (by decide)) | (simp [xs1, xs2, lv_args, Value.category, b32, nI]; exact Or.inl (by decide))
                      · rw [lg_cmp_lt, lt64] at c4
                        have e := nfold_leave (ok := ok) c3 c4
                        refine Ex.p rfl ?_
                        refine s285 (bi (nfold ok w j).1) (nfold ok w j).2.toInt64 (by rw [e]) (by rw [e]) _ (fun q h => ?_) _ _ (by first | (dsimp only [rm]; omega) | omega) (by first | (dsimp only [rm]; omega) | omega)
                        simp only [List.mem_cons, List.not_mem_nil, or_false] at h
                        rcases h with rfl | rfl | rfl | rfl | rfl | rfl | rfl <;> first | (simp [xs1, xs2, lv_args, Value.category, b32, nI]; done) | (simp [xs1, xs2, lv_args, Value.category, b32, nI]; decide) | (simp [xs1, xs2, lv_args, Value.category, b32, nI]; exact Or.inr (by decide)) | (simp [xs1, xs2, lv_args, Value.category, b32, nI]; exact Or.inl (by decide))
                  refine Ex.p rfl ?_
                  refine Ex.p rfl ?_
                  refine Ex.p rfl ?_
                  rcases hla with ⟨rfl, rfl⟩ | ⟨rfl, hla⟩
                  · refine Ex.br rfl (fun c3 => absurd rfl c3) (fun _ => ?_)
                    refine Ex.p rfl ?_
                    refine Ex.p rfl ?_
                    exact s230 ogv (-1) (by rw [show 8 * 8 + j = 64 + j by omega]; exact hW.2 j hjn) (Or.inl ⟨rfl, rfl⟩)
                  · have hnla := hnlt la hla
                    refine Ex.br rfl (fun _ => ?_) (fun c3 => ?_)
                    · refine Ex.p rfl ?_
                      refine Ex.gf 0 0 rfl rfl rfl ?_
                      refine Ex.p rfl ?_
                      refine Ex.ial 2 0 la rfl rfl rfl (nI_toInt (by omega)) (by omega) ?_
                      rw [hR la hla]
                      exact s230 (mv la) (nI ns[la]) (hW.1 la j hla hjn) (Or.inr ⟨_, rfl, hat la hla⟩)
                    · have c3 : ¬ ¬ nI la = Int32.ofInt (-1) := c3
                      have c3 := congrArg Int32.toInt (Decidable.not_not.mp c3)
                      rw [nI_toInt (by omega), show (Int32.ofInt (-1)).toInt = -1 from rfl] at c3
                      omega
                · have c2 : ¬ ¬ ((nI s >>> (nI j &&& 31)) &&& Int32.ofInt 1) = Int32.ofInt 1 := c2
                  have c2 := hb1.mp (Decidable.not_not.mp c2)
                  have e := nfold_skip (ok := ok) (w := w) (n := j) (by rw [hokj, c2]; rfl)
                  refine Ex.p rfl ?_
                  refine s285 (bi (nfold ok w j).1) (nfold ok w j).2.toInt64 (by rw [e]) (by rw [e]) _ (fun q h => ?_) 0 0 (Nat.le_refl _) (Nat.le_refl _)
                  simp only [List.mem_cons, List.not_mem_nil, or_false] at h
                  rcases h with rfl | rfl | rfl | rfl | rfl | rfl | rfl <;> first | (simp [xs1, xs2, lv_args, Value.category, b32, nI]; done) | (simp [xs1, xs2, lv_args, Value.category, b32, nI]; decide) | (simp [xs1, xs2, lv_args, Value.category, b32, nI]; exact Or.inr (by decide)) | (simp [xs1, xs2, lv_args, Value.category, b32, nI]; exact Or.inl (by decide))
          refine Ex.p rfl ?_
          refine Ex.p rfl ?_
          refine Ex.p rfl ?_
          refine Ex.p rfl ?_
          refine Ex.p rfl ?_
          refine Ex.p rfl ?_
          refine inner (ns.length + 1) 0 (by omega) (by omega) _ (fun q h => ?_) 0 0 (Nat.le_refl _) (Nat.le_refl _)
          rw [show bi (nfold ok w 0).1 = Int32.ofInt (-1) from rfl, show (nfold ok w 0).2.toInt64 = Int64.ofNat 0 from rfl] at h
          simp only [List.mem_cons, List.not_mem_nil, or_false] at h
          rcases h with rfl | rfl | rfl | rfl | rfl | rfl | rfl <;> first | (simp [xs1, xs2, lv_args, Value.category, b32, nI]; done) | (simp [xs1, xs2, lv_args, Value.category, b32, nI]; decide) | (simp [xs1, xs2, lv_args, Value.category, b32, nI]; exact Or.inr (by decide)) | (simp [xs1, xs2, lv_args, Value.category, b32, nI]; exact Or.inl (by decide))
    refine Ex.p rfl ?_
    refine Ex.p rfl ?_
    refine Ex.p rfl ?_
    refine Ex.p rfl ?_
    refine Ex.p rfl ?_
    refine Ex.p rfl ?_
    refine outer (ns.length + 1) 0 0 8 (-1) gQ0 (by omega) (by omega) (by omega) (Or.inl ⟨rfl, rfl⟩) (cnt_all (fun j _ => by simp)) rfl (by simp) (fun q hq => by omega) _ (fun q h => ?_) 0 0 (Nat.le_refl _) (Nat.le_refl _)
    simp only [List.mem_cons, List.not_mem_nil, or_false] at h
    rcases h with rfl | rfl | rfl | rfl <;> first | (simp [xs1, xs2, lv_args, Value.category, b32, nI]; done) | (simp [xs1, xs2, lv_args, Value.category, b32, nI]; decide) | (simp [xs1, xs2, lv_args, Value.category, b32, nI]; exact Or.inr (by decide)) | (simp [xs1, xs2, lv_args, Value.category, b32, nI]; exact Or.inl (by decide))
  have first : ∀ (s : Nat), s < 2 ^ ns.length → ∀ (fr : Nat → Int32) (gL : Nat → Int64), (∀ s' la, s < s' → s' < 2 ^ ns.length → la < ns.length → s'.testBit la = true → TabAt ns.length fw fr gL s' la) → ∀ lv9 : List (Nat × Value), (∀ q ∈ [(2, Value.int (nI s)), (1, .int (nI (2 ^ ns.length - 1))), (0, .ref m)], q ∈ lv9) → ∀ k8 n8 : Nat, k8 ≤ 0 → n8 ≤ 0 → Ex l mMo_orderExactly D R A (xQ D A Q) R.cells R.slots 11 lv9 [] [sMo m B th (nI ns.length) ld ln ap bg wr me fi fe wa wn fo st hl rf rt cu, C, cMO D B gR gQ0 gL] k8 n8 := by
    intro s
    induction s with
    | zero =>
      intro hs fr gL hTab lv9 hlv k8 n8 hk8 hn8'
      refine Ex.more (k' := 0) (n' := 0) hk8 hn8' ?_
      refine Ex.lv hlv ?_
      refine Ex.p rfl ?_
      refine Ex.br rfl (fun _ => ?_) (fun c => absurd (by decide) c)
      refine second fr gL (fun s' la h1 h2 h3 h4 => hTab s' la h1 h2 h3 h4) _ (fun q h => ?_) 0 0 (Nat.le_refl _) (Nat.le_refl _)
      simp only [List.mem_cons, List.not_mem_nil, or_false] at h
      rcases h with rfl <;> first | (simp [xs1, xs2, lv_args, Value.category, b32, nI]; done) | (simp [xs1, xs2, lv_args, Value.category, b32, nI]; decide) | (simp [xs1, xs2, lv_args, Value.category, b32, nI]; exact Or.inr (by decide)) | (simp [xs1, xs2, lv_args, Value.category, b32, nI]; exact Or.inl (by decide))
    | succ σ ih =>
      intro hs fr gL hTab lv9 hlv k8 n8 hk8 hn8'
      refine Ex.more (k' := 0) (n' := 0) hk8 hn8' ?_
      refine Ex.lv hlv ?_
      generalize hσ : σ + 1 = s at hs hTab ⊢
      refine Ex.p rfl ?_
      refine Ex.br rfl (fun c => absurd c (nI_nle (by omega) (by omega))) (fun _ => ?_)
      have lasts : ∀ (k la : Nat) (fr : Nat → Int32) (gL : Nat → Int64), ns.length - la < k → la ≤ ns.length → (∀ s' la, s < s' → s' < 2 ^ ns.length → la < ns.length → s'.testBit la = true → TabAt ns.length fw fr gL s' la) → (∀ la', la' < la → s.testBit la' = true → TabAt ns.length fw fr gL s la') → ∀ lv9 : List (Nat × Value), (∀ q ∈ [(3, Value.int (nI la)), (2, .int (nI s)), (1, .int (nI (2 ^ ns.length - 1))), (0, .ref m)], q ∈ lv9) → ∀ k8 n8 : Nat, k8 ≤ 0 → n8 ≤ 0 → Ex l mMo_orderExactly D R A (xQ D A Q) R.cells R.slots 17 lv9 [] [sMo m B th (nI ns.length) ld ln ap bg wr me fi fe wa wn fo st hl rf rt cu, C, cMO D B gR gQ0 gL] k8 n8 := by
        intro k
        induction k with
        | zero => intro la fr gL h; omega
        | succ k ihl =>
          intro la fr gL hk hla h1 h2 lv9 hlv k8 n8 hk8 hn8'
          refine Ex.more (k' := 0) (n' := 0) hk8 hn8' ?_
          refine Ex.lv hlv ?_
          refine Ex.p rfl ?_
          refine Ex.p rfl ?_
          refine Ex.gf 0 0 rfl rfl rfl ?_
          refine Ex.br rfl (fun c => ?_) (fun c => ?_)
          · have c : nI ns.length ≤ nI la := c
            rw [nI_leI (by omega) (by omega)] at c
            refine Ex.p rfl ?_
            refine Ex.p rfl ?_
            rw [show nI s + Int32.ofInt (-1) = nI σ from by rw [← hσ]; exact i_addm1 σ]
            refine ih (by omega) fr gL (fun s' la' g1 g2 g3 g4 => ?_) _ (fun q h => ?_) 0 0 (Nat.le_refl _) (Nat.le_refl _)
            · by_cases e : s' = s
              · subst e
                exact h2 la' (by omega) g4
              · exact h1 s' la' (by omega) g2 g3 g4
            · simp only [List.mem_cons, List.not_mem_nil, or_false] at h
              rcases h with rfl | rfl | rfl <;> first | (simp [xs1, xs2, lv_args, Value.category, b32, nI]; done) | (simp [xs1, xs2, lv_args, Value.category, b32, nI]; decide) | (simp [xs1, xs2, lv_args, Value.category, b32, nI]; exact Or.inr (by decide)) | (simp [xs1, xs2, lv_args, Value.category, b32, nI]; exact Or.inl (by decide))
          · have c : ¬ nI ns.length ≤ nI la := c
            rw [nI_leI (by omega) (by omega)] at c
            have hlan : la < ns.length := by omega
            have hnla := hnlt la hlan
            have hbt := bit_t s (by omega) la (by omega)
            have s155 : ∀ (fr : Nat → Int32) (gL : Nat → Int64), (∀ s' la, s < s' → s' < 2 ^ ns.length → la < ns.length → s'.testBit la = true → TabAt ns.length fw fr gL s' la) → (∀ la', la' < la + 1 → s.testBit la' = true → TabAt ns.length fw fr gL s la') → ∀ lv9 : List (Nat × Value), (∀ q ∈ [(3, Value.int (nI la)), (2, .int (nI s)), (1, .int (nI (2 ^ ns.length - 1))), (0, .ref m)], q ∈ lv9) → ∀ k8 n8 : Nat, k8 ≤ 0 → n8 ≤ 0 → Ex l mMo_orderExactly D R A (xQ D A Q) R.cells R.slots 155 lv9 [] [sMo m B th (nI ns.length) ld ln ap bg wr me fi fe wa wn fo st hl rf rt cu, C, cMO D B gR gQ0 gL] k8 n8 := by
              intro fr gL g1 g2 lv9 hlv k8 n8 hk8 hn8'
              refine Ex.lv hlv ?_
              refine Ex.p rfl ?_
              refine Ex.p rfl ?_
              rw [i_add1]
              refine ihl (la + 1) fr gL (by omega) (by omega) g1 g2 _ (fun q h => ?_) _ _ hk8 hn8'
              simp only [List.mem_cons, List.not_mem_nil, or_false] at h
              rcases h with rfl | rfl | rfl | rfl <;> first | (simp [xs1, xs2, lv_args, Value.category, b32, nI]; done) | (simp [xs1, xs2, lv_args, Value.category, b32, nI]; decide) | (simp [xs1, xs2, lv_args, Value.category, b32, nI]; exact Or.inr (by decide)) | (simp [xs1, xs2, lv_args, Value.category, b32, nI]; exact Or.inl (by decide))
            refine Ex.p rfl ?_
            refine Ex.p rfl ?_
            refine Ex.p rfl ?_
            refine Ex.p rfl ?_
            refine Ex.p rfl ?_
            refine Ex.br rfl (fun c2 => ?_) (fun c2 => ?_)
            · have c2 : ¬ ((nI s >>> (nI la &&& 31)) &&& Int32.ofInt 1) = 0 := c2
              rw [hbt] at c2
              have hsla : s.testBit la = true := by simpa using c2
              generalize hw : bw fw fr s la = w
              generalize hok9 : (fun j => !s.testBit j) = ok
              have hokj : ∀ j, ok j = !s.testBit j := fun j => by rw [← hok9]
              have hwj : ∀ j, w j = fw (la * 8 + j) + fr ((s ||| 2 ^ j) * 8 + j) := fun j => by rw [← hw]; rfl
              have hwpos : ∀ j, j < ns.length → ok j = true → ((fw (la * 8 + j)).toInt64 + gL (8 * (s ||| 2 ^ j) + j) = (w j).toInt64 ∧ 0 ≤ (w j).toInt ∧ (w j).toInt ≤ 2000000 * (2 ^ ns.length - 1 - s : Nat)) := by
                intro j hjn hoj
                have hsj : s.testBit j = false := by
                  have := hokj j
                  rw [hoj] at this
                  simpa using this.symm
                have hlt : s ||| 2 ^ j < 2 ^ ns.length := Nat.or_lt_two_pow hs (Nat.pow_lt_pow_right (by omega) hjn)
                have hgt := (or_gt s (by omega) j (by omega)).2 hsj
                obtain ⟨t1, t2, t3, -⟩ := h1 (s ||| 2 ^ j) j hgt hlt hjn (by rw [Nat.testBit_or, Nat.testBit_two_pow_self, Bool.or_true])
                have hw9 := hwb la j (Or.inl hlan) hjn
                obtain ⟨a1, a2⟩ := add64 (x := fw (la * 8 + j)) (y := fr ((s ||| 2 ^ j) * 8 + j)) hw9 ⟨t2, by omega⟩
                rw [t1, hwj, a1]
                exact ⟨rfl, by omega, by omega⟩
              have s142 : ∀ (v9 : Int64), v9 = (nfold ok w ns.length).2.toInt64 → ∀ lv9 : List (Nat × Value), (∀ q ∈ [(4, Value.long v9), (3, .int (nI la)), (2, .int (nI s)), (1, .int (nI (2 ^ ns.length - 1))), (0, .ref m)], q ∈ lv9) → ∀ k8 n8 : Nat, k8 ≤ 0 → n8 ≤ 0 → Ex l mMo_orderExactly D R A (xQ D A Q) R.cells R.slots 142 lv9 [] [sMo m B th (nI ns.length) ld ln ap bg wr me fi fe wa wn fo st hl rf rt cu, C, cMO D B gR gQ0 gL] k8 n8 := by
                intro v9 hv9 lv9 hlv k8 n8 hk8 hn8'
                refine Ex.lv hlv ?_
                refine Ex.p rfl ?_
                refine Ex.gf 0 0 rfl rfl rfl ?_
                refine Ex.p rfl ?_
                refine Ex.p rfl ?_
                refine Ex.p rfl ?_
                rw [show (Int8.ofInt 8).toInt32 * nI s = nI (8 * s) from pk_mul 8 _]
                refine Ex.p rfl ?_
                refine Ex.p rfl ?_
                rw [nI_add]
                refine Ex.p rfl ?_
                refine Ex.las 2 2 (8 * s + la) rfl rfl rfl (nI_toInt (by omega)) (by omega) ?_
                have hbd : 0 ≤ (nfold ok w ns.length).2.toInt ∧ (nfold ok w ns.length).2.toInt ≤ 2000000 * (2 ^ ns.length - 1 - s : Nat) := by
                  cases e : (nfold ok w ns.length).1 with
                  | none =>
                    rw [nfold_none2 e]
                    exact ⟨by decide, by rw [show (0 : Int32).toInt = 0 from rfl]; omega⟩
                  | some b =>
                    obtain ⟨e1, e2⟩ := nfold_w e
                    rw [e1]
                    exact (hwpos b (nfold_lt e) e2).2
                refine s155 (upd fr (s * 8 + la) (nfold ok w ns.length).2) (vp_updL gL (8 * s + la) v9) (fun s' la' g1 g2 g3 g4 => ?_) (fun la' g1 g4 => ?_) _ (fun q h => ?_) _ _ hk8 hn8'
                · exact (h1 s' la' g1 g2 g3 g4).keep hn8 (by omega) g3 hlan (Or.inl g1)
                · by_cases e : la' = la
                  · subst e
                    refine ⟨by rw [upd_s, updL_s, hv9], by rw [upd_s]; exact hbd.1, by rw [upd_s]; exact hbd.2, ?_⟩
                    unfold RestEq
                    rw [upd_s]
                    congr 1
                    rw [hok9]
                    refine nfold_congr fun j2 hj2 ho => ?_
                    have hb : s.testBit j2 = false := by
                      have := hokj j2
                      rw [ho] at this
                      simpa using this.symm
                    have := (or_gt s (by omega) j2 (by omega)).2 hb
                    rw [← hw]
                    unfold bw
                    rw [upd_n _ _ (by omega)]
                  · exact (h2 la' (by omega) g4).keep hn8 (by omega) (by omega) hlan (Or.inr ⟨rfl, e⟩)
                · simp only [List.mem_cons, List.not_mem_nil, or_false] at h
                  rcases h with rfl | rfl | rfl | rfl <;> first | (simp [xs1, xs2, lv_args, Value.category, b32, nI]; done) | (simp [xs1, xs2, lv_args, Value.category, b32, nI]; decide) | (simp [xs1, xs2, lv_args, Value.category, b32, nI]; exact Or.inr (by decide)) | (simp [xs1, xs2, lv_args, Value.category, b32, nI]; exact Or.inl (by decide))
              have inner : ∀ (k j : Nat) (b64 : Int64), ns.length - j < k → j ≤ ns.length → ((nfold ok w j).1 ≠ none → b64 = (nfold ok w j).2.toInt64) → ((nfold ok w j).1 = none → b64 = if s = 2 ^ ns.length - 1 then 0 else -1) → ∀ lv9 : List (Nat × Value), (∀ q ∈ [(6, Value.int (nI j)), (4, .long b64), (3, .int (nI la)), (2, .int (nI s)), (1, .int (nI (2 ^ ns.length - 1))), (0, .ref m)], q ∈ lv9) → ∀ k8 n8 : Nat, k8 ≤ 0 → n8 ≤ 0 → Ex l mMo_orderExactly D R A (xQ D A Q) R.cells R.slots 53 lv9 [] [sMo m B th (nI ns.length) ld ln ap bg wr me fi fe wa wn fo st hl rf rt cu, C, cMO D B gR gQ0 gL] k8 n8 := by
                intro k
                induction k with
                | zero => intro j b64 h; omega
                | succ k ihj =>
                  intro j b64 hk hj e1 e2 lv9 hlv k8 n8 hk8 hn8'
                  refine Ex.more (k' := 0) (n' := 0) hk8 hn8' ?_
                  refine Ex.lv hlv ?_
                  refine Ex.p rfl ?_
                  refine Ex.p rfl ?_
                  refine Ex.gf 0 0 rfl rfl rfl ?_
                  refine Ex.br rfl (fun c3 => ?_) (fun c3 => ?_)
                  · have c3 : nI ns.length ≤ nI j := c3
                    rw [nI_leI (by omega) (by omega)] at c3
                    have ej : j = ns.length := by omega
                    subst ej
                    refine s142 b64 ?_ _ (fun q h => ?_) 0 0 (Nat.le_refl _) (Nat.le_refl _)
                    · cases e : (nfold ok w ns.length).1 with
                      | none =>
                        rw [nfold_none2 e, e2 e, if_pos]
                        · rfl
                        · refine all_bits hs (fun q hq => ?_)
                          have := nfold_no e q hq
                          rw [hokj] at this
                          simpa using this
                      | some b => exact e1 (by rw [e]; exact fun q => by cases q)
                    · simp only [List.mem_cons, List.not_mem_nil, or_false] at h
                      rcases h with rfl | rfl | rfl | rfl | rfl <;> first | (simp [xs1, xs2, lv_args, Value.category, b32, nI]; done) | (simp [xs1, xs2, lv_args, Value.category, b32, nI]; decide) | (simp [xs1, xs2, lv_args, Value.category, b32, nI]; exact Or.inr (by decide)) | (simp [xs1, xs2, lv_args, Value.category, b32, nI]; exact Or.inl (by decide))
                  · have c3 : ¬ nI ns.length ≤ nI j := c3
                    rw [nI_leI (by omega) (by omega)] at c3
                    have hjn : j < ns.length := by omega
                    have hnj := hnlt j hjn
                    have hb1 := bit_1 s (by omega) j (by omega)
                    have s136 : ∀ (b9 : Int64), ((nfold ok w (j + 1)).1 ≠ none → b9 = (nfold ok w (j + 1)).2.toInt64) → ((nfold ok w (j + 1)).1 = none → b9 = if s = 2 ^ ns.length - 1 then 0 else -1) → ∀ lv9 : List (Nat × Value), (∀ q ∈ [(6, Value.int (nI j)), (4, .long b9), (3, .int (nI la)), (2, .int (nI s)), (1, .int (nI (2 ^ ns.length - 1))), (0, .ref m)], q ∈ lv9) → ∀ k8 n8 : Nat, k8 ≤ 0 → n8 ≤ 0 → Ex l mMo_orderExactly D R A (xQ D A Q) R.cells R.slots 136 lv9 [] [sMo m B th (nI ns.length) ld ln ap bg wr me fi fe wa wn fo st hl rf rt cu, C, cMO D B gR gQ0 gL] k8 n8 := by
                      intro b9 g1 g2 lv9 hlv k8 n8 hk8 hn8'
                      refine Ex.lv hlv ?_
                      refine Ex.p rfl ?_
                      refine Ex.p rfl ?_
                      rw [i_add1]
                      refine ihj (j + 1) b9 (by omega) (by omega) g1 g2 _ (fun q h => ?_) _ _ hk8 hn8'
                      simp only [List.mem_cons, List.not_mem_nil, or_false] at h
                      rcases h with rfl | rfl | rfl | rfl | rfl | rfl <;> first | (simp [xs1, xs2, lv_args, Value.category, b32, nI]; done) | (simp [xs1, xs2, lv_args, Value.category, b32, nI]; decide) | (simp [xs1, xs2, lv_args, Value.category, b32, nI]; exact Or.inr (by decide)) | (simp [xs1, xs2, lv_args, Value.category, b32, nI]; exact Or.inl (by decide))
                    refine Ex.p rfl ?_
                    refine Ex.p rfl ?_
                    refine Ex.p rfl ?_
                    refine Ex.p rfl ?_
                    refine Ex.p rfl ?_
                    refine Ex.p rfl ?_
                    refine Ex.br rfl (fun c4 => ?_) (fun c4 => ?_)
                    · have c4 : ¬ ((nI s >>> (nI j &&& 31)) &&& Int32.ofInt 1) = Int32.ofInt 1 := c4
                      rw [hb1] at c4
                      have hsj : s.testBit j = false := by simpa using c4
                      have hoj : ok j = true := by rw [hokj, hsj]; rfl
                      have hor := bit_or s (by omega) j (by omega)
                      have hlt : s ||| 2 ^ j < 2 ^ ns.length := Nat.or_lt_two_pow hs (Nat.pow_lt_pow_right (by omega) hjn)
                      have hnall : s ≠ 2 ^ ns.length - 1 := by
                        intro e
                        rw [e, Nat.testBit_two_pow_sub_one, decide_eq_true hjn] at hsj
                        cases hsj
                      obtain ⟨p1, p2, p3⟩ := hwpos j hjn hoj
                      refine Ex.p rfl ?_
                      refine Ex.p rfl ?_
                      refine Ex.gf 0 0 rfl rfl rfl ?_
                      refine Ex.p rfl ?_
                      refine Ex.ial 2 0 la rfl rfl rfl (nI_toInt (by omega)) (by omega) ?_
                      rw [hR la hlan]
                      refine Ex.p rfl ?_
                      refine Ex.gf 0 0 rfl rfl rfl ?_
                      refine Ex.p rfl ?_
                      refine Ex.ial 2 0 j rfl rfl rfl (nI_toInt (by omega)) (by omega) ?_
                      rw [hR j hjn]
                      refine Ex.cv (Mc := mMo_way) (Rc := rm 2 0 0) (As := [.int (nI ns[la]), .int (nI ns[j])]) (rest := []) (Sr := [cMO D B gR gQ0 gL]) (ic := 0) (jc := 0) (ci := 10) [0, 1] [2] (ct_Mo_way iH (hat j hjn) (Or.inr ⟨_, rfl, hat la hlan⟩) hok (rm_ok _ _ _)) rfl lk_10_132 lcMo_way rfl rfl rfl rfl rfl (by decide) rfl rfl rfl (by decide) ⟨by dsimp only [rm]; omega, by show 8 + (3 + 11) + 80 ≤ R.locals; omega⟩ (Nat.le_of_ble_eq_true rfl) (by first | (dsimp only [rm]; omega) | omega) (by first | (dsimp only [rm]; omega) | omega) ?_
                      rintro v S1 ⟨rfl, rfl⟩
                      refine Ex.sub (S' := [sMo m B th (nI ns.length) ld ln ap bg wr me fi fe wa wn fo st hl rf rt cu, C, cMO D B gR gQ0 gL]) [1, 2, 0] rfl rfl ?_
                      rw [← hW.1 la j hlan hjn]
                      refine Ex.p rfl ?_
                      refine Ex.gf 0 0 rfl rfl rfl ?_
                      refine Ex.p rfl ?_
                      refine Ex.p rfl ?_
                      refine Ex.p rfl ?_
                      refine Ex.p rfl ?_
                      refine Ex.p rfl ?_
                      refine Ex.p rfl ?_
                      rw [show (nI s ||| (Int32.ofInt 1 <<< (nI j &&& 31))) = nI (s ||| 2 ^ j) from hor.1]
                      refine Ex.p rfl ?_
                      rw [show (Int8.ofInt 8).toInt32 * nI (s ||| 2 ^ j) = nI (8 * (s ||| 2 ^ j)) from pk_mul 8 _]
                      refine Ex.p rfl ?_
                      refine Ex.p rfl ?_
                      rw [nI_add]
                      refine Ex.lal 2 2 (8 * (s ||| 2 ^ j) + j) rfl rfl rfl (nI_toInt (by omega)) (by omega) ?_
                      refine Ex.p rfl ?_
                      rw [p1]
                      refine Ex.p rfl ?_
                      refine Ex.p rfl ?_
                      refine Ex.p rfl ?_
                      refine Ex.p rfl ?_
                      have s127 : nfold ok w (j + 1) = (some j, w j) → ∀ lv9 : List (Nat × Value), (∀ q ∈ [(7, Value.long (w j).toInt64), (6, .int (nI j)), (3, .int (nI la)), (2, .int (nI s)), (1, .int (nI (2 ^ ns.length - 1))), (0, .ref m)], q ∈ lv9) → ∀ k8 n8 : Nat, k8 ≤ 0 → n8 ≤ 0 → Ex l mMo_orderExactly D R A (xQ D A Q) R.cells R.slots 127 lv9 [] [sMo m B th (nI ns.length) ld ln ap bg wr me fi fe wa wn fo st hl rf rt cu, C, cMO D B gR gQ0 gL] k8 n8 := by
                        intro e lv9 hlv k8 n8 hk8 hn8'
                        refine Ex.lv hlv ?_
                        refine Ex.p rfl ?_
                        refine Ex.p rfl ?_
                        refine Ex.p rfl ?_
                        refine s136 (w j).toInt64 (fun _ => by rw [e]) (fun q => by rw [e] at q; cases q) _ (fun q h => ?_) _ _ hk8 hn8'
                        simp only [List.mem_cons, List.not_mem_nil, or_false] at h
                        rcases h with rfl | rfl | rfl | rfl | rfl | rfl <;> first | (simp [xs1, xs2, lv_args, Value.category, b32, nI]; done) | (simp [xs1, xs2, lv_args, Value.category, b32, nI]; decide) | (simp [xs1, xs2, lv_args, Value.category, b32, nI]; exact Or.inr (by decide)) | (simp [xs1, xs2, lv_args, Value.category, b32, nI]; exact Or.inl (by decide))
                      refine Ex.br rfl (fun c5 => ?_) (fun c5 => ?_)
                      · rw [lg_cmp_lt] at c5
                        have c5 : b64 < 0 := c5
                        refine s127 (nfold_take hoj ?_) _ (fun q h => ?_) _ _ (by first | (dsimp only [rm]; omega) | omega) (by first | (dsimp only [rm]; omega) | omega)
                        · left
                          cases e : (nfold ok w j).1 with
                          | none => rfl
                          | some b =>
                            exfalso
                            rw [e1 (by rw [e]; exact fun q => by cases q)] at c5
                            obtain ⟨u1, u2⟩ := nfold_w e
                            rw [u1, Int64.lt_iff_toInt_lt, Int32.toInt_toInt64] at c5
                            have := (hwpos b (by have := nfold_lt e; omega) u2).2.1
                            have c5 : (w b).toInt < 0 := c5
                            omega
                        · simp only [List.mem_cons, List.not_mem_nil, or_false] at h
                          rcases h with rfl | rfl | rfl | rfl | rfl | rfl <;> first | (simp [xs1, xs2, lv_args, Value.category, b32, nI]; done) | (simp [xs1, xs2, lv_args, Value.category, b32, nI]; decide) | (simp [xs1, xs2, lv_args, Value.category, b32, nI]; exact Or.inr (by decide)) | (simp [xs1, xs2, lv_args, Value.category, b32, nI]; exact Or.inl (by decide))
                      · rw [lg_cmp_lt] at c5
                        have c5 : ¬ b64 < 0 := c5
                        have hsome : (nfold ok w j).1 ≠ none := by
                          intro q
                          rw [e2 q, if_neg hnall] at c5
                          exact c5 (by decide)
                        have eb := e1 hsome
                        subst eb
                        refine Ex.p rfl ?_
                        refine Ex.p rfl ?_
                        refine Ex.p rfl ?_
                        refine Ex.br rfl (fun c6 => ?_) (fun c6 => ?_)
                        · rw [lg_cmp_ge, le64] at c6
                          have e := nfold_leave (ok := ok) hsome (Int32.not_lt.mpr c6)
                          refine Ex.p rfl ?_
                          refine Ex.p rfl ?_
                          refine s136 (nfold ok w j).2.toInt64 (fun _ => by rw [e]) (fun q => by rw [e] at q; exact absurd q hsome) _ (fun q h => ?_) _ _ (by first | (dsimp only [rm]; omega) | omega) (by first | (dsimp only [rm]; omega) | omega)
                          simp only [List.mem_cons, List.not_mem_nil, or_false] at h
                          rcases h with rfl | rfl | rfl | rfl | rfl | rfl <;> first | (simp [xs1, xs2, lv_args, Value.category, b32, nI]; done) | (simp [xs1, xs2, lv_args, Value.category, b32, nI]; decide) | (simp [xs1, xs2, lv_args, Value.category, b32, nI]; exact Or.inr (by decide)) | (simp [xs1, xs2, lv_args, Value.category, b32, nI]; exact Or.inl (by decide))
                        · rw [lg_cmp_ge, le64] at c6
                          refine s127 (nfold_take hoj (Or.inr (Int32.not_le.mp c6))) _ (fun q h => ?_) _ _ (by first | (dsimp only [rm]; omega) | omega) (by first | (dsimp only [rm]; omega) | omega)
                          simp only [List.mem_cons, List.not_mem_nil, or_false] at h
                          rcases h with rfl | rfl | rfl | rfl | rfl | rfl <;> first | (simp [xs1, xs2, lv_args, Value.category, b32, nI]; done) | (simp [xs1, xs2, lv_args, Value.category, b32, nI]; decide) | (simp [xs1, xs2, lv_args, Value.category, b32, nI]; exact Or.inr (by decide)) | (simp [xs1, xs2, lv_args, Value.category, b32, nI]; exact Or.inl (by decide))
                    · have c4 : ¬ ¬ ((nI s >>> (nI j &&& 31)) &&& Int32.ofInt 1) = Int32.ofInt 1 := c4
                      have c4 := hb1.mp (Decidable.not_not.mp c4)
                      have e := nfold_skip (ok := ok) (w := w) (n := j) (by rw [hokj, c4]; rfl)
                      refine Ex.p rfl ?_
                      refine s136 b64 (fun q => by rw [e] at q ⊢; exact e1 q) (fun q => by rw [e] at q; exact e2 q) _ (fun q h => ?_) 0 0 (Nat.le_refl _) (Nat.le_refl _)
                      simp only [List.mem_cons, List.not_mem_nil, or_false] at h
                      rcases h with rfl | rfl | rfl | rfl | rfl | rfl <;> first | (simp [xs1, xs2, lv_args, Value.category, b32, nI]; done) | (simp [xs1, xs2, lv_args, Value.category, b32, nI]; decide) | (simp [xs1, xs2, lv_args, Value.category, b32, nI]; exact Or.inr (by decide)) | (simp [xs1, xs2, lv_args, Value.category, b32, nI]; exact Or.inl (by decide))
              refine Ex.p rfl ?_
              refine Ex.p rfl ?_
              refine Ex.br rfl (fun c5 => ?_) (fun c5 => ?_)
              · have c5 : ¬ nI s = nI (2 ^ ns.length - 1) := c5
                rw [nI_eq (by omega) (by omega)] at c5
                refine Ex.ldc2 rfl ?_
                refine Ex.p rfl ?_
                refine Ex.p rfl ?_
                refine Ex.p rfl ?_
                refine inner (ns.length + 1) 0 (-1) (by omega) (by omega) (fun q => absurd rfl q) (fun _ => by rw [if_neg c5]) _ (fun q h => ?_) 0 0 (Nat.le_refl _) (Nat.le_refl _)
                simp only [List.mem_cons, List.not_mem_nil, or_false] at h
                rcases h with rfl | rfl | rfl | rfl | rfl | rfl <;> first | (simp [xs1, xs2, lv_args, Value.category, b32, nI]; done) | (simp [xs1, xs2, lv_args, Value.category, b32, nI]; decide) | (simp [xs1, xs2, lv_args, Value.category, b32, nI]; exact Or.inr (by decide)) | (simp [xs1, xs2, lv_args, Value.category, b32, nI]; exact Or.inl (by decide))
              · have c5 : ¬ ¬ nI s = nI (2 ^ ns.length - 1) := c5
                have c5 := Decidable.not_not.mp c5
                rw [nI_eq (by omega) (by omega)] at c5
                refine Ex.p rfl ?_
                refine Ex.p rfl ?_
                refine Ex.p rfl ?_
                refine Ex.p rfl ?_
                refine Ex.p rfl ?_
                refine inner (ns.length + 1) 0 0 (by omega) (by omega) (fun q => absurd rfl q) (fun _ => by rw [if_pos c5]) _ (fun q h => ?_) 0 0 (Nat.le_refl _) (Nat.le_refl _)
                simp only [List.mem_cons, List.not_mem_nil, or_false] at h
                rcases h with rfl | rfl | rfl | rfl | rfl | rfl <;> first | (simp [xs1, xs2, lv_args, Value.category, b32, nI]; done) | (simp [xs1, xs2, lv_args, Value.category, b32, nI]; decide) | (simp [xs1, xs2, lv_args, Value.category, b32, nI]; exact Or.inr (by decide)) | (simp [xs1, xs2, lv_args, Value.category, b32, nI]; exact Or.inl (by decide))
            · have c2 : ¬ ¬ ((nI s >>> (nI la &&& 31)) &&& Int32.ofInt 1) = 0 := c2
              have c2 := hbt.mp (Decidable.not_not.mp c2)
              refine Ex.p rfl ?_
              refine s155 fr gL h1 (fun la' g1 g4 => ?_) _ (fun q h => ?_) 0 0 (Nat.le_refl _) (Nat.le_refl _)
              · by_cases e : la' = la
                · subst e
                  rw [c2] at g4
                  cases g4
                · exact h2 la' (by omega) g4
              · simp only [List.mem_cons, List.not_mem_nil, or_false] at h
                rcases h with rfl | rfl | rfl | rfl <;> first | (simp [xs1, xs2, lv_args, Value.category, b32, nI]; done) | (simp [xs1, xs2, lv_args, Value.category, b32, nI]; decide) | (simp [xs1, xs2, lv_args, Value.category, b32, nI]; exact Or.inr (by decide)) | (simp [xs1, xs2, lv_args, Value.category, b32, nI]; exact Or.inl (by decide))
      refine Ex.p rfl ?_
      refine Ex.p rfl ?_
      refine lasts (ns.length + 1) 0 fr gL (by omega) (by omega) hTab (fun la' h => by omega) _ (fun q h => ?_) 0 0 (Nat.le_refl _) (Nat.le_refl _)
      simp only [List.mem_cons, List.not_mem_nil, or_false] at h
      rcases h with rfl | rfl | rfl | rfl <;> first | (simp [xs1, xs2, lv_args, Value.category, b32, nI]; done) | (simp [xs1, xs2, lv_args, Value.category, b32, nI]; decide) | (simp [xs1, xs2, lv_args, Value.category, b32, nI]; exact Or.inr (by decide)) | (simp [xs1, xs2, lv_args, Value.category, b32, nI]; exact Or.inl (by decide))
  refine Ex.p rfl ?_
  refine Ex.p rfl ?_
  refine Ex.gf 0 0 rfl rfl rfl ?_
  refine Ex.p rfl ?_
  refine Ex.p rfl ?_
  refine Ex.p rfl ?_
  rw [hsh]
  refine Ex.p rfl ?_
  refine Ex.p rfl ?_
  refine Ex.p rfl ?_
  refine first (2 ^ ns.length - 1) (by omega) (fun _ => 0) gL0 (fun s' la h1 h2 => by omega) _ (fun q h => ?_) 0 0 (Nat.le_refl _) (Nat.le_refl _)
  simp only [List.mem_cons, List.not_mem_nil, or_false] at h
  rcases h with rfl | rfl | rfl <;> first | (simp [xs1, xs2, lv_args, Value.category, b32, nI]; done) | (simp [xs1, xs2, lv_args, Value.category, b32, nI]; decide) | (simp [xs1, xs2, lv_args, Value.category, b32, nI]; exact Or.inr (by decide)) | (simp [xs1, xs2, lv_args, Value.category, b32, nI]; exact Or.inl (by decide))
end MOB

/-! DrillArchive: told, agrees -/
noncomputable def wrg (z : SD) (ro : Nat) : Bool := match z.2.2.2.2.find? (fun x => x.1 == ro) with
  | some x => !decide (x.2.map nI = textD 0 (nI ro) z.1 z.2.1)
  | none => false
def tld (w : Nat → Bool) : Nat → Nat → Nat → Int32
  | 0, _, _ => -1
  | n + 1, ro, lf => if w ro then (if lf = 0 then nI ro else tld w n (ro + 1) (lf - 1)) else tld w n (ro + 1) lf
noncomputable def aTold (z : SD) (k : Int32) : AR := (.inr (.int (if 0 ≤ k.toInt then tld (wrg z) 8 0 k.toInt.toNat else -1)), z)
noncomputable def aAgree (z : SD) : AR := (.inr (.int (b32 (decide (tld (wrg z) 8 0 0 = -1)))), z)
theorem find_frb {fs : List FV} {ro : Nat} : (fs.map frb).find? (fun x => x.1 == ro) = (fwith fs ro).map frb := by
  unfold fwith
  rw [List.find?_map]
  rfl
theorem i_addm1 (n : Nat) : nI (n + 1) + Int32.ofInt (-1) = nI n := by
  have e : Int32.ofInt (-1) = - Int32.ofInt 1 := by decide
  rw [e, ← Int32.sub_eq_add_neg]
  exact i_sub1 n
section DA7
variable {l : Launch} {D : xD} {R : Room}
theorem ct_Da_told {a : Nat} {z : SD} {k9 : Int32} {S : List va_W} (h : IsDa D a z S) (hr : rmOk R 8 786 12580) : Ct l mDa_told D R [.ref a, .int k9] S (QR D a (aTold z k9)) := by
  obtain ⟨r1, r2, r3, r4⟩ := hr
  have hz := id h
  obtain ⟨pl, w, un, fe, dr, f, r, kp, kf, kt, c0, c1, c2, xs, ts, hs, fs, Cp, Co, Cu, Cf, Cd, T, Cs, F, rfl, hpl, ho, hk, hu, hfe, hb, hd, hok, hv, htv, hhv, hfs, hff⟩ := h
  obtain ⟨ta, ha, ft, fh, eCd, -, -, -, -, h3, h4⟩ := id hd
  obtain ⟨fa, ffn, eCs, -⟩ := id hfs
  obtain ⟨_, _, _, w1, w2, w3, w4, w5, w6⟩ := id ho
  have hup := upl_len ts
  generalize hP : aTold z k9 = P
  unfold aTold at hP
  refine Ct.of rfl (by decide) tkDa_told (Nat.le_of_ble_eq_true rfl) (fun A => ?_)
  refine Ex.p rfl ?_
  refine Ex.br rfl (fun c => ?_) (fun c => ?_)
  · have c : 0 ≤ k9 := c
    rw [Int32.le_iff_toInt_le] at c
    have c : 0 ≤ k9.toInt := c
    rw [if_pos c] at hP
    have ek := nI_nat c
    have hk31 := Int32.toInt_lt k9
    generalize hkn : k9.toInt.toNat = kn at hP ek
    have hkn31 : kn < 2 ^ 31 := by omega
    subst ek
    have loop : ∀ (m i lf : Nat) (ts' : List TV) (T' Cp' Co' : va_W) (kp : Bool) (kf kt : Int32) (c : Nat) (xs : List Int32), 8 - i < m → i ≤ 8 → lf < 2 ^ 31 → IsPlA D pl Cp' → IsRow D r 2600 c xs Co' → (kp = true → xs = textD kf kt z.1 z.2.1) → IsDr D dr ts' hs Cd T' (sHs hs) → DrOK ts' hs → ts'.map tvo = z.1 → upl ts' ≤ upl ts → c0 ≤ c → c ≤ max c0 5090 → ((.inr (.int (tld (wrg z) (8 - i) i lf)), z) : AR) = P → ∀ lv9 : List (Nat × Value), (∀ q ∈ [(3, Value.int (nI i)), (2, .int (nI lf)), (0, .ref a)], q ∈ lv9) →
        Ex l mDa_told D R A (xQ D A (QR D a P)) R.cells R.slots 10 lv9 [] [sDa a pl w un fe dr f, Cp', sTw w pl r kp kf kt, Co', Cu, Cf, Cd, T', sHs hs, Cs, F] (15 * (upl ts - upl ts') + (c - c0) / 8) (240 * (upl ts - upl ts') + 2 * (c - c0)) := by
      intro m
      induction m with
      | zero => intro i lf ts' T' Cp' Co' kp kf kt c xs h; omega
      | succ m ih =>
        intro i lf ts' T' Cp' Co' kp kf kt c xs hm hi hlf hpl' ho' hk' hd' hok' htv' hu' hc1 hc2 hPt lv9 hlv
        have hl' : ts'.length = ts.length := by
          have := congrArg List.length htv'
          rw [← htv, List.length_map, List.length_map] at this
          exact this
        refine Ex.lv hlv ?_
        have fin : ∀ v : Int32, ((.inr (.int v), z) : AR) = P → QR D a P (some (.int v)) [sDa a pl w un fe dr f, Cp', sTw w pl r kp kf kt, Co', Cu, Cf, Cd, T', sHs hs, Cs, F] := by
          intro v e
          subst e
          exact ⟨_, rfl, rfl, pl, w, un, fe, dr, f, r, kp, kf, kt, c, c1, c2, xs, ts', hs, fs, Cp', Co', Cu, Cf, Cd, T', Cs, F, rfl, hpl', ho', hk', hu, hfe, hb, hd', hok', (by rw [hl']; exact hv), htv', hhv, hfs, hff⟩
        refine Ex.p rfl ?_
        refine Ex.p rfl ?_
        refine Ex.br rfl (fun g => ?_) (fun g => ?_)
        · have g : nI 7 < nI i := g
          rw [nI_ltI (by omega) (by omega)] at g
          have ei : i = 8 := by omega
          subst ei
          refine Ex.p rfl ?_
          exact Ex.iret rfl rfl (by omega) (by omega) rfl (fin _ hPt)
        · have g : ¬ nI 7 < nI i := g
          rw [nI_ltI (by omega) (by omega)] at g
          have e8 : 8 - i = (8 - (i + 1)) + 1 := by omega
          rw [e8] at hPt
          unfold tld at hPt
          refine Ex.p rfl ?_
          refine Ex.gf 0 0 rfl rfl rfl ?_
          refine Ex.p rfl ?_
          refine Ex.cv (Mc := mFs_withRole) (Rc := rm 1 0 0) (As := [.int (nI i)]) (rest := []) (Sr := [sDa a pl w un fe dr f, Cp', sTw w pl r kp kf kt, Co', Cu, Cf, Cd, T', sHs hs]) (ic := 9) (jc := 0) (ci := 2) [9, 10] [0, 1, 2, 3, 4, 5, 6, 7, 8] (ct_Fs_withRole hfs (by omega) (rm_ok _ _ _)) rfl lk_0_190 lcFs_withRole rfl rfl rfl rfl rfl (by decide) rfl (by rw [eCs]; rfl) rfl (by decide) ⟨by dsimp only [rm]; omega, by show 8 + (4 + 11) + 40 ≤ R.locals; omega⟩ (Nat.le_of_ble_eq_true rfl) (by dsimp only [rm]; omega) (by dsimp only [rm]; omega) ?_
          rintro v S1 ⟨rfl, rfl⟩
          cases hw : fwith fs i with
          | none =>
            have ew : wrg z i = false := by
              unfold wrg
              rw [← hff, find_frb, hw]
              rfl
            rw [ew, if_neg (by decide)] at hPt
            refine Ex.p rfl ?_
            refine Ex.p rfl ?_
            refine Ex.nuN rfl rfl ?_
            refine Ex.p rfl ?_
            refine Ex.p rfl ?_
            rw [i_add1]
            refine Ex.more (k' := 15 * (upl ts - upl ts') + (c - c0) / 8) (n' := 240 * (upl ts - upl ts') + 2 * (c - c0)) (by dsimp only [rm]; omega) (by dsimp only [rm]; omega) (ih (i + 1) lf ts' T' Cp' Co' kp kf kt c xs (by omega) (by omega) hlf hpl' ho' hk' hd' hok' htv' hu' hc1 hc2 hPt _ (fun q h => ?_))
            simp only [List.mem_cons, List.not_mem_nil, or_false] at h
            rcases h with rfl | rfl | rfl <;> first | (simp [xs1, lv_args, Value.category, b32, nI]; done) | (simp [xs1, lv_args, Value.category, b32, nI]; decide) | (simp [xs1, lv_args, Value.category, b32, nI]; exact Or.inr (by decide))
          | some x =>
            obtain ⟨j, hj⟩ := List.mem_iff_getElem?.mp (List.mem_of_find?_eq_some hw)
            obtain ⟨X, C, Y, eF, hC, -⟩ := hfs.at hj
            obtain ⟨rb, Cb, rfl, hrb, -⟩ := id hC
            obtain ⟨_, _, eCb, -⟩ := id hrb
            have ew : wrg z i = !decide (x.2.2.1.map nI = textD 0 (nI i) z.1 z.2.1) := by
              unfold wrg
              rw [← hff, find_frb, hw]
              rfl
            rw [ew] at hPt
            refine Ex.seg (S' := [sDa a pl w un fe dr f, Cp', sTw w pl r kp kf kt, Co', Cu, Cf, Cd, T', sHs hs, Cs, X, [(x.1, .inr (6, [.int (nI x.2.1), .ref rb, .int (nI (fsum x.2.2.1))]))], Cb, Y]) (by rw [eF]; simp) ?_
            have s49 : ∀ (ts2 : List TV) (T2 Cp2 Co2 : va_W) (cc : Nat) (k n : Nat), IsPlA D pl Cp2 → IsRow D r 2600 cc (textD 0 (nI i) z.1 z.2.1) Co2 → IsDr D dr ts2 hs Cd T2 (sHs hs) → DrOK ts2 hs → ts2.map tvo = z.1 → upl ts2 ≤ upl ts → c0 ≤ cc → cc ≤ max c0 5090 → k ≤ 15 * (upl ts - upl ts2) + (cc - c0) / 8 → n ≤ 240 * (upl ts - upl ts2) + 2 * (cc - c0) → ∀ lv9 : List (Nat × Value), (∀ q ∈ [(3, Value.int (nI i)), (2, .int (nI lf)), (0, .ref a)], q ∈ lv9) →
                Ex l mDa_told D R A (xQ D A (QR D a P)) R.cells R.slots 49 lv9 [.ref r, .ref rb] [sDa a pl w un fe dr f, Cp2, sTw w pl r true 0 (nI i), Co2, Cu, Cf, Cd, T2, sHs hs, Cs, X, [(x.1, .inr (6, [.int (nI x.2.1), .ref rb, .int (nI (fsum x.2.2.1))]))], Cb, Y] k n := by
              intro ts2 T2 Cp2 Co2 cc k n hpl2 ho2 hd2 hok2 htv2 hu2 hcc1 hcc2 hk2 hn2 lv9 hlv
              have hl2 : ts2.length = ts.length := by
                have := congrArg List.length htv2
                rw [← htv, List.length_map, List.length_map] at this
                exact this
              refine Ex.lv hlv ?_
              refine Ex.more (k' := 15 * (upl ts - upl ts2) + (cc - c0) / 8) (n' := 240 * (upl ts - upl ts2) + 2 * (cc - c0)) hk2 hn2 ?_
              refine Ex.cv (Mc := mRo_same) (Rc := rm 1 0 0) (As := [.ref r]) (rest := []) (Sr := [sDa a pl w un fe dr f, Cp2, sTw w pl r true 0 (nI i), Cu, Cf, Cd, T2, sHs hs, Cs, X, [(x.1, .inr (6, [.int (nI x.2.1), .ref rb, .int (nI (fsum x.2.2.1))]))], Y]) (ic := 12) (jc := 0) (ci := 5) [12, 3] [0, 1, 2, 4, 5, 6, 7, 8, 9, 10, 11, 13] (ct_Ro_same hrb ho2 (rm_ok _ _ _)) rfl lk_0_196 lcRo_same rfl rfl rfl rfl rfl (by decide) rfl (by rw [eCb]; rfl) rfl (by decide) ⟨by dsimp only [rm]; omega, by show 8 + (3 + 11) + 40 ≤ R.locals; omega⟩ (Nat.le_of_ble_eq_true rfl) (by dsimp only [rm]; omega) (by dsimp only [rm]; omega) ?_
              rintro v S1 ⟨rfl, rfl⟩
              refine Ex.sub (S' := [sDa a pl w un fe dr f, Cp2, sTw w pl r true 0 (nI i), Co2, Cu, Cf, Cd, T2, sHs hs, Cs, X, [(x.1, .inr (6, [.int (nI x.2.1), .ref rb, .int (nI (fsum x.2.2.1))]))], Cb, Y]) [0, 1, 2, 13, 3, 4, 5, 6, 7, 8, 9, 10, 12, 11] rfl rfl ?_
              refine Ex.seg (S' := [sDa a pl w un fe dr f, Cp2, sTw w pl r true 0 (nI i), Co2, Cu, Cf, Cd, T2, sHs hs, Cs, F]) (by rw [eF]; simp) ?_
              have next : ∀ lf2 : Nat, lf2 < 2 ^ 31 → ((.inr (.int (tld (wrg z) (8 - (i + 1)) (i + 1) lf2)), z) : AR) = P → ∀ lv9 : List (Nat × Value), (∀ q ∈ [(3, Value.int (nI i)), (2, .int (nI lf2)), (0, .ref a)], q ∈ lv9) → Ex l mDa_told D R A (xQ D A (QR D a P)) R.cells R.slots 64 lv9 [] [sDa a pl w un fe dr f, Cp2, sTw w pl r true 0 (nI i), Co2, Cu, Cf, Cd, T2, sHs hs, Cs, F] (15 * (upl ts - upl ts2) + (cc - c0) / 8 + (rm 1 0 0).cells) (240 * (upl ts - upl ts2) + 2 * (cc - c0) + (rm 1 0 0).slots) := by
                intro lf2 hlf2 hP2 lv9 hlv
                refine Ex.lv hlv ?_
                refine Ex.p rfl ?_
                refine Ex.p rfl ?_
                rw [i_add1]
                refine Ex.more (k' := 15 * (upl ts - upl ts2) + (cc - c0) / 8) (n' := 240 * (upl ts - upl ts2) + 2 * (cc - c0)) (by dsimp only [rm]; omega) (by dsimp only [rm]; omega) (ih (i + 1) lf2 ts2 T2 Cp2 Co2 true 0 (nI i) cc _ (by omega) (by omega) hlf2 hpl2 ho2 (fun _ => rfl) hd2 hok2 htv2 hu2 hcc1 hcc2 hP2 _ (fun q h => ?_))
                simp only [List.mem_cons, List.not_mem_nil, or_false] at h
                rcases h with rfl | rfl | rfl <;> first | (simp [xs1, lv_args, Value.category, b32, nI]; done) | (simp [xs1, lv_args, Value.category, b32, nI]; decide) | (simp [xs1, lv_args, Value.category, b32, nI]; exact Or.inr (by decide))
              by_cases hs9 : x.2.2.1.map nI = textD 0 (nI i) z.1 z.2.1
              · rw [decide_eq_true hs9]
                rw [decide_eq_true hs9, if_neg (by decide)] at hPt
                refine Ex.br rfl (fun _ => ?_) (fun c => absurd (show (1 : Int32) ≠ 0 by decide) c)
                refine next lf hlf hPt _ (fun q h => ?_)
                simp only [List.mem_cons, List.not_mem_nil, or_false] at h
                rcases h with rfl | rfl | rfl <;> first | (simp [xs1, lv_args, Value.category, b32, nI]; done) | (simp [xs1, lv_args, Value.category, b32, nI]; decide) | (simp [xs1, lv_args, Value.category, b32, nI]; exact Or.inr (by decide))
              · rw [decide_eq_false hs9]
                rw [decide_eq_false hs9, if_pos (by decide)] at hPt
                refine Ex.br rfl (fun c => absurd rfl c) (fun _ => ?_)
                refine Ex.p rfl ?_
                by_cases hl0 : lf = 0
                · subst hl0
                  rw [if_pos rfl] at hPt
                  refine Ex.br rfl (fun c => absurd rfl c) (fun _ => ?_)
                  refine Ex.p rfl ?_
                  refine Ex.iret rfl rfl (by dsimp only [rm]; omega) (by dsimp only [rm]; omega) rfl ?_
                  subst hPt
                  exact ⟨_, rfl, rfl, pl, w, un, fe, dr, f, r, true, 0, nI i, cc, c1, c2, _, ts2, hs, fs, Cp2, Co2, Cu, Cf, Cd, T2, Cs, F, rfl, hpl2, ho2, (fun _ => rfl), hu, hfe, hb, hd2, hok2, (by rw [hl2]; exact hv), htv2, hhv, hfs, hff⟩
                · rw [if_neg hl0] at hPt
                  refine Ex.br rfl (fun _ => ?_) (fun c => absurd (fun q => hl0 (by rwa [show (0 : Int32) = nI 0 from rfl, nI_eq (by omega) (by omega)] at q)) c)
                  refine Ex.p rfl ?_
                  obtain ⟨lf2, rfl⟩ : ∃ q, lf = q + 1 := ⟨lf - 1, by omega⟩
                  rw [i_addm1]
                  refine next lf2 (by omega) hPt _ (fun q h => ?_)
                  simp only [List.mem_cons, List.not_mem_nil, or_false] at h
                  rcases h with rfl | rfl | rfl <;> first | (simp [xs1, lv_args, Value.category, b32, nI]; done) | (simp [xs1, lv_args, Value.category, b32, nI]; decide) | (simp [xs1, lv_args, Value.category, b32, nI]; exact Or.inr (by decide))
            refine Ex.p rfl ?_
            refine Ex.p rfl ?_
            refine Ex.nuR rfl ?_
            refine Ex.p rfl ?_
            refine Ex.gf 11 0 rfl rfl rfl ?_
            refine Ex.p rfl ?_
            refine Ex.gf 0 0 rfl rfl rfl ?_
            refine Ex.p rfl ?_
            refine Ex.gf 0 0 rfl rfl rfl ?_
            refine Ex.p rfl ?_
            refine Ex.p rfl ?_
            by_cases hkk : kp = true ∧ kf = 0 ∧ kt = nI i
            · obtain ⟨rfl, rfl, rfl⟩ := hkk
              refine Ex.cv (Mc := mTw_textOf) (Rc := rm 0 0 0) (As := [.ref dr, .int 0, .int (nI i)]) (rest := [.ref rb]) (Sr := [sDa a pl w un fe dr f, Cu, Cf, Cs, X, [(x.1, .inr (6, [.int (nI x.2.1), .ref rb, .int (nI (fsum x.2.2.1))]))], Cb, Y]) (ic := 2) (jc := 0) (ci := 8) [2, 3, 1, 6, 7, 8] [0, 4, 5, 9, 10, 11, 12, 13] (ct_Tw_textOf_kept (c := 0) (p := pl) (r := r) (S0 := [Co', Cp', Cd, T', sHs hs])) rfl lk_0_101 lcTw_textOf rfl rfl rfl rfl rfl (by decide) rfl rfl rfl (by decide) ⟨by dsimp only [rm]; omega, by show 8 + (6 + 11) + 0 ≤ R.locals; omega⟩ (Nat.le_of_ble_eq_true rfl) (by dsimp only [rm]; omega) (by dsimp only [rm]; omega) ?_
              rintro v S1 ⟨rfl, rfl⟩
              refine Ex.sub (S' := [sDa a pl w un fe dr f, Cp', sTw w pl r true 0 (nI i), Co', Cu, Cf, Cd, T', sHs hs, Cs, X, [(x.1, .inr (6, [.int (nI x.2.1), .ref rb, .int (nI (fsum x.2.2.1))]))], Cb, Y]) [0, 10, 8, 9, 1, 2, 11, 12, 13, 3, 4, 5, 6, 7] rfl rfl ?_
              refine s49 ts' T' Cp' Co' c _ _ hpl' (by rw [hk' rfl] at ho'; exact ho') hd' hok' htv' hu' hc1 hc2 (by dsimp only [rm]; omega) (by dsimp only [rm]; omega) _ (fun q h => ?_)
              simp only [List.mem_cons, List.not_mem_nil, or_false] at h
              rcases h with rfl | rfl | rfl <;> first | (simp [xs1, lv_args, Value.category, b32, nI]; done) | (simp [xs1, lv_args, Value.category, b32, nI]; decide) | (simp [xs1, lv_args, Value.category, b32, nI]; exact Or.inr (by decide))
            · have g1 : layOK 0 := ⟨by decide, by decide⟩
              have g2 : layOK (nI i) := by
                unfold layOK
                rw [nI_toInt (by omega)]
                omega
              obtain ⟨_, _, _, y1, y2, y3, y4, y5, y6⟩ := id ho'
              obtain ⟨tg1, tg2⟩ := text_grow (c0 := c) g1 g2 hok' (by omega) h4 y4
              have hge := capN_ge (textD 0 (nI i) (ts'.map tvo) (hs.map (fun h => h.2))).length c 0
              refine Ex.cv (Mc := mTw_textOf) (Rc := rm 7 (15 * upl ts' + (capN c 0 (textD 0 (nI i) (ts'.map tvo) (hs.map (fun h => h.2))).length - c) / 8) (240 * upl ts' + 2 * (capN c 0 (textD 0 (nI i) (ts'.map tvo) (hs.map (fun h => h.2))).length - c))) (As := [.ref dr, .int 0, .int (nI i)]) (rest := [.ref rb]) (Sr := [sDa a pl w un fe dr f, Cu, Cf, Cs, X, [(x.1, .inr (6, [.int (nI x.2.1), .ref rb, .int (nI (fsum x.2.2.1))]))], Cb, Y]) (ic := 2) (jc := 0) (ci := 8) [2, 3, 1, 6, 7, 8] [0, 4, 5, 9, 10, 11, 12, 13] (ct_Tw_textOf ho' hpl' hd' hok' g1 g2 hkk (rm_ok _ _ _)) rfl lk_0_101 lcTw_textOf rfl rfl rfl rfl rfl (by decide) rfl rfl rfl (by decide) ⟨by dsimp only [rm]; omega, by show 8 + (6 + 11) + 280 ≤ R.locals; omega⟩ (Nat.le_of_ble_eq_true rfl) (by dsimp only [rm]; omega) (by dsimp only [rm]; omega) ?_
              rintro v S1 ⟨rfl, Co2, Cp2, T2, ts2, rfl, ho2, hpl2, hd2, hok2, etv, eup⟩
              refine Ex.sub (S' := [sDa a pl w un fe dr f, Cp2, sTw w pl r true 0 (nI i), Co2, Cu, Cf, Cd, T2, sHs hs, Cs, X, [(x.1, .inr (6, [.int (nI x.2.1), .ref rb, .int (nI (fsum x.2.2.1))]))], Cb, Y]) [0, 10, 8, 9, 1, 2, 11, 12, 13, 3, 4, 5, 6, 7] rfl rfl ?_
              refine s49 ts2 T2 Cp2 Co2 (capN c 0 (textD 0 (nI i) (ts'.map tvo) (hs.map (fun h => h.2))).length) _ _ hpl2 (by rw [htv', hhv] at ho2 ⊢; exact ho2) hd2 hok2 (by rw [etv, htv']) (by omega) (by omega) (by omega) (by dsimp only [rm]; omega) (by dsimp only [rm]; omega) _ (fun q h => ?_)
              simp only [List.mem_cons, List.not_mem_nil, or_false] at h
              rcases h with rfl | rfl | rfl <;> first | (simp [xs1, lv_args, Value.category, b32, nI]; done) | (simp [xs1, lv_args, Value.category, b32, nI]; decide) | (simp [xs1, lv_args, Value.category, b32, nI]; exact Or.inr (by decide))
    refine Ex.p rfl ?_
    refine Ex.p rfl ?_
    refine Ex.p rfl ?_
    refine Ex.p rfl ?_
    refine Ex.more (k' := 15 * (upl ts - upl ts) + (c0 - c0) / 8) (n' := 240 * (upl ts - upl ts) + 2 * (c0 - c0)) (Nat.zero_le _) (Nat.zero_le _) ?_
    refine loop 9 0 kn ts T Cp Co kp kf kt c0 xs (by omega) (by omega) hkn31 hpl ho hk hd hok htv (Nat.le_refl _) (Nat.le_refl _) (by omega) hP _ (fun q h => ?_)
    simp only [List.mem_cons, List.not_mem_nil, or_false] at h
    rcases h with rfl | rfl | rfl <;> first | (simp [xs1, lv_args, Value.category, b32, nI]; done) | (simp [xs1, lv_args, Value.category, b32, nI]; decide) | (simp [xs1, lv_args, Value.category, b32, nI]; exact Or.inr (by decide))
  · have c : ¬ 0 ≤ k9 := c
    rw [Int32.le_iff_toInt_le] at c
    have c : ¬ 0 ≤ k9.toInt := c
    rw [if_neg c] at hP
    refine Ex.p rfl ?_
    refine Ex.iret rfl rfl (Nat.zero_le _) (Nat.zero_le _) rfl ?_
    subst hP
    exact ⟨_, rfl, rfl, hz⟩
theorem ct_Da_agrees {a : Nat} {z : SD} {S : List va_W} (h : IsDa D a z S) (hr : rmOk R 9 786 12580) : Ct l mDa_agrees D R [.ref a] S (QR D a (aAgree z)) := by
  obtain ⟨r1, r2, r3, r4⟩ := hr
  obtain ⟨pl, w, un, fe, dr, f, r, kp, kf, kt, c0, c1, c2, xs, ts, hs, fs, Cp, Co, Cu, Cf, Cd, T, Cs, F, rfl, h9⟩ := id h
  refine Ct.of rfl (by decide) tkDa_agrees (Nat.le_of_ble_eq_true rfl) (fun A => ?_)
  refine Ex.p rfl ?_
  refine Ex.p rfl ?_
  refine Ex.cv (Mc := mDa_told) (Rc := rm 8 786 12580) (As := [.int 0]) (rest := []) (Sr := []) (ic := 0) (jc := 0) (ci := 0) [0, 1, 2, 3, 4, 5, 6, 7, 8, 9, 10] [] (ct_Da_told h (rm_ok _ _ _)) rfl lk_0_187 lcDa_told rfl rfl rfl rfl rfl (by decide) rfl rfl rfl (by decide) ⟨by dsimp only [rm]; omega, by show 8 + (5 + 11) + 320 ≤ R.locals; omega⟩ (Nat.le_of_ble_eq_true rfl) (by dsimp only [rm]; omega) (by dsimp only [rm]; omega) ?_
  rintro v S1 ⟨x, hx, rfl, hS1⟩
  have hx : (Sum.inr (Value.int (if 0 ≤ (0 : Int32).toInt then tld (wrg z) 8 0 (0 : Int32).toInt.toNat else -1)) : Nat ⊕ Value) = .inr x := hx
  rw [if_pos (by decide)] at hx
  cases hx
  have hS1 : IsDa D a z S1 := hS1
  refine Ex.p rfl ?_
  refine Ex.br rfl (fun c => ?_) (fun c => ?_)
  · have c : ¬ tld (wrg z) 8 0 0 = -1 := c
    refine Ex.p rfl ?_
    refine Ex.zret rfl rfl (Or.inl rfl) (by dsimp only [rm]; omega) (by dsimp only [rm]; omega) rfl ?_
    exact ⟨_, rfl, by rw [decide_eq_false c]; rfl, hS1⟩
  · have c : ¬ ¬ tld (wrg z) 8 0 0 = -1 := c
    have c := Decidable.not_not.mp c
    refine Ex.p rfl ?_
    refine Ex.p rfl ?_
    refine Ex.zret rfl rfl (Or.inr rfl) (by dsimp only [rm]; omega) (by dsimp only [rm]; omega) rfl ?_
    exact ⟨_, rfl, by rw [decide_eq_true c]; rfl, hS1⟩
end DA7

/-! DrillArchive: hole, slot -/
theorem Et.sub {l : Launch} {M : xM} {D : xD} {R : Room} {A : Nat → Prop} {Q : Array Value → State → Outcome → State → Prop} {mc ms pc k n x cc : Nat} {lv : List (Nat × Value)} {st : List Value} {S S' : List va_W} (is : List Nat) (hp : pk S is S') (hn : va_nd is = true) (kk : Et l M D R A Q mc ms pc lv st S' k n x cc) : Et l M D R A Q mc ms pc lv st S k n x cc := by
  intro p e s m args below meth c H locs ls cell F hS hP hD hl
  rw [va_P_iff] at hP
  rw [va_D_iff] at hD
  exact kk p e s m args below meth c H locs ls cell F hS (va_P_iff.mpr fun q hq => hP q (hp.sub hq)) (va_D_iff.mpr ⟨sg_iff.mpr (hp.sg hn (sg_iff.mp hD.1)), fun q hq => hD.2 q (hp.sub hq)⟩) hl
theorem ixo_some {α : Type} {xs : List α} {i : Int32} {t : α} (h : ixo xs i = some t) : (0 ≤ i.toInt ∧ i.toInt < xs.length) ∧ xs[i.toInt.toNat]? = some t := by
  unfold ixo at h
  split at h
  · rename_i c
    have := (List.getElem?_eq_some_iff.mp h).1
    exact ⟨⟨c, by omega⟩, h⟩
  · cases h
theorem ixo_no {α : Type} {xs : List α} {i : Int32} (h : ixo xs i = none) : ¬ (0 ≤ i.toInt ∧ i.toInt < xs.length) := by
  rintro ⟨h1, h2⟩
  unfold ixo at h
  rw [if_pos h1, List.getElem?_eq_getElem (by omega)] at h
  cases h
abbrev near64 (x y : Int64) : Prop := -1000000 ≤ x.toInt ∧ x.toInt ≤ 1000000 ∧ -1000000 ≤ y.toInt ∧ y.toInt ≤ 1000000
abbrev isTl (z : SD) (i : Int32) : Prop := 0 ≤ i.toInt ∧ i.toInt < z.1.length
def aHit (z : SD) (h : HV) : AR := if z.2.1.length < 60 then (.inr (.int (nI z.2.1.length)), z.1, z.2.1 ++ [h], z.2.2) else (.inr (.int (-1)), z)
def aHole (z : SD) (i : Int32) (x y : Int64) (f t : Int32) : AR := if isTl z i ∧ (0 ≤ f.toInt ∧ f.toInt ≤ 7) ∧ (0 ≤ t.toInt ∧ t.toInt ≤ 7) then (if near64 x y ∧ f ≤ t then aHit z (i, x.toInt32, y.toInt32, x.toInt32, y.toInt32, f, t) else (.inl 2, z)) else (.inl 1, z)
def aSlot (z : SD) (i : Int32) (x y x2 y2 : Int64) : AR := if isTl z i then (if near64 x y ∧ near64 x2 y2 ∧ ¬ (x = x2 ∧ y = y2) then aHit z (i, x.toInt32, y.toInt32, x2.toInt32, y2.toInt32, 0, 7) else (.inl 2, z)) else (.inl 1, z)
abbrev f12 (k : Nat) : Nat := if k = 1 then 12 else 11
theorem small32 {x : Int64} (h : -1000000 ≤ x.toInt ∧ x.toInt ≤ 1000000) : x.toInt32.toInt = x.toInt := by
  rw [Int64.toInt_toInt32]
  exact Int.bmod_eq_of_le (by omega) (by omega)
theorem near_ok {i f t : Int32} {x y x2 y2 : Int64} (h1 : near64 x y) (h2 : near64 x2 y2) (hf : layOK f) (ht : layOK t) : hOK (i, x.toInt32, y.toInt32, x2.toInt32, y2.toInt32, f, t) := by
  obtain ⟨a1, a2, a3, a4⟩ := h1
  obtain ⟨b1, b2, b3, b4⟩ := h2
  refine ⟨⟨?_, ?_, ?_, ?_⟩, hf, ht⟩
  · show x.toInt32.toInt.natAbs ≤ 1000000
    rw [small32 ⟨a1, a2⟩]; omega
  · show y.toInt32.toInt.natAbs ≤ 1000000
    rw [small32 ⟨a3, a4⟩]; omega
  · show x2.toInt32.toInt.natAbs ≤ 1000000
    rw [small32 ⟨b1, b2⟩]; omega
  · show y2.toInt32.toInt.natAbs ≤ 1000000
    rw [small32 ⟨b3, b4⟩]; omega
section DA2
variable {l : Launch} {D : xD} {R : Room}
theorem ct_Da_hole {a : Nat} {z : SD} {i f9 t9 : Int32} {x y : Int64} {S : List va_W} (hfl : l.flags = pinnedFlags ++ [noTraceFlag]) (h : IsDa D a z S) (hr : rmOk R 7 9 133) : CtT l mDa_hole none D R [.ref a, .int i, .long x, .long y, .int f9, .int t9] S (QR D a (aHole z i x y f9 t9)) (ER D a f12 (aHole z i x y f9 t9)) := by
  obtain ⟨r1, r2, r3, r4⟩ := hr
  have hz := id h
  obtain ⟨pl, w, un, fe, dr, f, r, kp, kf, kt, c0, c1, c2, xs, ts, hs, fs, Cp, Co, Cu, Cf, Cd, T, Cs, F, rfl, hpl, ho, hk, hu, hfe, hb, hd, hok, hv, htv, hhv, hfs, hff⟩ := h
  obtain ⟨ta, ha, ft, fh, eCd, hTs, -, -, -, h3, h4⟩ := id hd
  have hlen : z.1.length = ts.length := by rw [← htv, List.length_map]
  have hhl : z.2.1.length = hs.length := by rw [← hhv, List.length_map]
  generalize hP : aHole z i x y f9 t9 = P
  unfold aHole at hP
  refine CtT.of rfl (by decide) tkDa_hole (Nat.le_of_ble_eq_true rfl) (fun A => ?_)
  refine Ex.p rfl ?_
  refine Ex.p rfl ?_
  refine Ex.cvT (Mc := mDa_knownTool) (Rc := rm 6 1 6) (As := [.int i]) (rest := []) (Sr := [Cp, sTw w pl r kp kf kt, Co, Cu, Cf, T, sHs hs, Cs, F]) (ic := 0) (jc := 0) (ci := 0) [0, 6] [1, 2, 3, 4, 5, 7, 8, 9, 10] (ct_Da_knownTool hfl hd (rm_ok _ _ _)) rfl lk_0_69 lcDa_knownTool rfl rfl rfl rfl rfl (by decide) rfl rfl rfl (by decide) ⟨by dsimp only [rm]; omega, by show 8 + (3 + 11) + 240 ≤ R.locals; omega⟩ (Nat.le_of_ble_eq_true rfl) (by dsimp only [rm]; omega) (by dsimp only [rm]; omega) ?_ ?_
  · rintro v S1 ⟨t, hi, rfl, rfl⟩
    obtain ⟨hi1, hi2⟩ := ixo_some hi
    refine Ex.sub (S' := [sDa a pl w un fe dr f, Cp, sTw w pl r kp kf kt, Co, Cu, Cf, Cd, T, sHs hs, Cs, F]) [9, 0, 1, 2, 3, 4, 10, 5, 6, 7, 8] rfl rfl ?_
    have ilt : isTl z i := ⟨hi1.1, by rw [hlen]; exact hi1.2⟩
    have s22 : ¬ ((0 ≤ f9.toInt ∧ f9.toInt ≤ 7) ∧ (0 ≤ t9.toInt ∧ t9.toInt ≤ 7)) → Ex l mDa_hole D R A (xQT D A (QR D a P) (ER D a f12 P)) R.cells R.slots 22 (lv_args 0 [.ref a, .int i, .long x, .long y, .int f9, .int t9]) [] [sDa a pl w un fe dr f, Cp, sTw w pl r kp kf kt, Co, Cu, Cf, Cd, T, sHs hs, Cs, F] (0 + (rm 6 1 6).cells) (0 + (rm 6 1 6).slots) := by
      intro g
      rw [if_neg (fun q => g q.2)] at hP
      refine Ex.thr hfl rfl rfl rfl rfl rfl rfl rfl thrIO (by decide +kernel) lcDa_hole.1.2.1 (by first | omega | (dsimp only [rm]; omega)) (by first | omega | (dsimp only [rm]; omega)) (by first | omega | (dsimp only [rm]; omega)) (by first | omega | (dsimp only [rm]; omega)) (by omega) (by simp [Value.category]; omega) ?_
      subst hP
      exact ⟨1, rfl, rfl, hz⟩
    have s48 : (0 ≤ f9.toInt ∧ f9.toInt ≤ 7) → (0 ≤ t9.toInt ∧ t9.toInt ≤ 7) → ¬ (near64 x y ∧ f9 ≤ t9) → Ex l mDa_hole D R A (xQT D A (QR D a P) (ER D a f12 P)) R.cells R.slots 48 (lv_args 0 [.ref a, .int i, .long x, .long y, .int f9, .int t9]) [] [sDa a pl w un fe dr f, Cp, sTw w pl r kp kf kt, Co, Cu, Cf, Cd, T, sHs hs, Cs, F] (0 + (rm 6 1 6).cells) (0 + (rm 6 1 6).slots) := by
      intro g1 g2 g3
      rw [if_pos ⟨ilt, g1, g2⟩, if_neg g3] at hP
      refine Ex.thr hfl rfl rfl rfl rfl rfl rfl rfl thrIA (by decide +kernel) lcDa_hole.1.2.1 (by first | omega | (dsimp only [rm]; omega)) (by first | omega | (dsimp only [rm]; omega)) (by first | omega | (dsimp only [rm]; omega)) (by first | omega | (dsimp only [rm]; omega)) (by omega) (by simp [Value.category]; omega) ?_
      subst hP
      exact ⟨2, rfl, rfl, hz⟩
    refine Ex.p rfl ?_
    refine Ex.p rfl ?_
    refine Ex.cs0 (Mc := mDa_isLayer) (Rc := rm 0 0 0) (As := [.int f9]) (rest := []) (ct_isLayer) rfl lk_0_73 lcDa_isLayer rfl ⟨by dsimp only [rm]; omega, by show 8 + (1 + 11) + 0 ≤ R.locals; omega⟩ (Nat.le_of_ble_eq_true rfl) (by dsimp only [rm]; omega) (by dsimp only [rm]; omega) ?_
    rintro v S1 ⟨rfl, rfl⟩
    by_cases g1 : 0 ≤ f9.toInt ∧ f9.toInt ≤ 7
    · rw [decide_eq_true g1]
      refine Ex.br rfl (fun c => absurd c (show (1 : Int32) ≠ 0 by decide)) (fun _ => ?_)
      refine Ex.p rfl ?_
      refine Ex.cs0 (Mc := mDa_isLayer) (Rc := rm 0 0 0) (As := [.int t9]) (rest := []) (ct_isLayer) rfl lk_0_73 lcDa_isLayer rfl ⟨by dsimp only [rm]; omega, by show 8 + (1 + 11) + 0 ≤ R.locals; omega⟩ (Nat.le_of_ble_eq_true rfl) (by dsimp only [rm]; omega) (by dsimp only [rm]; omega) ?_
      rintro v S1 ⟨rfl, rfl⟩
      by_cases g2 : 0 ≤ t9.toInt ∧ t9.toInt ≤ 7
      · rw [decide_eq_true g2]
        refine Ex.br rfl (fun _ => ?_) (fun c => absurd (show (1 : Int32) ≠ 0 by decide) c)
        refine Ex.p rfl ?_
        refine Ex.p rfl ?_
        refine Ex.cs0 (Mc := mDa_isPlace) (Rc := rm 0 0 0) (As := [.long x, .long y]) (rest := []) (ct_isPlace) rfl lk_0_82 lcDa_isPlace rfl ⟨by dsimp only [rm]; omega, by show 8 + (4 + 11) + 0 ≤ R.locals; omega⟩ (Nat.le_of_ble_eq_true rfl) (by dsimp only [rm]; omega) (by dsimp only [rm]; omega) ?_
        rintro v S1 ⟨rfl, rfl⟩
        by_cases g3 : near64 x y
        · rw [decide_eq_true g3]
          refine Ex.br rfl (fun c => absurd c (show (1 : Int32) ≠ 0 by decide)) (fun _ => ?_)
          refine Ex.p rfl ?_
          refine Ex.p rfl ?_
          refine Ex.br rfl (fun c => ?_) (fun c => ?_)
          · have c : f9 ≤ t9 := c
            rw [if_pos ⟨ilt, g1, g2⟩, if_pos ⟨g3, c⟩] at hP
            unfold aHit at hP
            have hgrow : rcap t.2.2.2.2.2.2.2.1 t.2.2.2.1.length - t.2.2.2.2.2.2.2.1 ≤ 60 := by
              obtain ⟨X, C, Y, -, ⟨rh, ro, Ch, Co, -, ⟨_, _, _, q1, q2, _⟩, -⟩, -⟩ := IsTs.at hTs hi2
              unfold rcap
              split <;> omega
            refine Ex.p rfl ?_
            refine Ex.gf 0 0 rfl rfl rfl ?_
            refine Ex.cv (Mc := mTw_forget) (Rc := rm 0 0 0) (As := []) (rest := []) (Sr := [sDa a pl w un fe dr f, Cp, Co, Cu, Cf, Cd, T, sHs hs, Cs, F]) (ic := 2) (jc := 0) (ci := 8) [2] [0, 1, 3, 4, 5, 6, 7, 8, 9, 10] (ct_Tw_forget) rfl lk_0_62 lcTw_forget rfl rfl rfl rfl rfl (by decide) rfl rfl rfl (by decide) ⟨by dsimp only [rm]; omega, by show 8 + (1 + 11) + 0 ≤ R.locals; omega⟩ (Nat.le_of_ble_eq_true rfl) (by dsimp only [rm]; omega) (by dsimp only [rm]; omega) ?_
            rintro v S1 ⟨rfl, rfl⟩
            refine Ex.sub (S' := [sDa a pl w un fe dr f, Cp, sTw w pl r false kf kt, Co, Cu, Cf, Cd, T, sHs hs, Cs, F]) [0, 1, 10, 2, 3, 4, 5, 6, 7, 8, 9] rfl rfl ?_
            refine Ex.p rfl ?_
            refine Ex.gf 0 0 rfl rfl rfl ?_
            refine Ex.new (ci := 3) (N := 7) rfl rfl (by dsimp only [rm]; omega) (by dsimp only [rm]; omega) (fun q9 => ?_)
            repeat (first | refine Ex.p rfl ?_ | refine Ex.ldc rfl ?_ | refine Ex.ldc2 rfl ?_)
            refine Ex.ci (Mc := mHi_init) (Rc := rm 1 0 0) (As := [.int i, .int x.toInt32, .int y.toInt32, .int x.toInt32, .int y.toInt32, .int f9, .int t9]) (rest := [.ref q9, .ref dr]) (Sr := [sDa a pl w un fe dr f, Cp, sTw w pl r false kf kt, Co, Cu, Cf, Cd, T, sHs hs, Cs, F]) [11] [0, 1, 2, 3, 4, 5, 6, 7, 8, 9, 10] (ct_Hi_init (h := (i, x.toInt32, y.toInt32, x.toInt32, y.toInt32, f9, t9)) (rm_ok _ _ _)) rfl lk_0_90 lcHi_init rfl rfl rfl rfl rfl (by decide) ⟨by dsimp only [rm]; omega, by show 8 + (8 + 11) + 40 ≤ R.locals; omega⟩ (Nat.le_of_ble_eq_true rfl) (by dsimp only [rm]; omega) (by dsimp only [rm]; omega) ?_
            rintro v S1 ⟨rfl, rfl⟩
            refine Ex.cv (Mc := mDr_addHit) (Rc := rm 4 ((rcap t.2.2.2.2.2.2.2.1 t.2.2.2.1.length - t.2.2.2.2.2.2.2.1) / 8) (2 * (rcap t.2.2.2.2.2.2.2.1 t.2.2.2.1.length - t.2.2.2.2.2.2.2.1))) (As := [.ref q9]) (rest := []) (Sr := [sDa a pl w un fe dr f, Cp, sTw w pl r false kf kt, Co, Cu, Cf, Cs, F]) (ic := 6) (jc := 0) (ci := 1) [6, 7, 8, 11] [0, 1, 2, 3, 4, 5, 9, 10] (ct_Dr_addHit (i := i.toInt.toNat) (h9 := (i, x.toInt32, y.toInt32, x.toInt32, y.toInt32, f9, t9)) hd (by show i.toInt = _; omega) hi2 (fun h9 => by have := hok.hitsLen hi2; omega) (rm_ok _ _ _)) rfl lk_0_93 lcDr_addHit rfl rfl rfl rfl rfl (by decide) rfl (by rw [eCd]; rfl) rfl (by decide) ⟨by dsimp only [rm]; omega, by show 8 + (3 + 11) + 160 ≤ R.locals; omega⟩ (Nat.le_of_ble_eq_true rfl) (by dsimp only [rm]; omega) (by dsimp only [rm]; omega) ?_
            rintro v S1 h9
            rcases h9 with ⟨h10, rfl, rfl⟩ | ⟨h10, rfl, Cd', T', rfl, hd'⟩
            · rw [if_neg (by omega)] at hP
              refine Ex.sub (S' := [sDa a pl w un fe dr f, Cp, sTw w pl r false kf kt, Co, Cu, Cf, Cd, T, sHs hs, Cs, F]) [0, 1, 2, 3, 4, 5, 8, 9, 10, 6, 7] rfl rfl ?_
              refine Ex.rt (Ex.iret rfl rfl (by dsimp only [rm]; omega) (by dsimp only [rm]; omega) rfl ?_)
              subst hP
              exact ⟨_, rfl, rfl, pl, w, un, fe, dr, f, r, false, kf, kt, c0, c1, c2, xs, ts, hs, fs, Cp, Co, Cu, Cf, Cd, T, Cs, F, rfl, hpl, ho, (fun c => by cases c), hu, hfe, hb, hd, hok, hv, htv, hhv, hfs, hff⟩
            · rw [if_pos (by omega)] at hP
              refine Ex.sub (S' := [sDa a pl w un fe dr f, Cp, sTw w pl r false kf kt, Co, Cu, Cf, Cd', T', sHs (hs ++ [(q9, (i, x.toInt32, y.toInt32, x.toInt32, y.toInt32, f9, t9))]), Cs, F]) [0, 1, 2, 3, 4, 5, 8, 9, 10, 6, 7] rfl rfl ?_
              refine Ex.rt (Ex.iret rfl rfl (by dsimp only [rm]; omega) (by dsimp only [rm]; omega) rfl ?_)
              subst hP
              exact ⟨_, rfl, by rw [hhl], pl, w, un, fe, dr, f, r, false, kf, kt, c0, c1, c2, xs, _, _, fs, Cp, Co, Cu, Cf, Cd', T', Cs, F, rfl, hpl, ho, (fun c => by cases c), hu, hfe, hb, hd', hok.hit hi2 (nI_nat hi1.1).symm (near_ok g3 g3 g1 g2) (by omega) h10, (by rw [List.length_set, List.map_append]; exact hv.add (by omega) (nI_nat hi1.1).symm), (by rw [map_set_tvo hi2 tvo_tadd, htv]), (by rw [List.map_append, hhv]; rfl), hfs, hff⟩
          · have c : ¬ f9 ≤ t9 := c
            exact s48 g1 g2 (fun q => c q.2)
        · rw [decide_eq_false g3]
          exact Ex.br rfl (fun _ => s48 g1 g2 (fun q => g3 q.1)) (fun c => absurd rfl c)
      · rw [decide_eq_false g2]
        exact Ex.br rfl (fun c => absurd rfl c) (fun _ => s22 (fun q => g2 q.2))
    · rw [decide_eq_false g1]
      exact Ex.br rfl (fun _ => s22 (fun q => g1 q.1)) (fun c => absurd rfl c)
  · rintro x9 cc S1 ⟨rfl, hno, rfl⟩
    refine Et.sub (S' := [sDa a pl w un fe dr f, Cp, sTw w pl r kp kf kt, Co, Cu, Cf, Cd, T, sHs hs, Cs, F]) [9, 0, 1, 2, 3, 4, 10, 5, 6, 7, 8] rfl rfl ?_
    refine Et.leave lcDa_hole.1.2.1 (by dsimp only [rm]; omega) (by dsimp only [rm]; omega) ?_
    rw [if_neg (fun q => ixo_no hno ⟨q.1.1, by rw [← hlen]; exact q.1.2⟩)] at hP
    subst hP
    exact ⟨1, rfl, rfl, hz⟩
end DA2

/-! the reference: write, isText, told, agrees -/
theorem lay_neg {L : Int32} (h : L.toInt < 0) : ¬ (0 ≤ (L / 10).toInt ∧ 0 ≤ (L - L / 10 * 10).toInt) := by
  rintro ⟨h1, h2⟩
  have hb := Int32.le_toInt L
  have e1 : (L / 10).toInt = (L.toInt.tdiv 10).bmod (2 ^ 32) := Int32.toInt_div L 10
  have e2 : L.toInt.tdiv 10 = - ((- L.toInt) / 10) := by
    have := Int.neg_tdiv (a := - L.toInt) (b := 10)
    rw [Int.neg_neg] at this
    rw [this, Int.tdiv_eq_ediv_of_nonneg (by omega)]
  have e3 : (L.toInt.tdiv 10).bmod (2 ^ 32) = L.toInt.tdiv 10 := by
    rw [e2]
    exact Int.bmod_eq_of_le (by omega) (by omega)
  rw [e3, e2] at e1
  have e4 : (L / 10).toInt = 0 := by omega
  have e5 : L / 10 = 0 := Int32.toInt_inj.mp (by rw [e4]; rfl)
  rw [e5] at h2
  have e6 : L - 0 * 10 = L := by simp
  rw [e6] at h2
  omega
theorem find_first {fl : List (Nat × List Nat)} {i ro : Nat} {x : Nat × List Nat} (h : fl[i]? = some x) (hx : x.1 = ro) (hn : ∀ (j : Nat) (y : Nat × List Nat), j < i → fl[j]? = some y → y.1 ≠ ro) : fl.find? (fun x => x.1 == ro) = some x := by
  induction fl generalizing i with
  | nil => simp at h
  | cons y fl ih =>
    cases i with
    | zero =>
      simp only [List.getElem?_cons_zero, Option.some.injEq] at h
      subst h
      simp [hx]
    | succ i =>
      have h0 := hn 0 y (by omega) rfl
      rw [List.find?_cons_of_neg (by simpa using h0)]
      exact ih (by simpa using h) (fun j y9 hj hy => hn (j + 1) y9 (by omega) (by simpa using hy))
theorem tld_none {w : Nat → Bool} : ∀ (n ro : Nat), ro + n ≤ 8 → (tld w n ro 0 = -1 ↔ ∀ r, ro ≤ r → r < ro + n → w r = false)
  | 0, ro, _ => by
    constructor
    · intro _ r h1 h2
      omega
    · intro _
      rfl
  | n + 1, ro, h => by
    unfold tld
    by_cases c : w ro = true
    · rw [if_pos c, if_pos rfl]
      constructor
      · intro e
        have := nI_toInt (n := ro) (by omega)
        rw [e] at this
        have e9 : (-1 : Int32).toInt = -1 := by decide
        omega
      · intro q
        rw [q ro (by omega) (by omega)] at c
        cases c
    · rw [if_neg c, tld_none n (ro + 1) (by omega)]
      constructor
      · intro q r h1 h2
        rcases Nat.lt_or_ge ro r with g | g
        · exact q r (by omega) (by omega)
        · rw [show r = ro by omega]
          simpa using c
      · intro q r h1 h2
        exact q r (by omega) (by omega)
theorem agree_iff {z : SD} (hnd : (z.2.2.2.2.map Prod.fst).Nodup) (h8 : ∀ x ∈ z.2.2.2.2, x.1 < 8) : (tld (wrg z) 8 0 0 = -1) ↔ ∀ x ∈ z.2.2.2.2, x.2.map nI = textD 0 (nI x.1) z.1 z.2.1 := by
  rw [tld_none 8 0 (by omega)]
  have key : ∀ (fl : List (Nat × List Nat)), (fl.map Prod.fst).Nodup → ∀ x ∈ fl, fl.find? (fun y => y.1 == x.1) = some x := by
    intro fl
    induction fl with
    | nil => intro _ x hx; cases hx
    | cons y fl ih =>
      intro hn x hx
      rw [List.map_cons, List.nodup_cons] at hn
      rcases List.mem_cons.mp hx with rfl | hx
      · simp
      · have hne : y.1 ≠ x.1 := fun e => hn.1 (by rw [e]; exact List.mem_map_of_mem hx)
        rw [List.find?_cons_of_neg (by simpa using hne)]
        exact ih hn.2 x hx
  constructor
  · intro q x hx
    have := q x.1 (by omega) (by have := h8 x hx; omega)
    unfold wrg at this
    rw [key _ hnd x hx] at this
    simpa using this
  · intro q r h1 h2
    unfold wrg
    cases hf : z.2.2.2.2.find? (fun x => x.1 == r) with
    | none => rfl
    | some x =>
      have hx := List.mem_of_find?_eq_some hf
      have hr := List.find?_some hf
      have hr : x.1 = r := by simpa using hr
      rw [← hr]
      simpa using q x hx
section MOG
variable {l : Launch} {D : xD} {R : Room}
theorem ct_Mo_write {m : Nat} {z : SD} {L i th : Int32} {S : List va_W} (h : IsMo D m z th S) (htv : ∀ t ∈ z.1, tvOK t) (hok : ∀ h ∈ z.2.1, hOK h) (hr : rmOk R 6 0 0) : Ct l mMo_write D R [.ref m, .int L, .int i] S (QM D m (.int 0) (aWrite z L i)) := by
  obtain ⟨r1, r2, r3, r4⟩ := hr
  obtain ⟨B, mn, la, ap, bg, wr, wa, wn, fo, st, rf, rt, cu, me, hl, LT, LH, CT, CH, CX, CF, CE, gR, gQ, gL, gW, rfl, hT, hH, iT, iH, iX, iF, iE⟩ := h
  have hlt : z.1.length ≤ 10 := by
    obtain ⟨_, _, _, -, hs⟩ := id iT
    have := (hs 0 (by omega)).2.1
    rw [hT] at this
    exact this
  have h60 : z.2.1.length ≤ 60 := by
    obtain ⟨_, _, _, _, _, _, _, _, _, -, hs⟩ := id iH
    have := (hs 0 (by omega)).2.1
    rw [hH] at this
    exact this
  generalize hP : aWrite z L i = P
  unfold aWrite at hP
  have hneg := lay_neg (L := L)
  obtain ⟨q, ed⟩ : ∃ q, L / 10 = q := ⟨_, rfl⟩
  obtain ⟨w, em⟩ : ∃ w, L - L / 10 * 10 = w := ⟨_, rfl⟩
  rw [em, ed] at hP hneg
  have ed : L / (Int8.ofInt 10).toInt32 = q := ed
  have em : L - L / (Int8.ofInt 10).toInt32 * (Int8.ofInt 10).toInt32 = w := em
  refine Ct.of rfl (by decide) tkMo_write (Nat.le_of_ble_eq_true rfl) (fun A => ?_)
  have bad : ¬ (0 ≤ i.toInt ∧ (0 ≤ q.toInt ∧ q.toInt ≤ 7) ∧ (0 ≤ w.toInt ∧ w.toInt ≤ 7) ∧ q ≤ w) → ∀ lv9 : List (Nat × Value), (∀ q ∈ [(0, Value.ref m)], q ∈ lv9) → Ex l mMo_write D R A (xQ D A (QM D m (.int 0) P)) R.cells R.slots 56 lv9 [.ref m] [sMo m B th mn la (nI z.2.2.1.length) ap bg wr me (nI z.2.2.2.2.length) (nI z.2.2.2.1.length) wa wn fo st hl rf rt cu, CT, CH, cMO D B gR gQ gL, cMW D B gW, CX, CF, CE] 0 0 := by
    intro g lv9 hlv
    rw [if_neg g] at hP
    refine Ex.lv hlv ?_
    refine Ex.p rfl ?_
    refine Ex.pf 0 0 rfl rfl rfl rfl rfl rfl ?_
    refine Ex.p rfl ?_
    refine Ex.gf 0 0 rfl rfl rfl ?_
    refine Ex.br rfl (fun c => absurd c (show (1 : Int32) ≠ 0 by decide)) (fun _ => ?_)
    refine Ex.p rfl ?_
    refine Ex.iret rfl rfl (by first | (dsimp only [rm]; omega) | omega) (by first | (dsimp only [rm]; omega) | omega) rfl ?_
    exact QM.thr hP.symm ⟨B, mn, la, ap, bg, wr, wa, wn, fo, st, rf, rt, cu, me, hl, LT, LH, CT, CH, CX, CF, CE, gR, gQ, gL, gW, rfl, hT, hH, iT, iH, iX, iF, iE⟩
  have s41 : ¬ ((0 ≤ q.toInt ∧ q.toInt ≤ 7) ∧ (0 ≤ w.toInt ∧ w.toInt ≤ 7) ∧ q ≤ w) → ∀ lv9 : List (Nat × Value), (∀ q ∈ [(2, Value.int i), (1, .int L), (0, .ref m)], q ∈ lv9) → Ex l mMo_write D R A (xQ D A (QM D m (.int 0) P)) R.cells R.slots 41 lv9 [] [sMo m B th mn la (nI z.2.2.1.length) ap bg wr me (nI z.2.2.2.2.length) (nI z.2.2.2.1.length) wa wn fo st hl rf rt cu, CT, CH, cMO D B gR gQ gL, cMW D B gW, CX, CF, CE] 0 0 := by
    intro g lv9 hlv
    refine Ex.lv hlv ?_
    refine Ex.p rfl ?_
    refine Ex.p rfl ?_
    refine Ex.p rfl ?_
    refine Ex.p rfl ?_
    refine Ex.br rfl (fun _ => ?_) (fun c => absurd rfl c)
    refine bad (fun q => g q.2) _ (fun q h => ?_)
    simp only [List.mem_cons, List.not_mem_nil, or_false] at h
    rcases h with rfl <;> first | (simp [xs1, xs2, lv_args, Value.category, b32, nI]; done) | (simp [xs1, xs2, lv_args, Value.category, b32, nI]; decide) | (simp [xs1, xs2, lv_args, Value.category, b32, nI]; exact Or.inr (by decide)) | (simp [xs1, xs2, lv_args, Value.category, b32, nI]; exact Or.inl (by decide))
  refine Ex.p rfl ?_
  refine Ex.br rfl (fun c => ?_) (fun c => ?_)
  · have c : L < 0 := c
    rw [Int32.lt_iff_toInt_lt] at c
    have c : L.toInt < 0 := c
    have := hneg c
    refine s41 (fun q => by omega) _ (fun q h => ?_)
    simp only [List.mem_cons, List.not_mem_nil, or_false] at h
    rcases h with rfl | rfl | rfl <;> first | (simp [xs1, xs2, lv_args, Value.category, b32, nI]; done) | (simp [xs1, xs2, lv_args, Value.category, b32, nI]; decide) | (simp [xs1, xs2, lv_args, Value.category, b32, nI]; exact Or.inr (by decide)) | (simp [xs1, xs2, lv_args, Value.category, b32, nI]; exact Or.inl (by decide))
  · refine Ex.p rfl ?_
    refine Ex.p rfl ?_
    refine Ex.idiv rfl (by decide) ?_
    rw [ed]
    refine Ex.p rfl ?_
    refine Ex.cs0 (Mc := mMo_isLayer) (Rc := rm 0 0 0) (As := [.long q.toInt64]) (rest := []) (ct_Mo_isLayer) rfl lk_10_108 lcMo_isLayer rfl ⟨by dsimp only [rm]; omega, by show 8 + (2 + 11) + 0 ≤ R.locals; omega⟩ (Nat.le_of_ble_eq_true rfl) (by first | (dsimp only [rm]; omega) | omega) (by first | (dsimp only [rm]; omega) | omega) ?_
    rintro v S1 ⟨rfl, rfl⟩
    rw [Int32.toInt_toInt64]
    by_cases g1 : 0 ≤ q.toInt ∧ q.toInt ≤ 7
    · rw [decide_eq_true g1]
      refine Ex.br rfl (fun c => absurd c (show (1 : Int32) ≠ 0 by decide)) (fun _ => ?_)
      refine Ex.p rfl ?_
      refine Ex.p rfl ?_
      refine Ex.irem rfl (by decide) ?_
      rw [em]
      refine Ex.p rfl ?_
      refine Ex.cs0 (Mc := mMo_isLayer) (Rc := rm 0 0 0) (As := [.long w.toInt64]) (rest := []) (ct_Mo_isLayer) rfl lk_10_108 lcMo_isLayer rfl ⟨by dsimp only [rm]; omega, by show 8 + (2 + 11) + 0 ≤ R.locals; omega⟩ (Nat.le_of_ble_eq_true rfl) (by first | (dsimp only [rm]; omega) | omega) (by first | (dsimp only [rm]; omega) | omega) ?_
      rintro v S1 ⟨rfl, rfl⟩
      rw [Int32.toInt_toInt64]
      by_cases g2 : 0 ≤ w.toInt ∧ w.toInt ≤ 7
      · rw [decide_eq_true g2]
        refine Ex.br rfl (fun c => absurd c (show (1 : Int32) ≠ 0 by decide)) (fun _ => ?_)
        refine Ex.p rfl ?_
        refine Ex.p rfl ?_
        refine Ex.idiv rfl (by decide) ?_
        rw [ed]
        refine Ex.p rfl ?_
        refine Ex.p rfl ?_
        refine Ex.irem rfl (by decide) ?_
        rw [em]
        refine Ex.br rfl (fun c2 => ?_) (fun c2 => ?_)
        · have c2 : w < q := c2
          refine s41 (fun q => by have := q.2.2; rw [Int32.le_iff_toInt_le] at this; rw [Int32.lt_iff_toInt_lt] at c2; omega) _ (fun q h => ?_)
          simp only [List.mem_cons, List.not_mem_nil, or_false] at h
          rcases h with rfl | rfl | rfl <;> first | (simp [xs1, xs2, lv_args, Value.category, b32, nI]; done) | (simp [xs1, xs2, lv_args, Value.category, b32, nI]; decide) | (simp [xs1, xs2, lv_args, Value.category, b32, nI]; exact Or.inr (by decide)) | (simp [xs1, xs2, lv_args, Value.category, b32, nI]; exact Or.inl (by decide))
        · have c2 : ¬ w < q := c2
          have g3 : q ≤ w := by
            rw [Int32.le_iff_toInt_le]
            rw [Int32.lt_iff_toInt_lt] at c2
            omega
          refine Ex.p rfl ?_
          refine Ex.p rfl ?_
          refine Ex.p rfl ?_
          refine Ex.p rfl ?_
          refine Ex.p rfl ?_
          refine Ex.br rfl (fun c => absurd c (show (1 : Int32) ≠ 0 by decide)) (fun _ => ?_)
          refine Ex.p rfl ?_
          refine Ex.br rfl (fun c3 => ?_) (fun c3 => ?_)
          · have c3 : i < 0 := c3
            rw [Int32.lt_iff_toInt_lt] at c3
            have c3 : i.toInt < 0 := c3
            refine bad (fun q => by omega) _ (fun q h => ?_)
            simp only [List.mem_cons, List.not_mem_nil, or_false] at h
            rcases h with rfl <;> first | (simp [xs1, xs2, lv_args, Value.category, b32, nI]; done) | (simp [xs1, xs2, lv_args, Value.category, b32, nI]; decide) | (simp [xs1, xs2, lv_args, Value.category, b32, nI]; exact Or.inr (by decide)) | (simp [xs1, xs2, lv_args, Value.category, b32, nI]; exact Or.inl (by decide))
          · have c3 : ¬ i < 0 := c3
            rw [Int32.lt_iff_toInt_lt] at c3
            have c3 : ¬ i.toInt < 0 := c3
            rw [if_pos ⟨by omega, g1, g2, g3⟩] at hP
            have hYl := textD_len g1 g2 hlt htv h60
            refine Ex.p rfl ?_
            refine Ex.p rfl ?_
            refine Ex.pf 0 0 rfl rfl rfl rfl rfl rfl ?_
            refine Ex.p rfl ?_
            refine Ex.gf 0 0 rfl rfl rfl ?_
            refine Ex.br rfl (fun _ => ?_) (fun c => absurd rfl c)
            refine Ex.p rfl ?_
            refine Ex.p rfl ?_
            refine Ex.p rfl ?_
            refine Ex.idiv rfl (by decide) ?_
            rw [ed]
            refine Ex.p rfl ?_
            refine Ex.p rfl ?_
            refine Ex.irem rfl (by decide) ?_
            rw [em]
            refine Ex.cv (Mc := mMo_layText) (Rc := rm 5 0 0) (As := [.int q, .int w]) (rest := []) (Sr := [CX, CF, CE]) (ic := 0) (jc := 0) (ci := 10) [0, 1, 2, 3, 4] [5, 6, 7] (ct_Mo_layText iT iH (by rw [hT]; exact htv) (by rw [hH]; exact hok) g1 g2 (rm_ok _ _ _)) rfl lk_10_171 lcMo_layText rfl rfl rfl rfl rfl (by decide) rfl rfl rfl (by decide) ⟨by dsimp only [rm]; omega, by show 8 + (7 + 11) + 200 ≤ R.locals; omega⟩ (Nat.le_of_ble_eq_true rfl) (by first | (dsimp only [rm]; omega) | omega) (by first | (dsimp only [rm]; omega) | omega) ?_
            rintro v S1 ⟨rfl, mn', gR', gQ', gL', gW', rfl, hg⟩
            rw [hT, hH] at hg ⊢
            generalize textD q w z.1 z.2.1 = Y at hg hYl hP
            refine Ex.sub (S' := [sMo m B 0 mn' (nI Y.length) (nI z.2.2.1.length) ap bg wr me (nI z.2.2.2.2.length) (nI z.2.2.2.1.length) wa wn fo st hl rf rt cu, CT, CH, cMO D B gR' gQ' gL', cMW D B gW', CX, CF, CE]) [3, 4, 5, 6, 7, 0, 1, 2] rfl rfl ?_
            have fin : ∀ v : Int32, v = rget Y i → QM D m (.int 0) P (some (.int v)) [sMo m B 0 mn' (nI Y.length) (nI z.2.2.1.length) ap bg wr me (nI z.2.2.2.2.length) (nI z.2.2.2.1.length) wa wn fo st hl rf rt cu, CT, CH, cMO D B gR' gQ' gL', cMW D B gW', CX, CF, CE] := by
              intro v ev
              rw [ev]
              exact QM.ret hP.symm ⟨B, _, _, ap, bg, wr, wa, wn, fo, st, rf, rt, cu, me, hl, LT, LH, CT, CH, CX, CF, CE, gR', gQ', gL', gW', rfl, hT, hH, iT, iH, iX, iF, iE⟩
            refine Ex.p rfl ?_
            refine Ex.p rfl ?_
            refine Ex.gf 0 0 rfl rfl rfl ?_
            refine Ex.br rfl (fun c4 => ?_) (fun c4 => ?_)
            · have c4 : nI Y.length ≤ i := c4
              rw [Int32.le_iff_toInt_le, nI_toInt (by omega)] at c4
              refine Ex.p rfl ?_
              refine Ex.iret rfl rfl (by first | (dsimp only [rm]; omega) | omega) (by first | (dsimp only [rm]; omega) | omega) rfl (fin _ ?_)
              unfold rget
              rw [if_neg (by omega)]
              rfl
            · have c4 : ¬ nI Y.length ≤ i := c4
              rw [Int32.le_iff_toInt_le, nI_toInt (by omega)] at c4
              refine Ex.p rfl ?_
              refine Ex.gf 0 0 rfl rfl rfl ?_
              refine Ex.p rfl ?_
              refine Ex.ial 4 0 i.toInt.toNat rfl rfl rfl (by omega) (by omega) ?_
              rw [hg _ (by omega)]
              refine Ex.p rfl ?_
              refine Ex.iret rfl rfl (by first | (dsimp only [rm]; omega) | omega) (by first | (dsimp only [rm]; omega) | omega) rfl (fin _ ?_)
              unfold rget
              rw [if_pos (by omega), List.getD_eq_getElem?_getD, List.getElem?_eq_getElem (by omega)]
              rfl
      · rw [decide_eq_false g2]
        refine Ex.br rfl (fun _ => ?_) (fun c => absurd rfl c)
        refine s41 (fun q => g2 q.2.1) _ (fun q h => ?_)
        simp only [List.mem_cons, List.not_mem_nil, or_false] at h
        rcases h with rfl | rfl | rfl <;> first | (simp [xs1, xs2, lv_args, Value.category, b32, nI]; done) | (simp [xs1, xs2, lv_args, Value.category, b32, nI]; decide) | (simp [xs1, xs2, lv_args, Value.category, b32, nI]; exact Or.inr (by decide)) | (simp [xs1, xs2, lv_args, Value.category, b32, nI]; exact Or.inl (by decide))
    · rw [decide_eq_false g1]
      refine Ex.br rfl (fun _ => ?_) (fun c => absurd rfl c)
      refine s41 (fun q => g1 q.1) _ (fun q h => ?_)
      simp only [List.mem_cons, List.not_mem_nil, or_false] at h
      rcases h with rfl | rfl | rfl <;> first | (simp [xs1, xs2, lv_args, Value.category, b32, nI]; done) | (simp [xs1, xs2, lv_args, Value.category, b32, nI]; decide) | (simp [xs1, xs2, lv_args, Value.category, b32, nI]; exact Or.inr (by decide)) | (simp [xs1, xs2, lv_args, Value.category, b32, nI]; exact Or.inl (by decide))
theorem ct_Mo_isText {m i : Nat} {B : Nat → Nat} {th mn la ln ap bg wr fi fe wa wn fo st rf rt cu : Int32} {me hl : Bool} {LT : Nat → List (Int32 × Bool)} {LH : Nat → List HV} {CT CH CF : va_W} {gR gQ : Nat → Int32} {gL : Nat → Int64} {gW : Nat → Int32} {fl : List (Nat × List Nat)} {x : Nat × List Nat} (iT : IsMT D B LT CT) (iH : IsMH D B LH CH) (iF : IsMF D B fl CF) (htv : ∀ t ∈ LT 0, tvOK t) (hok : ∀ h ∈ LH 0, hOK h) (hi : fl[i]? = some x) (hr : rmOk R 6 0 0) : Ct l mMo_isText D R [.ref m, .int (nI i)] [sMo m B th mn la ln ap bg wr me fi fe wa wn fo st hl rf rt cu, CT, CH, cMO D B gR gQ gL, cMW D B gW, CF] (fun v S => v = some (.int (b32 (decide (x.2.map nI = textD 0 (nI x.1) (LT 0) (LH 0))))) ∧ ∃ mn' la' gR' gQ' gL' gW', S = [sMo m B th mn' la' ln ap bg wr me fi fe wa wn fo st hl rf rt cu, CT, CH, cMO D B gR' gQ' gL', cMW D B gW', CF]) := by
  obtain ⟨r1, r2, r3, r4⟩ := hr
  obtain ⟨gr, gs, gb, rfl, f8, hs⟩ := iF
  obtain ⟨a1, a2, a3, a4, a5⟩ := hs i x hi
  have hi8 : i < 8 := by
    have := (List.getElem?_eq_some_iff.mp hi).1
    omega
  have hlt : (LT 0).length ≤ 10 := by
    obtain ⟨_, _, _, -, hs⟩ := id iT
    exact (hs 0 (by omega)).2.1
  have h60 : (LH 0).length ≤ 60 := by
    obtain ⟨_, _, _, _, _, _, _, _, _, -, hs⟩ := id iH
    exact (hs 0 (by omega)).2.1
  have g1 : layOK 0 := ⟨by decide, by decide⟩
  have g2 : layOK (nI x.1) := ⟨by rw [nI_toInt (by omega)]; omega, by rw [nI_toInt (by omega)]; omega⟩
  have hYl := textD_len g1 g2 hlt htv h60
  refine Ct.of rfl (by decide) tkMo_isText (Nat.le_of_ble_eq_true rfl) (fun A => ?_)
  refine Ex.p rfl ?_
  refine Ex.p rfl ?_
  refine Ex.p rfl ?_
  refine Ex.gf 0 0 rfl rfl rfl ?_
  refine Ex.p rfl ?_
  refine Ex.ial 5 0 i rfl rfl rfl (nI_toInt (by omega)) (by omega) ?_
  rw [a1]
  refine Ex.cv (Mc := mMo_layText) (Rc := rm 5 0 0) (As := [.int 0, .int (nI x.1)]) (rest := []) (Sr := [cMF D B gr gs gb]) (ic := 0) (jc := 0) (ci := 10) [0, 1, 2, 3, 4] [5] (ct_Mo_layText iT iH htv hok g1 g2 (rm_ok _ _ _)) rfl lk_10_171 lcMo_layText rfl rfl rfl rfl rfl (by decide) rfl rfl rfl (by decide) ⟨by dsimp only [rm]; omega, by show 8 + (7 + 11) + 200 ≤ R.locals; omega⟩ (Nat.le_of_ble_eq_true rfl) (by first | (dsimp only [rm]; omega) | omega) (by first | (dsimp only [rm]; omega) | omega) ?_
  rintro v S1 ⟨rfl, mn', gR', gQ', gL', gW', rfl, hg⟩
  generalize textD 0 (nI x.1) (LT 0) (LH 0) = Y at hg hYl
  generalize hQ : (fun (v : Option Value) S => v = some (.int (b32 (decide (x.2.map nI = Y)))) ∧ ∃ mn' la' gR' gQ' gL' gW', S = [sMo m B th mn' la' ln ap bg wr me fi fe wa wn fo st hl rf rt cu, CT, CH, cMO D B gR' gQ' gL', cMW D B gW', cMF D B gr gs gb]) = Q
  refine Ex.sub (S' := [sMo m B th mn' (nI Y.length) ln ap bg wr me fi fe wa wn fo st hl rf rt cu, CT, CH, cMO D B gR' gQ' gL', cMW D B gW', cMF D B gr gs gb]) [1, 2, 3, 4, 5, 0] rfl rfl ?_
  have s77 : ∀ bo : Bool, bo = decide (x.2.map nI = Y) → ∀ lv9 : List (Nat × Value), (∀ q ∈ [(2, Value.int (b32 bo))], q ∈ lv9) → ∀ k8 n8 : Nat, k8 ≤ R.cells → n8 ≤ R.slots → Ex l mMo_isText D R A (xQ D A Q) R.cells R.slots 77 lv9 [] [sMo m B th mn' (nI Y.length) ln ap bg wr me fi fe wa wn fo st hl rf rt cu, CT, CH, cMO D B gR' gQ' gL', cMW D B gW', cMF D B gr gs gb] k8 n8 := by
    intro bo hbo lv9 hlv k8 n8 hk8 hn8
    refine Ex.lv hlv ?_
    refine Ex.p rfl ?_
    refine Ex.zret rfl rfl (b32_01 bo) hk8 hn8 rfl ?_
    subst hQ
    exact ⟨by rw [hbo], mn', _, gR', gQ', gL', gW', rfl⟩
  have loop : ∀ (k j : Nat) (bo : Bool), Y.length - j < k → j ≤ Y.length → (bo = false → x.2.map nI ≠ Y) → (bo = true → x.2.length = Y.length ∧ ∀ e, e < j → (x.2.map nI)[e]? = Y[e]?) → ∀ lv9 : List (Nat × Value), (∀ q ∈ [(3, Value.int (nI j)), (2, .int (b32 bo)), (1, .int (nI i)), (0, .ref m)], q ∈ lv9) → ∀ k8 n8 : Nat, k8 ≤ R.cells → n8 ≤ R.slots → Ex l mMo_isText D R A (xQ D A Q) R.cells R.slots 32 lv9 [] [sMo m B th mn' (nI Y.length) ln ap bg wr me fi fe wa wn fo st hl rf rt cu, CT, CH, cMO D B gR' gQ' gL', cMW D B gW', cMF D B gr gs gb] k8 n8 := by
    intro k
    induction k with
    | zero => intro j bo h; omega
    | succ k ih =>
      intro j bo hk hj hb0 hb1 lv9 hlv k8 n8 hk8 hn8
      refine Ex.lv hlv ?_
      refine Ex.p rfl ?_
      refine Ex.p rfl ?_
      refine Ex.gf 0 0 rfl rfl rfl ?_
      refine Ex.br rfl (fun c => ?_) (fun c => ?_)
      · have c : nI Y.length ≤ nI j := c
        rw [nI_leI (by omega) (by omega)] at c
        refine s77 bo ?_ _ (fun q h => ?_) _ _ hk8 hn8
        · cases bo with
          | false => rw [decide_eq_false (hb0 rfl)]
          | true =>
            obtain ⟨e1, e2⟩ := hb1 rfl
            rw [decide_eq_true]
            apply List.ext_getElem?
            intro e
            rcases Nat.lt_or_ge e j with g | g
            · exact e2 e g
            · rw [List.getElem?_eq_none (by rw [List.length_map]; omega), List.getElem?_eq_none (by omega)]
        · simp only [List.mem_cons, List.not_mem_nil, or_false] at h
          rcases h with rfl <;> first | (simp [xs1, xs2, lv_args, Value.category, b32, nI]; done) | (simp [xs1, xs2, lv_args, Value.category, b32, nI]; decide) | (simp [xs1, xs2, lv_args, Value.category, b32, nI]; exact Or.inr (by decide)) | (simp [xs1, xs2, lv_args, Value.category, b32, nI]; exact Or.inl (by decide))
      · have c : ¬ nI Y.length ≤ nI j := c
        rw [nI_leI (by omega) (by omega)] at c
        refine Ex.p rfl ?_
        cases bo with
        | false =>
          refine Ex.br rfl (fun _ => ?_) (fun c => absurd rfl c)
          refine s77 false (by rw [decide_eq_false (hb0 rfl)]) _ (fun q h => ?_) _ _ hk8 hn8
          simp only [List.mem_cons, List.not_mem_nil, or_false] at h
          rcases h with rfl <;> first | (simp [xs1, xs2, lv_args, Value.category, b32, nI]; done) | (simp [xs1, xs2, lv_args, Value.category, b32, nI]; decide) | (simp [xs1, xs2, lv_args, Value.category, b32, nI]; exact Or.inr (by decide)) | (simp [xs1, xs2, lv_args, Value.category, b32, nI]; exact Or.inl (by decide))
        | true =>
          obtain ⟨e1, e2⟩ := hb1 rfl
          obtain ⟨a6, a7⟩ := a5 j (by omega)
          have hat : (x.2.map nI)[j]? = some (nI x.2[j]) := by
            rw [List.getElem?_map, List.getElem?_eq_getElem (by omega)]
            rfl
          have haY : Y[j]? = some Y[j] := List.getElem?_eq_getElem (by omega)
          refine Ex.br rfl (fun c => absurd c (show (1 : Int32) ≠ 0 by decide)) (fun _ => ?_)
          refine Ex.p rfl ?_
          refine Ex.gf 0 0 rfl rfl rfl ?_
          refine Ex.p rfl ?_
          refine Ex.ial 4 0 j rfl rfl rfl (nI_toInt (by omega)) (by omega) ?_
          rw [hg j (by omega)]
          refine Ex.p rfl ?_
          refine Ex.gf 0 0 rfl rfl rfl ?_
          refine Ex.p rfl ?_
          refine Ex.p rfl ?_
          refine Ex.p rfl ?_
          refine Ex.p rfl ?_
          refine Ex.p rfl ?_
          rw [show (Int16.ofInt 300).toInt32 * nI i = nI (300 * i) from pk_mul 300 i, nI_add]
          refine Ex.ial 5 2 (300 * i + j) rfl rfl rfl (nI_toInt (by omega)) (by omega) ?_
          rw [a6]
          refine Ex.br rfl (fun c2 => ?_) (fun c2 => ?_)
          · have c2 : ¬ Y[j] = nI x.2[j] := c2
            refine Ex.p rfl ?_
            refine Ex.p rfl ?_
            refine Ex.p rfl ?_
            refine Ex.p rfl ?_
            rw [i_add1]
            refine ih (j + 1) false (by omega) (by omega) (fun _ e => ?_) (fun q => by cases q) _ (fun q h => ?_) _ _ hk8 hn8
            · rw [e, haY] at hat
              exact c2 (Option.some.inj hat)
            · simp only [List.mem_cons, List.not_mem_nil, or_false] at h
              rcases h with rfl | rfl | rfl | rfl <;> first | (simp [xs1, xs2, lv_args, Value.category, b32, nI]; done) | (simp [xs1, xs2, lv_args, Value.category, b32, nI]; decide) | (simp [xs1, xs2, lv_args, Value.category, b32, nI]; exact Or.inr (by decide)) | (simp [xs1, xs2, lv_args, Value.category, b32, nI]; exact Or.inl (by decide))
          · have c2 : ¬ ¬ Y[j] = nI x.2[j] := c2
            have c2 := Decidable.not_not.mp c2
            refine Ex.p rfl ?_
            refine Ex.p rfl ?_
            refine Ex.p rfl ?_
            refine Ex.p rfl ?_
            refine Ex.p rfl ?_
            rw [i_add1]
            refine ih (j + 1) true (by omega) (by omega) (fun q => by cases q) (fun _ => ⟨e1, fun e he => ?_⟩) _ (fun q h => ?_) _ _ hk8 hn8
            · rcases Nat.lt_or_ge e j with g | g
              · exact e2 e g
              · rw [show e = j by omega, hat, haY, c2]
            · simp only [List.mem_cons, List.not_mem_nil, or_false] at h
              rcases h with rfl | rfl | rfl | rfl <;> first | (simp [xs1, xs2, lv_args, Value.category, b32, nI]; done) | (simp [xs1, xs2, lv_args, Value.category, b32, nI]; decide) | (simp [xs1, xs2, lv_args, Value.category, b32, nI]; exact Or.inr (by decide)) | (simp [xs1, xs2, lv_args, Value.category, b32, nI]; exact Or.inl (by decide))
  refine Ex.p rfl ?_
  refine Ex.gf 0 0 rfl rfl rfl ?_
  refine Ex.p rfl ?_
  refine Ex.ial 5 1 i rfl rfl rfl (nI_toInt (by omega)) (by omega) ?_
  rw [a2]
  refine Ex.p rfl ?_
  refine Ex.gf 0 0 rfl rfl rfl ?_
  refine Ex.br rfl (fun c => ?_) (fun c => ?_)
  · have c : ¬ nI x.2.length = nI Y.length := c
    rw [nI_eq (by omega) (by omega)] at c
    refine Ex.p rfl ?_
    refine Ex.p rfl ?_
    refine Ex.p rfl ?_
    refine Ex.p rfl ?_
    refine loop (Y.length + 1) 0 false (by omega) (by omega) (fun _ e => c (by rw [← e, List.length_map])) (fun q => by cases q) _ (fun q h => ?_) _ _ (by first | (dsimp only [rm]; omega) | omega) (by first | (dsimp only [rm]; omega) | omega)
    simp only [List.mem_cons, List.not_mem_nil, or_false] at h
    rcases h with rfl | rfl | rfl | rfl <;> first | (simp [xs1, xs2, lv_args, Value.category, b32, nI]; done) | (simp [xs1, xs2, lv_args, Value.category, b32, nI]; decide) | (simp [xs1, xs2, lv_args, Value.category, b32, nI]; exact Or.inr (by decide)) | (simp [xs1, xs2, lv_args, Value.category, b32, nI]; exact Or.inl (by decide))
  · have c : ¬ ¬ nI x.2.length = nI Y.length := c
    have c := Decidable.not_not.mp c
    rw [nI_eq (by omega) (by omega)] at c
    refine Ex.p rfl ?_
    refine Ex.p rfl ?_
    refine Ex.p rfl ?_
    refine Ex.p rfl ?_
    refine Ex.p rfl ?_
    refine loop (Y.length + 1) 0 true (by omega) (by omega) (fun q => by cases q) (fun _ => ⟨c, fun e he => by omega⟩) _ (fun q h => ?_) _ _ (by first | (dsimp only [rm]; omega) | omega) (by first | (dsimp only [rm]; omega) | omega)
    simp only [List.mem_cons, List.not_mem_nil, or_false] at h
    rcases h with rfl | rfl | rfl | rfl <;> first | (simp [xs1, xs2, lv_args, Value.category, b32, nI]; done) | (simp [xs1, xs2, lv_args, Value.category, b32, nI]; decide) | (simp [xs1, xs2, lv_args, Value.category, b32, nI]; exact Or.inr (by decide)) | (simp [xs1, xs2, lv_args, Value.category, b32, nI]; exact Or.inl (by decide))
theorem ct_Mo_agrees {m : Nat} {z : SD} {th : Int32} {S : List va_W} (h : IsMo D m z th S) (htv : ∀ t ∈ z.1, tvOK t) (hok : ∀ h ∈ z.2.1, hOK h) (hnd : (z.2.2.2.2.map Prod.fst).Nodup) (hr : rmOk R 7 0 0) : Ct l mMo_agrees D R [.ref m] S (QM D m (.int 0) (aAgree z)) := by
  obtain ⟨r1, r2, r3, r4⟩ := hr
  obtain ⟨B, mn, la, ap, bg, wr, wa, wn, fo, st, rf, rt, cu, me, hl, LT, LH, CT, CH, CX, CF, CE, gR, gQ, gL, gW, rfl, hT, hH, iT, iH, iX, iF, iE⟩ := h
  have h8 : ∀ x ∈ z.2.2.2.2, x.1 < 8 := by
    obtain ⟨_, _, _, -, -, hs⟩ := id iF
    intro x hx
    obtain ⟨i, hi⟩ := List.mem_iff_getElem?.mp hx
    exact (hs i x hi).2.2.1
  have hl8 : z.2.2.2.2.length ≤ 8 := by
    obtain ⟨_, _, _, -, hs, -⟩ := id iF
    exact hs
  have hag := agree_iff hnd h8
  generalize hP : aAgree z = P
  unfold aAgree at hP
  refine Ct.of rfl (by decide) tkMo_agrees (Nat.le_of_ble_eq_true rfl) (fun A => ?_)
  have loop : ∀ (k i : Nat) (bo : Bool) (mn la : Int32) (gR gQ : Nat → Int32) (gL : Nat → Int64) (gW : Nat → Int32), z.2.2.2.2.length - i < k → i ≤ z.2.2.2.2.length → (bo = true ↔ ∀ j x, j < i → z.2.2.2.2[j]? = some x → x.2.map nI = textD 0 (nI x.1) z.1 z.2.1) → ∀ lv9 : List (Nat × Value), (∀ q ∈ [(2, Value.int (nI i)), (1, .int (b32 bo)), (0, .ref m)], q ∈ lv9) → ∀ k8 n8 : Nat, k8 ≤ 0 → n8 ≤ 0 → Ex l mMo_agrees D R A (xQ D A (QM D m (.int 0) P)) R.cells R.slots 9 lv9 [] [sMo m B 0 mn la (nI z.2.2.1.length) ap bg wr me (nI z.2.2.2.2.length) (nI z.2.2.2.1.length) wa wn fo st hl rf rt cu, CT, CH, cMO D B gR gQ gL, cMW D B gW, CX, CF, CE] k8 n8 := by
    intro k
    induction k with
    | zero => intro i bo mn la gR gQ gL gW h; omega
    | succ k ih =>
      intro i bo mn la gR gQ gL gW hk hi hb lv9 hlv k8 n8 hk8 hn8
      refine Ex.more (k' := 0) (n' := 0) hk8 hn8 ?_
      refine Ex.lv hlv ?_
      refine Ex.p rfl ?_
      refine Ex.p rfl ?_
      refine Ex.gf 0 0 rfl rfl rfl ?_
      refine Ex.br rfl (fun c => ?_) (fun c => ?_)
      · have c : nI z.2.2.2.2.length ≤ nI i := c
        rw [nI_leI (by omega) (by omega)] at c
        refine Ex.p rfl ?_
        refine Ex.zret rfl rfl (b32_01 bo) (Nat.zero_le _) (Nat.zero_le _) rfl ?_
        have e : decide (tld (wrg z) 8 0 0 = -1) = bo := by
          rw [Bool.eq_iff_iff, decide_eq_true_eq, hag, hb]
          constructor
          · intro q j x hj hx
            exact q x (List.mem_of_getElem? hx)
          · intro q x hx
            obtain ⟨j, hj⟩ := List.mem_iff_getElem?.mp hx
            exact q j x (by have := (List.getElem?_eq_some_iff.mp hj).1; omega) hj
        rw [e] at hP
        exact QM.ret hP.symm ⟨B, _, _, ap, bg, wr, wa, wn, fo, st, rf, rt, cu, me, hl, LT, LH, CT, CH, CX, CF, CE, gR, gQ, gL, gW, rfl, hT, hH, iT, iH, iX, iF, iE⟩
      · have c : ¬ nI z.2.2.2.2.length ≤ nI i := c
        rw [nI_leI (by omega) (by omega)] at c
        have hi2 : z.2.2.2.2[i]? = some z.2.2.2.2[i] := List.getElem?_eq_getElem (by omega)
        have step : ∀ {bo : Bool}, (bo = true ↔ ((∀ j x, j < i → z.2.2.2.2[j]? = some x → x.2.map nI = textD 0 (nI x.1) z.1 z.2.1) ∧ z.2.2.2.2[i].2.map nI = textD 0 (nI z.2.2.2.2[i].1) z.1 z.2.1)) → (bo = true ↔ ∀ j x, j < i + 1 → z.2.2.2.2[j]? = some x → x.2.map nI = textD 0 (nI x.1) z.1 z.2.1) := by
          intro bo q
          rw [q]
          constructor
          · rintro ⟨q1, q2⟩ j x hj hx
            rcases Nat.lt_or_ge j i with g | g
            · exact q1 j x g hx
            · rw [show j = i by omega, hi2] at hx
              rw [← Option.some.inj hx]
              exact q2
          · intro q1
            exact ⟨fun j x hj hx => q1 j x (by omega) hx, q1 i _ (by omega) hi2⟩
        refine Ex.p rfl ?_
        cases bo with
        | false =>
          refine Ex.br rfl (fun _ => ?_) (fun c => absurd rfl c)
          refine Ex.p rfl ?_
          refine Ex.p rfl ?_
          refine Ex.p rfl ?_
          refine Ex.p rfl ?_
          rw [i_add1]
          refine ih (i + 1) false mn la gR gQ gL gW (by omega) (by omega) (step ⟨fun q => (by cases q), fun q => hb.mpr q.1⟩) _ (fun q h => ?_) 0 0 (Nat.le_refl _) (Nat.le_refl _)
          simp only [List.mem_cons, List.not_mem_nil, or_false] at h
          rcases h with rfl | rfl | rfl <;> first | (simp [xs1, xs2, lv_args, Value.category, b32, nI]; done) | (simp [xs1, xs2, lv_args, Value.category, b32, nI]; decide) | (simp [xs1, xs2, lv_args, Value.category, b32, nI]; exact Or.inr (by decide)) | (simp [xs1, xs2, lv_args, Value.category, b32, nI]; exact Or.inl (by decide))
        | true =>
          have hb := hb.mp rfl
          refine Ex.br rfl (fun c => absurd c (show (1 : Int32) ≠ 0 by decide)) (fun _ => ?_)
          refine Ex.p rfl ?_
          refine Ex.p rfl ?_
          refine Ex.cv (Mc := mMo_isText) (Rc := rm 6 0 0) (As := [.int (nI i)]) (rest := []) (Sr := [CX, CE]) (ic := 0) (jc := 0) (ci := 10) [0, 1, 2, 3, 4, 6] [5, 7] (ct_Mo_isText iT iH iF (by rw [hT]; exact htv) (by rw [hH]; exact hok) hi2 (rm_ok _ _ _)) rfl lk_10_278 lcMo_isText rfl rfl rfl rfl rfl (by decide) rfl rfl rfl (by decide) ⟨by dsimp only [rm]; omega, by show 8 + (4 + 11) + 240 ≤ R.locals; omega⟩ (Nat.le_of_ble_eq_true rfl) (by first | (dsimp only [rm]; omega) | omega) (by first | (dsimp only [rm]; omega) | omega) ?_
          rintro v S1 ⟨rfl, mn', la', gR', gQ', gL', gW', rfl⟩
          rw [hT, hH]
          refine Ex.sub (S' := [sMo m B 0 mn' la' (nI z.2.2.1.length) ap bg wr me (nI z.2.2.2.2.length) (nI z.2.2.2.1.length) wa wn fo st hl rf rt cu, CT, CH, cMO D B gR' gQ' gL', cMW D B gW', CX, CF, CE]) [2, 3, 4, 5, 6, 0, 7, 1] rfl rfl ?_
          by_cases g : z.2.2.2.2[i].2.map nI = textD 0 (nI z.2.2.2.2[i].1) z.1 z.2.1
          · rw [decide_eq_true g]
            refine Ex.br rfl (fun c => absurd c (show (1 : Int32) ≠ 0 by decide)) (fun _ => ?_)
            refine Ex.p rfl ?_
            refine Ex.p rfl ?_
            refine Ex.p rfl ?_
            refine Ex.p rfl ?_
            refine Ex.p rfl ?_
            rw [i_add1]
            refine ih (i + 1) true mn' la' gR' gQ' gL' gW' (by omega) (by omega) (step ⟨fun q => ⟨hb, g⟩, fun q => rfl⟩) _ (fun q h => ?_) _ _ (by first | (dsimp only [rm]; omega) | omega) (by first | (dsimp only [rm]; omega) | omega)
            simp only [List.mem_cons, List.not_mem_nil, or_false] at h
            rcases h with rfl | rfl | rfl <;> first | (simp [xs1, xs2, lv_args, Value.category, b32, nI]; done) | (simp [xs1, xs2, lv_args, Value.category, b32, nI]; decide) | (simp [xs1, xs2, lv_args, Value.category, b32, nI]; exact Or.inr (by decide)) | (simp [xs1, xs2, lv_args, Value.category, b32, nI]; exact Or.inl (by decide))
          · rw [decide_eq_false g]
            refine Ex.br rfl (fun _ => ?_) (fun c => absurd rfl c)
            refine Ex.p rfl ?_
            refine Ex.p rfl ?_
            refine Ex.p rfl ?_
            refine Ex.p rfl ?_
            rw [i_add1]
            refine ih (i + 1) false mn' la' gR' gQ' gL' gW' (by omega) (by omega) (step ⟨fun q => (by cases q), fun q => absurd q.2 g⟩) _ (fun q h => ?_) _ _ (by first | (dsimp only [rm]; omega) | omega) (by first | (dsimp only [rm]; omega) | omega)
            simp only [List.mem_cons, List.not_mem_nil, or_false] at h
            rcases h with rfl | rfl | rfl <;> first | (simp [xs1, xs2, lv_args, Value.category, b32, nI]; done) | (simp [xs1, xs2, lv_args, Value.category, b32, nI]; decide) | (simp [xs1, xs2, lv_args, Value.category, b32, nI]; exact Or.inr (by decide)) | (simp [xs1, xs2, lv_args, Value.category, b32, nI]; exact Or.inl (by decide))
  refine Ex.p rfl ?_
  refine Ex.p rfl ?_
  refine Ex.pf 0 0 rfl rfl rfl rfl rfl rfl ?_
  refine Ex.p rfl ?_
  refine Ex.p rfl ?_
  refine Ex.p rfl ?_
  refine Ex.p rfl ?_
  refine loop (z.2.2.2.2.length + 1) 0 true mn la gR gQ gL gW (by omega) (by omega) ⟨fun _ j x hj => by omega, fun _ => rfl⟩ _ (fun q h => ?_) 0 0 (Nat.le_refl _) (Nat.le_refl _)
  simp only [List.mem_cons, List.not_mem_nil, or_false] at h
  rcases h with rfl | rfl | rfl <;> first | (simp [xs1, xs2, lv_args, Value.category, b32, nI]; done) | (simp [xs1, xs2, lv_args, Value.category, b32, nI]; decide) | (simp [xs1, xs2, lv_args, Value.category, b32, nI]; exact Or.inr (by decide)) | (simp [xs1, xs2, lv_args, Value.category, b32, nI]; exact Or.inl (by decide))
theorem ct_Mo_told {m : Nat} {z : SD} {k9 th : Int32} {S : List va_W} (h : IsMo D m z th S) (htv : ∀ t ∈ z.1, tvOK t) (hok : ∀ h ∈ z.2.1, hOK h) (hr : rmOk R 7 0 0) : Ct l mMo_told D R [.ref m, .int k9] S (QM D m (.int 0) (aTold z k9)) := by
  obtain ⟨r1, r2, r3, r4⟩ := hr
  obtain ⟨B, mn, la, ap, bg, wr, wa, wn, fo, st, rf, rt, cu, me, hl, LT, LH, CT, CH, CX, CF, CE, gR, gQ, gL, gW, rfl, hT, hH, iT, iH, iX, iF, iE⟩ := h
  have hl8 : z.2.2.2.2.length ≤ 8 := by
    obtain ⟨_, _, _, -, hs, -⟩ := id iF
    exact hs
  generalize hP : aTold z k9 = P
  unfold aTold at hP
  refine Ct.of rfl (by decide) tkMo_told (Nat.le_of_ble_eq_true rfl) (fun A => ?_)
  by_cases hk0 : 0 ≤ k9.toInt
  · rw [if_pos hk0] at hP
    have ek := nI_nat hk0
    have hk31 := Int32.toInt_lt k9
    generalize hkn : k9.toInt.toNat = kn at hP ek
    have hkn31 : kn < 2 ^ 31 := by omega
    subst ek
    have loop : ∀ (k i lf : Nat) (mn la : Int32) (gR gQ : Nat → Int32) (gL : Nat → Int64) (gW : Nat → Int32), 8 - i < k → i ≤ 8 → lf < 2 ^ 31 → ((.inr (.int (tld (wrg z) (8 - i) i lf)), z) : AR) = P → ∀ lv9 : List (Nat × Value), (∀ q ∈ [(3, Value.int (nI i)), (2, .int (nI lf)), (1, .int (nI kn)), (0, .ref m)], q ∈ lv9) → ∀ k8 n8 : Nat, k8 ≤ 0 → n8 ≤ 0 → Ex l mMo_told D R A (xQ D A (QM D m (.int 0) P)) R.cells R.slots 9 lv9 [] [sMo m B 0 mn la (nI z.2.2.1.length) ap bg wr me (nI z.2.2.2.2.length) (nI z.2.2.2.1.length) wa wn fo st hl rf rt cu, CT, CH, cMO D B gR gQ gL, cMW D B gW, CX, CF, CE] k8 n8 := by
      intro k
      induction k with
      | zero => intro i lf mn la gR gQ gL gW h; omega
      | succ k ih =>
        intro i lf mn la gR gQ gL gW hk hi hlf hPt lv9 hlv k8 n8 hk8 hn8
        refine Ex.more (k' := 0) (n' := 0) hk8 hn8 ?_
        refine Ex.lv hlv ?_
        refine Ex.p rfl ?_
        refine Ex.p rfl ?_
        refine Ex.br rfl (fun c => ?_) (fun c => ?_)
        · have c : nI 8 ≤ nI i := c
          rw [nI_leI (by omega) (by omega)] at c
          rw [show 8 - i = 0 by omega] at hPt
          refine Ex.p rfl ?_
          refine Ex.iret rfl rfl (Nat.zero_le _) (Nat.zero_le _) rfl ?_
          exact QM.ret hPt.symm ⟨B, _, _, ap, bg, wr, wa, wn, fo, st, rf, rt, cu, me, hl, LT, LH, CT, CH, CX, CF, CE, gR, gQ, gL, gW, rfl, hT, hH, iT, iH, iX, iF, iE⟩
        · have c : ¬ nI 8 ≤ nI i := c
          rw [nI_leI (by omega) (by omega)] at c
          rw [show 8 - i = (8 - (i + 1)) + 1 by omega] at hPt
          unfold tld at hPt
          refine Ex.p rfl ?_
          refine Ex.br rfl (fun c2 => ?_) (fun _ => ?_)
          · have c2 : nI kn < 0 := c2
            rw [Int32.lt_iff_toInt_lt, nI_toInt hkn31] at c2
            have c2 : (kn : Int) < 0 := c2
            omega
          refine Ex.p rfl ?_
          refine Ex.p rfl ?_
          refine Ex.cv (Mc := mMo_fileWith) (Rc := rm 0 0 0) (As := [.int (nI i)]) (rest := []) (Sr := [CT, CH, cMO D B gR gQ gL, cMW D B gW, CX, CE]) (ic := 0) (jc := 0) (ci := 10) [0, 6] [1, 2, 3, 4, 5, 7] (ct_Mo_fileWith iF (by omega)) rfl lk_10_248 lcMo_fileWith rfl rfl rfl rfl rfl (by decide) rfl rfl rfl (by decide) ⟨by dsimp only [rm]; omega, by show 8 + (3 + 11) + 0 ≤ R.locals; omega⟩ (Nat.le_of_ble_eq_true rfl) (by first | (dsimp only [rm]; omega) | omega) (by first | (dsimp only [rm]; omega) | omega) ?_
          rintro v S1 ⟨rfl, h9⟩
          refine Ex.sub (S' := [sMo m B 0 mn la (nI z.2.2.1.length) ap bg wr me (nI z.2.2.2.2.length) (nI z.2.2.2.1.length) wa wn fo st hl rf rt cu, CT, CH, cMO D B gR gQ gL, cMW D B gW, CX, CF, CE]) [6, 0, 1, 2, 3, 4, 7, 5] rfl rfl ?_
          rcases h9 with ⟨rfl, hno⟩ | ⟨fi9, x, hfi, hx, rfl, hfirst⟩
          · have ew : wrg z i = false := by
              unfold wrg
              rw [List.find?_eq_none.mpr (fun x hx9 => by simpa using hno x hx9)]
            rw [ew] at hPt
            refine Ex.p rfl ?_
            refine Ex.p rfl ?_
            refine Ex.p rfl ?_
            refine Ex.br rfl (fun _ => ?_) (fun c => absurd rfl c)
            refine Ex.p rfl ?_
            refine Ex.p rfl ?_
            rw [i_add1]
            refine ih (i + 1) lf mn la gR gQ gL gW (by omega) (by omega) hlf (by simpa using hPt) _ (fun q h => ?_) _ _ (by first | (dsimp only [rm]; omega) | omega) (by first | (dsimp only [rm]; omega) | omega)
            simp only [List.mem_cons, List.not_mem_nil, or_false] at h
            rcases h with rfl | rfl | rfl | rfl <;> first | (simp [xs1, xs2, lv_args, Value.category, b32, nI]; done) | (simp [xs1, xs2, lv_args, Value.category, b32, nI]; decide) | (simp [xs1, xs2, lv_args, Value.category, b32, nI]; exact Or.inr (by decide)) | (simp [xs1, xs2, lv_args, Value.category, b32, nI]; exact Or.inl (by decide))
          · have hf9 := find_first hfi hx hfirst
            have hfl := (List.getElem?_eq_some_iff.mp hfi).1
            have ew : wrg z i = !decide (x.2.map nI = textD 0 (nI i) z.1 z.2.1) := by
              unfold wrg
              rw [hf9]
            refine Ex.p rfl ?_
            refine Ex.p rfl ?_
            refine Ex.p rfl ?_
            refine Ex.br rfl (fun c => ?_) (fun _ => ?_)
            · have c : nI fi9 = -1 := c
              have := nI_toInt (n := fi9) (by omega)
              rw [c] at this
              have e9 : (-1 : Int32).toInt = -1 := by decide
              omega
            refine Ex.p rfl ?_
            refine Ex.p rfl ?_
            refine Ex.cv (Mc := mMo_isText) (Rc := rm 6 0 0) (As := [.int (nI fi9)]) (rest := []) (Sr := [CX, CE]) (ic := 0) (jc := 0) (ci := 10) [0, 1, 2, 3, 4, 6] [5, 7] (ct_Mo_isText iT iH iF (by rw [hT]; exact htv) (by rw [hH]; exact hok) hfi (rm_ok _ _ _)) rfl lk_10_278 lcMo_isText rfl rfl rfl rfl rfl (by decide) rfl rfl rfl (by decide) ⟨by dsimp only [rm]; omega, by show 8 + (4 + 11) + 240 ≤ R.locals; omega⟩ (Nat.le_of_ble_eq_true rfl) (by first | (dsimp only [rm]; omega) | omega) (by first | (dsimp only [rm]; omega) | omega) ?_
            rintro v S1 ⟨rfl, mn', la', gR', gQ', gL', gW', rfl⟩
            rw [hT, hH, hx]
            refine Ex.sub (S' := [sMo m B 0 mn' la' (nI z.2.2.1.length) ap bg wr me (nI z.2.2.2.2.length) (nI z.2.2.2.1.length) wa wn fo st hl rf rt cu, CT, CH, cMO D B gR' gQ' gL', cMW D B gW', CX, CF, CE]) [2, 3, 4, 5, 6, 0, 7, 1] rfl rfl ?_
            by_cases g : x.2.map nI = textD 0 (nI i) z.1 z.2.1
            · rw [decide_eq_true g] at ew ⊢
              rw [ew] at hPt
              refine Ex.br rfl (fun c => absurd c (show (1 : Int32) ≠ 0 by decide)) (fun _ => ?_)
              refine Ex.p rfl ?_
              refine Ex.p rfl ?_
              refine Ex.p rfl ?_
              rw [i_add1]
              refine ih (i + 1) lf mn' la' gR' gQ' gL' gW' (by omega) (by omega) hlf (by simpa using hPt) _ (fun q h => ?_) _ _ (by first | (dsimp only [rm]; omega) | omega) (by first | (dsimp only [rm]; omega) | omega)
              simp only [List.mem_cons, List.not_mem_nil, or_false] at h
              rcases h with rfl | rfl | rfl | rfl <;> first | (simp [xs1, xs2, lv_args, Value.category, b32, nI]; done) | (simp [xs1, xs2, lv_args, Value.category, b32, nI]; decide) | (simp [xs1, xs2, lv_args, Value.category, b32, nI]; exact Or.inr (by decide)) | (simp [xs1, xs2, lv_args, Value.category, b32, nI]; exact Or.inl (by decide))
            · rw [decide_eq_false g] at ew ⊢
              rw [ew, if_pos (by rfl)] at hPt
              refine Ex.br rfl (fun _ => ?_) (fun c => absurd rfl c)
              refine Ex.p rfl ?_
              refine Ex.br rfl (fun c3 => ?_) (fun c3 => ?_)
              · have c3 : ¬ nI lf = nI 0 := c3
                rw [nI_eq (by omega) (by omega)] at c3
                rw [if_neg c3] at hPt
                obtain ⟨lf', rfl⟩ : ∃ q, lf = q + 1 := ⟨lf - 1, by omega⟩
                refine Ex.p rfl ?_
                refine Ex.p rfl ?_
                refine Ex.p rfl ?_
                rw [i_add1, i_addm1]
                refine ih (i + 1) lf' mn' la' gR' gQ' gL' gW' (by omega) (by omega) (by omega) hPt _ (fun q h => ?_) _ _ (by first | (dsimp only [rm]; omega) | omega) (by first | (dsimp only [rm]; omega) | omega)
                simp only [List.mem_cons, List.not_mem_nil, or_false] at h
                rcases h with rfl | rfl | rfl | rfl <;> first | (simp [xs1, xs2, lv_args, Value.category, b32, nI]; done) | (simp [xs1, xs2, lv_args, Value.category, b32, nI]; decide) | (simp [xs1, xs2, lv_args, Value.category, b32, nI]; exact Or.inr (by decide)) | (simp [xs1, xs2, lv_args, Value.category, b32, nI]; exact Or.inl (by decide))
              · have c3 : ¬ ¬ nI lf = nI 0 := c3
                have c3 := Decidable.not_not.mp c3
                rw [nI_eq (by omega) (by omega)] at c3
                rw [if_pos c3] at hPt
                refine Ex.p rfl ?_
                refine Ex.iret rfl rfl (by first | (dsimp only [rm]; omega) | omega) (by first | (dsimp only [rm]; omega) | omega) rfl ?_
                exact QM.ret hPt.symm ⟨B, _, _, ap, bg, wr, wa, wn, fo, st, rf, rt, cu, me, hl, LT, LH, CT, CH, CX, CF, CE, gR', gQ', gL', gW', rfl, hT, hH, iT, iH, iX, iF, iE⟩
    refine Ex.p rfl ?_
    refine Ex.p rfl ?_
    refine Ex.pf 0 0 rfl rfl rfl rfl rfl rfl ?_
    refine Ex.p rfl ?_
    refine Ex.p rfl ?_
    refine Ex.p rfl ?_
    refine Ex.p rfl ?_
    refine loop 9 0 kn mn la gR gQ gL gW (by omega) (by omega) hkn31 hP _ (fun q h => ?_) 0 0 (Nat.le_refl _) (Nat.le_refl _)
    simp only [List.mem_cons, List.not_mem_nil, or_false] at h
    rcases h with rfl | rfl | rfl | rfl <;> first | (simp [xs1, xs2, lv_args, Value.category, b32, nI]; done) | (simp [xs1, xs2, lv_args, Value.category, b32, nI]; decide) | (simp [xs1, xs2, lv_args, Value.category, b32, nI]; exact Or.inr (by decide)) | (simp [xs1, xs2, lv_args, Value.category, b32, nI]; exact Or.inl (by decide))
  · rw [if_neg hk0] at hP
    refine Ex.p rfl ?_
    refine Ex.p rfl ?_
    refine Ex.pf 0 0 rfl rfl rfl rfl rfl rfl ?_
    refine Ex.p rfl ?_
    refine Ex.p rfl ?_
    refine Ex.p rfl ?_
    refine Ex.p rfl ?_
    refine Ex.p rfl ?_
    refine Ex.p rfl ?_
    refine Ex.br rfl (fun c => absurd c (show ¬ (8 : Int32) ≤ 0 by decide)) (fun _ => ?_)
    refine Ex.p rfl ?_
    refine Ex.br rfl (fun _ => ?_) (fun c => ?_)
    · refine Ex.p rfl ?_
      refine Ex.iret rfl rfl (Nat.zero_le _) (Nat.zero_le _) rfl ?_
      exact QM.ret hP.symm ⟨B, _, _, ap, bg, wr, wa, wn, fo, st, rf, rt, cu, me, hl, LT, LH, CT, CH, CX, CF, CE, gR, gQ, gL, gW, rfl, hT, hH, iT, iH, iX, iF, iE⟩
    · have c : ¬ k9 < 0 := c
      rw [Int32.lt_iff_toInt_lt] at c
      have c : ¬ k9.toInt < 0 := c
      omega
end MOG

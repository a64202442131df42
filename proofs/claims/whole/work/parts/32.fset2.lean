/-! FileSet: add, pair, joined -/
section FS2
variable {l : Launch} {D : xD} {R : Room}
theorem ct_Fs_add {f ro : Nat} {fs : List FV} {Cf F : va_W} (h : IsFs D f fs Cf F) (hro : ro < 256) (hr : rmOk R 3 3 14) : Ct l mFs_add D R [.ref f, .int (nI ro)] [Cf, F] (fun v S => ((8 ≤ ro ∨ fwith fs ro ≠ none ∨ 8 ≤ fs.length) ∧ v = some (.int (-1)) ∧ S = [Cf, F]) ∨ (ro < 8 ∧ fwith fs ro = none ∧ fs.length < 8 ∧ v = some (.int (nI fs.length)) ∧ ∃ q Cf' F', S = [Cf', F'] ∧ IsFs D f (fs ++ [(q, ro, [], 8)]) Cf' F')) := by
  have h9 := h
  obtain ⟨fa, ff, rfl, hF, h1, h3⟩ := h
  obtain ⟨r1, r2, r3, r4⟩ := hr
  have hti : (nI ro).toInt = ro := nI_toInt (by omega)
  refine Ct.of rfl (by decide) tkFs_add (Nat.le_of_ble_eq_true rfl) (fun A => ?_)
  refine Ex.p rfl ?_
  refine Ex.cs0N (Mc := mDa_isRole) (Rc := rm 0 0 0) (As := [.int (nI ro)]) (rest := []) ct_isRole rfl ln_2_17 lcDa_isRole rfl ⟨by dsimp only [rm]; omega, by show 8 + (1 + 11) + 0 ≤ R.locals; omega⟩ (Nat.zero_le _) (Nat.zero_le _) (Nat.zero_le _) ?_
  rintro v S1 ⟨rfl, rfl⟩
  rw [hti]
  by_cases h8 : ro < 8
  · rw [decide_eq_true (by omega)]
    refine Ex.br rfl (fun c => absurd c (by decide)) (fun _ => ?_)
    refine Ex.p rfl ?_
    refine Ex.p rfl ?_
    refine Ex.cv (Mc := mFs_withRole) (Rc := rm 1 0 0) (As := [.int (nI ro)]) (rest := []) (Sr := []) (ic := 0) (jc := 0) (ci := 2) [0, 1] [] (ct_Fs_withRole h9 h8 (rm_ok _ _ _)) rfl lk_2_21 lcFs_withRole rfl rfl rfl rfl rfl (by decide) rfl rfl rfl (by decide) ⟨by dsimp only [rm]; omega, by show 8 + (4 + 11) + 40 ≤ R.locals; omega⟩ (Nat.zero_le _) (Nat.zero_le _) (Nat.zero_le _) ?_
    rintro v S1 ⟨rfl, rfl⟩
    cases hw : fwith fs ro with
    | some x =>
      refine Ex.nnR (t := 24) rfl rfl ?_
      refine Ex.p rfl ?_
      exact Ex.iret rfl rfl (Nat.zero_le _) (Nat.zero_le _) rfl (Or.inl ⟨Or.inr (Or.inl (by simp)), rfl, rfl⟩)
    | none =>
      refine Ex.nnN rfl ?_
      repeat (first | refine Ex.p rfl ?_ | refine Ex.ldc rfl ?_ | refine Ex.ldc2 rfl ?_ | refine Ex.gf 0 0 rfl rfl rfl ?_)
      refine Ex.br rfl (fun c1 => ?_) (fun c1 => ?_)
      · have c1 : nI fs.length < nI 8 := c1
        rw [nI_ltI (by omega) (by omega)] at c1
        repeat (first | refine Ex.p rfl ?_ | refine Ex.ldc rfl ?_ | refine Ex.ldc2 rfl ?_ | refine Ex.gf 0 0 rfl rfl rfl ?_)
        refine Ex.new (ci := 6) (N := 3) rfl rfl (by dsimp only [rm]; omega) (by dsimp only [rm]; omega) (fun q => ?_)
        refine Ex.p rfl ?_
        refine Ex.p rfl ?_
        refine Ex.ci (Mc := mSf_init) (Rc := rm 2 2 11) (As := [.int (nI ro)]) (rest := [.ref q, .int (nI fs.length), .ref fa]) (Sr := [[(f, .inr (2, [.ref fa, .int (nI fs.length)])), (fa, .inl (D.2.2.1 5, 8, .inr (.inr (.inr (.inr ff)))))], F]) [2] [0, 1] (ct_Sf_init h8 (rm_ok _ _ _)) rfl lk_2_29 lcSf_init rfl rfl rfl rfl rfl (by decide) ⟨r1, by show 8 + (2 + 11) + 80 ≤ R.locals; omega⟩ (Nat.le_of_ble_eq_true rfl) (by dsimp only [rm]; omega) (by dsimp only [rm]; omega) ?_
        rintro v S1 ⟨rfl, C, rfl, hC⟩
        obtain ⟨rb, Cb, eC, -⟩ := id hC
        refine Ex.aas 0 1 fs.length 5 2 0 6 rfl rfl rfl rfl rfl (by rw [eC]; rfl) rfl (nI_toInt (by omega)) c1 ?_
        repeat (first | refine Ex.p rfl ?_ | refine Ex.ldc rfl ?_ | refine Ex.ldc2 rfl ?_ | refine Ex.gf 0 0 rfl rfl rfl ?_)
        rw [i_add1]
        refine Ex.pf 0 0 rfl rfl rfl rfl rfl rfl ?_
        repeat (first | refine Ex.p rfl ?_ | refine Ex.ldc rfl ?_ | refine Ex.ldc2 rfl ?_ | refine Ex.gf 0 0 rfl rfl rfl ?_)
        rw [i_sub1]
        refine Ex.iret (S' := [[(f, .inr (2, [.ref fa, .int (nI (fs.length + 1))])), (fa, .inl (D.2.2.1 5, 8, .inr (.inr (.inr (.inr (va_up ff fs.length (some q)))))))], F ++ C]) rfl rfl (by dsimp only [rm]; omega) (by dsimp only [rm]; omega) (by simp) (Or.inr ⟨h8, rfl, c1, rfl, q, _, _, rfl, fa, va_up ff fs.length (some q), by simp, hF.push hC, ?_, by simp; omega⟩)
        intro i t hi
        rcases Nat.lt_or_ge i fs.length with g | g
        · rw [List.getElem?_append_left g] at hi
          rw [va_up_ne _ _ (by omega)]
          exact h1 i t hi
        · rw [List.getElem?_append_right g] at hi
          cases hk : i - fs.length with
          | zero =>
            rw [hk] at hi
            cases hi
            rw [show i = fs.length by omega, va_up_self]
          | succ k =>
            rw [hk] at hi
            cases hi
      · have c1 : ¬ nI fs.length < nI 8 := c1
        rw [nI_ltI (by omega) (by omega)] at c1
        refine Ex.p rfl ?_
        exact Ex.iret rfl rfl (Nat.zero_le _) (Nat.zero_le _) rfl (Or.inl ⟨Or.inr (Or.inr (by omega)), rfl, rfl⟩)
  · rw [decide_eq_false (by omega)]
    refine Ex.br rfl (fun _ => ?_) (fun c => absurd rfl c)
    refine Ex.p rfl ?_
    exact Ex.iret rfl rfl (Nat.zero_le _) (Nat.zero_le _) rfl (Or.inl ⟨Or.inl (by omega), rfl, rfl⟩)
theorem ct_Fs_pair {r L cap p : Nat} {bs : List Nat} {C : va_W} (h : IsRow D r L cap (bs.map nI) C) (hb : ∀ b ∈ bs, b < 256) (hp : p + 1 < bs.length) (hr : rmOk R 1 0 0) : Ct l mFs_pair D R [.ref r, .int (nI p)] [C] (fun v S => v = some (.int (nI (bs.getD p 0 + 256 * bs.getD (p + 1) 0))) ∧ S = [C]) := by
  obtain ⟨r1, r2, r3, r4⟩ := hr
  obtain ⟨arr, f, rfl, w1, w2, w3, w4, w5, w6⟩ := id h
  have hlen : (bs.map nI).length = bs.length := by simp
  refine Ct.of rfl (by decide) tkFs_pair (Nat.le_of_ble_eq_true rfl) (fun A => ?_)
  refine Ex.p rfl ?_
  refine Ex.p rfl ?_
  refine Ex.cv (Mc := mRo_get) (Rc := rm 0 0 0) (As := [.int (nI p)]) (rest := []) (Sr := []) (ic := 0) (jc := 0) (ci := 5) [0] [] (ct_Ro_get h) rfl lk_2_46 lcRo_get rfl rfl rfl rfl rfl (by decide) rfl rfl rfl (by decide) ⟨r1, by show 8 + (2 + 11) + 0 ≤ R.locals; omega⟩ (Nat.zero_le _) (Nat.zero_le _) (Nat.zero_le _) ?_
  rintro v S1 ⟨rfl, rfl⟩
  refine Ex.p rfl ?_
  refine Ex.p rfl ?_
  refine Ex.p rfl ?_
  refine Ex.p rfl ?_
  refine Ex.p rfl ?_
  rw [i_add1]
  refine Ex.cv (Mc := mRo_get) (Rc := rm 0 0 0) (As := [.int (nI (p + 1))]) (rest := [.int (Int16.ofInt 256).toInt32, .int (rget (bs.map nI) (nI p))]) (Sr := []) (ic := 0) (jc := 0) (ci := 5) [0] [] (ct_Ro_get h) rfl lk_2_46 lcRo_get rfl rfl rfl rfl rfl (by decide) rfl rfl rfl (by decide) ⟨r1, by show 8 + (2 + 11) + 0 ≤ R.locals; omega⟩ (Nat.le_of_ble_eq_true rfl) (Nat.zero_le _) (Nat.zero_le _) ?_
  rintro v S1 ⟨rfl, rfl⟩
  rw [rget_nI (by omega) (by omega), rget_nI (by omega) (by omega)]
  refine Ex.p rfl ?_
  refine Ex.p rfl ?_
  rw [show (Int16.ofInt 256).toInt32 = nI 256 from rfl, pk_mul, nI_add]
  exact Ex.iret rfl rfl (Nat.zero_le _) (Nat.zero_le _) rfl ⟨rfl, rfl⟩
/-- the byte at a place, -1 behind the last -/
def bat (bs : List Nat) (j : Nat) : Int32 := match bs[j]? with
  | some b => nI b
  | none => -1
/-- all files' parts -/
def fall (fs : List FV) : List Nat := fs.flatMap (fun x => fbytes x.2.1 x.2.2.1)
theorem fbytes_len (role : Nat) (bs : List Nat) : (fbytes role bs).length = bs.length + 5 := by simp [fbytes]
theorem ct_Fs_joined {f j : Nat} {fs : List FV} {Cf F : va_W} (h : IsFs D f fs Cf F) (hj : j < 2 ^ 31) (hr : rmOk R 2 0 0) : Ct l mFs_joined D R [.ref f, .int (nI j)] [Cf, F] (fun v S => v = some (.int (bat (fs.length :: fall fs) j)) ∧ S = [Cf, F]) := by
  have h9 := h
  obtain ⟨fa, ff, rfl, hF, h1, h3⟩ := h
  obtain ⟨r1, r2, r3, r4⟩ := hr
  refine Ct.of rfl (by decide) tkFs_joined (Nat.le_of_ble_eq_true rfl) (fun A => ?_)
  refine Ex.p rfl ?_
  refine Ex.br rfl (fun c0 => ?_) (fun c0 => ?_)
  · have hj0 : 0 < j := by
      rcases Nat.eq_zero_or_pos j with q | q
      · subst q; exact absurd rfl c0
      · exact q
    have loop : ∀ (m i : Nat), fs.length - i < m → i ≤ fs.length → ∀ (lf : Nat), lf < 2 ^ 31 → bat (fs.length :: fall fs) j = bat (fall (fs.drop i)) lf → Ex l mFs_joined D R A (xQ D A (fun v S => v = some (.int (bat (fs.length :: fall fs) j)) ∧ S = [[(f, .inr (2, [.ref fa, .int (nI fs.length)])), (fa, .inl (D.2.2.1 5, 8, .inr (.inr (.inr (.inr ff)))))], F])) R.cells R.slots 15 [(3, .int (nI i)), (2, .int (nI lf)), (0, .ref f), (1, .int (nI j))] [] [[(f, .inr (2, [.ref fa, .int (nI fs.length)])), (fa, .inl (D.2.2.1 5, 8, .inr (.inr (.inr (.inr ff)))))], F] 0 0 := by
      intro m
      induction m with
      | zero => intro i h; omega
      | succ m ih =>
        intro i hm hi lf hlf hw
        repeat (first | refine Ex.p rfl ?_ | refine Ex.ldc rfl ?_ | refine Ex.ldc2 rfl ?_ | refine Ex.gf 0 0 rfl rfl rfl ?_)
        refine Ex.br rfl (fun c1 => ?_) (fun c1 => ?_)
        · rw [nI_leI (by omega) (by omega)] at c1
          refine Ex.p rfl ?_
          refine Ex.iret rfl rfl (Nat.zero_le _) (Nat.zero_le _) rfl ⟨?_, rfl⟩
          rw [hw, List.drop_eq_nil_of_le (by omega)]
          rfl
        · rw [nI_leI (by omega) (by omega)] at c1
          have hlt : i < fs.length := by omega
          refine Ex.p rfl ?_
          refine Ex.p rfl ?_
          refine Ex.cv (Mc := mFs_fileAt) (Rc := rm 0 0 0) (As := [.int (nI i)]) (rest := []) (Sr := [F]) (ic := 0) (jc := 0) (ci := 2) [0] [1] (ct_Fs_fileAt h9) rfl lk_2_32 lcFs_fileAt rfl rfl rfl rfl rfl (by decide) rfl rfl rfl (by decide) ⟨by dsimp only [rm]; omega, by show 8 + (2 + 11) + 0 ≤ R.locals; omega⟩ (Nat.zero_le _) (Nat.zero_le _) (Nat.zero_le _) ?_
          rintro v S1 ⟨rfl, rfl⟩
          rw [ixo, nI_toInt (by omega), if_pos (by omega), Int.toNat_natCast, List.getElem?_eq_getElem hlt]
          refine Ex.p rfl ?_
          refine Ex.p rfl ?_
          refine Ex.nuR rfl ?_
          refine Ex.p rfl ?_
          refine Ex.p rfl ?_
          obtain ⟨X, C, Y, rfl, hC, -⟩ := hF.at (List.getElem?_eq_getElem hlt)
          obtain ⟨rb, Cb, eC, hrow, hro2, hbs⟩ := id hC
          obtain ⟨_, _, _, w1, w2, -⟩ := id hrow
          have hbl : fs[i].2.2.1.length ≤ 300 := by simpa using w2
          refine Ex.seg (S' := [X, C, Y, [(f, .inr (2, [.ref fa, .int (nI fs.length)])), (fa, .inl (D.2.2.1 5, 8, .inr (.inr (.inr (.inr ff)))))]]) (by simp) ?_
          refine Ex.cv (Mc := mSf_joinedSize) (Rc := rm 0 0 0) (As := []) (rest := [.int (nI lf)]) (Sr := [X, Y, [(f, .inr (2, [.ref fa, .int (nI fs.length)])), (fa, .inl (D.2.2.1 5, 8, .inr (.inr (.inr (.inr ff)))))]]) (ic := 1) (jc := 0) (ci := 6) [1] [0, 2, 3] (ct_Sf_joinedSize hC) rfl lk_2_38 lcSf_joinedSize rfl rfl rfl rfl rfl (by decide) rfl (by rw [eC]; rfl) rfl (by decide) ⟨by dsimp only [rm]; omega, by show 8 + (1 + 11) + 0 ≤ R.locals; omega⟩ (Nat.le_of_ble_eq_true rfl) (Nat.zero_le _) (Nat.zero_le _) ?_
          rintro v S1 ⟨rfl, rfl⟩
          have hd : fall (fs.drop i) = fbytes fs[i].2.1 fs[i].2.2.1 ++ fall (fs.drop (i + 1)) := by rw [List.drop_eq_getElem_cons hlt, fall, List.flatMap_cons]; rfl
          have hfl := fbytes_len fs[i].2.1 fs[i].2.2.1
          refine Ex.br rfl (fun c2 => ?_) (fun c2 => ?_)
          · rw [nI_leI (by omega) (by omega)] at c2
            refine Ex.p rfl ?_
            refine Ex.p rfl ?_
            refine Ex.cv (Mc := mSf_joinedSize) (Rc := rm 0 0 0) (As := []) (rest := [.int (nI lf)]) (Sr := [X, Y, [(f, .inr (2, [.ref fa, .int (nI fs.length)])), (fa, .inl (D.2.2.1 5, 8, .inr (.inr (.inr (.inr ff)))))]]) (ic := 3) (jc := 0) (ci := 6) [3] [0, 1, 2] (ct_Sf_joinedSize hC) rfl lk_2_38 lcSf_joinedSize rfl rfl rfl rfl rfl (by decide) rfl (by rw [eC]; rfl) rfl (by decide) ⟨by dsimp only [rm]; omega, by show 8 + (1 + 11) + 0 ≤ R.locals; omega⟩ (Nat.le_of_ble_eq_true rfl) (Nat.zero_le _) (Nat.zero_le _) ?_
            rintro v S1 ⟨rfl, rfl⟩
            refine Ex.p rfl ?_
            refine Ex.p rfl ?_
            refine Ex.p rfl ?_
            refine Ex.p rfl ?_
            rw [pk_sub (by omega), i_add1]
            refine Ex.sub (S' := [[(f, .inr (2, [.ref fa, .int (nI fs.length)])), (fa, .inl (D.2.2.1 5, 8, .inr (.inr (.inr (.inr ff)))))], X, C, Y]) [2, 0, 3, 1] rfl rfl ?_
            refine Ex.is [0, 1, 3, 4] rfl (S' := [[(f, .inr (2, [.ref fa, .int (nI fs.length)])), (fa, .inl (D.2.2.1 5, 8, .inr (.inr (.inr (.inr ff)))))], X ++ (C ++ Y)]) (by simp) ?_
            refine ih (i + 1) (by omega) (by omega) _ (by omega) ?_
            rw [hw, hd, bat, bat, List.getElem?_append_right (by omega), hfl]
          · rw [nI_leI (by omega) (by omega)] at c2
            refine Ex.p rfl ?_
            refine Ex.p rfl ?_
            refine Ex.cv (Mc := mSf_joined) (Rc := rm 1 0 0) (As := [.int (nI lf)]) (rest := []) (Sr := [X, Y, [(f, .inr (2, [.ref fa, .int (nI fs.length)])), (fa, .inl (D.2.2.1 5, 8, .inr (.inr (.inr (.inr ff)))))]]) (ic := 3) (jc := 0) (ci := 6) [3] [0, 1, 2] (ct_Sf_joined hC (by omega) (rm_ok _ _ _)) rfl lk_2_42 lcSf_joined rfl rfl rfl rfl rfl (by decide) rfl (by rw [eC]; rfl) rfl (by decide) ⟨by dsimp only [rm]; omega, by show 8 + (4 + 11) + 40 ≤ R.locals; omega⟩ (Nat.zero_le _) (Nat.zero_le _) (Nat.zero_le _) ?_
            rintro v S1 ⟨rfl, rfl⟩
            refine Ex.sub (S' := [[(f, .inr (2, [.ref fa, .int (nI fs.length)])), (fa, .inl (D.2.2.1 5, 8, .inr (.inr (.inr (.inr ff)))))], X, C, Y]) [2, 0, 3, 1] rfl rfl ?_
            refine Ex.iret (S' := [[(f, .inr (2, [.ref fa, .int (nI fs.length)])), (fa, .inl (D.2.2.1 5, 8, .inr (.inr (.inr (.inr ff)))))], X ++ (C ++ Y)]) rfl rfl (Nat.zero_le _) (Nat.zero_le _) (by simp) ⟨?_, rfl⟩
            rw [hw, hd, bat, List.getElem?_append_left (by omega), List.getD_eq_getElem?_getD]
            rw [List.getElem?_eq_getElem (by omega)]
            rfl
    refine Ex.p rfl ?_
    refine Ex.p rfl ?_
    refine Ex.p rfl ?_
    refine Ex.p rfl ?_
    rw [show nI j - Int32.ofInt 1 = nI (j - 1) from pk_sub (b := 1) (by omega)]
    refine Ex.p rfl ?_
    refine Ex.p rfl ?_
    refine loop (fs.length + 1) 0 (by omega) (by omega) (j - 1) (by omega) ?_
    obtain ⟨j', rfl⟩ : ∃ j', j = j' + 1 := ⟨j - 1, by omega⟩
    rfl
  · have hj0 : j = 0 := by
      have c0 : ¬ ¬ nI j = nI 0 := c0
      rw [nI_eq (by omega) (by omega)] at c0
      omega
    subst hj0
    repeat (first | refine Ex.p rfl ?_ | refine Ex.ldc rfl ?_ | refine Ex.ldc2 rfl ?_ | refine Ex.gf 0 0 rfl rfl rfl ?_)
    exact Ex.iret rfl rfl (Nat.zero_le _) (Nat.zero_le _) rfl ⟨rfl, rfl⟩
end FS2

/-! FileSet: takeFile -/
/-- a file read at p of bytes bs, with the roles rs there already: role, bytes, where the next begins -/
def tkF (bs rs : List Nat) (p : Nat) : Option (Nat × List Nat × Nat) :=
  if bs.length < p + 3 then none else
  if 300 < bs.getD (p + 1) 0 + 256 * bs.getD (p + 2) 0 ∨ bs.length < p + 3 + (bs.getD (p + 1) 0 + 256 * bs.getD (p + 2) 0) + 2 then none else
  if 8 ≤ bs.getD p 0 ∨ bs.getD p 0 ∈ rs ∨ 8 ≤ rs.length then none else
  if fsum ((bs.drop (p + 3)).take (bs.getD (p + 1) 0 + 256 * bs.getD (p + 2) 0)) = bs.getD (p + 3 + (bs.getD (p + 1) 0 + 256 * bs.getD (p + 2) 0)) 0 + 256 * bs.getD (p + 3 + (bs.getD (p + 1) 0 + 256 * bs.getD (p + 2) 0) + 1) 0 then some (bs.getD p 0, (bs.drop (p + 3)).take (bs.getD (p + 1) 0 + 256 * bs.getD (p + 2) 0), p + 3 + (bs.getD (p + 1) 0 + 256 * bs.getD (p + 2) 0) + 2) else none
theorem fwith_none {fs : List FV} {ro : Nat} : fwith fs ro = none ↔ ro ∉ fs.map (fun x => x.2.1) := by
  unfold fwith
  rw [List.find?_eq_none]
  constructor
  · intro h hm
    obtain ⟨x, hx, e⟩ := List.mem_map.mp hm
    exact h x hx (by simpa using e)
  · intro h x hx hp
    exact h (List.mem_map.mpr ⟨x, hx, by simpa using hp⟩)
theorem getD_lt {bs : List Nat} (hb : ∀ b ∈ bs, b < 256) (j : Nat) : bs.getD j 0 < 256 := by
  rw [List.getD_eq_getElem?_getD]
  cases h : bs[j]? with
  | none => decide
  | some x => exact hb x (List.mem_of_getElem? h)
section FT
variable {l : Launch} {D : xD} {R : Room}
/-- what takeFile leaves -/
def tkQ (D : xD) (f : Nat) (fs : List FV) (Cr : va_W) (o : Option (Nat × List Nat × Nat)) (v : Option Value) (S : List va_W) : Prop := match o with
  | some (ro, d, p') => v = some (.int (nI p')) ∧ ∃ q cap Cf' F', S = [Cf', F', Cr] ∧ IsFs D f (fs ++ [(q, ro, d, cap)]) Cf' F'
  | none => v = some (.int (-1)) ∧ ∃ Cx Fx, S = [Cx, Fx, Cr]
theorem ct_Fs_takeFile {f r L capr p : Nat} {fs : List FV} {bs : List Nat} {Cf F Cr : va_W} (h : IsFs D f fs Cf F) (hrow : IsRow D r L capr (bs.map nI) Cr) (hb : ∀ b ∈ bs, b < 256) (hp : p < 2 ^ 20) (hr : rmOk R 4 80 1200) :
    Ct l mFs_takeFile D R [.ref f, .ref r, .int (nI p)] [Cf, F, Cr] (tkQ D f fs Cr (tkF bs (fs.map (fun x => x.2.1)) p)) := by
  have h9 := h
  obtain ⟨fa, ff, rfl, hF, h1, h3⟩ := h
  obtain ⟨r1, r2, r3, r4⟩ := hr
  obtain ⟨arr, g, rfl, w1, w2, w3, w4, w5, w6⟩ := id hrow
  have hlen : (bs.map nI).length = bs.length := by simp
  have hbl : bs.length ≤ 5000 := by rw [hlen] at w2; omega
  refine Ct.of rfl (by decide) tkFs_takeFile (Nat.le_of_ble_eq_true rfl) (fun A => ?_)
  generalize ho : tkF bs (fs.map (fun x => x.2.1)) p = o
  unfold tkF at ho
  refine Ex.p rfl ?_
  refine Ex.p rfl ?_
  refine Ex.p rfl ?_
  rw [show nI p + Int32.ofInt 3 = nI (p + 3) from nI_add p 3]
  repeat (first | refine Ex.p rfl ?_ | refine Ex.ldc rfl ?_ | refine Ex.ldc2 rfl ?_ | refine Ex.gf 2 0 rfl rfl rfl ?_)
  refine Ex.br rfl (fun c1 => ?_) (fun c1 => ?_)
  rotate_left
  · rw [nI_leI (by omega) (by omega), hlen] at c1
    rw [if_pos (by omega)] at ho
    subst ho
    refine Ex.p rfl ?_
    exact Ex.iret rfl rfl (Nat.zero_le _) (Nat.zero_le _) rfl ⟨rfl, _, _, rfl⟩
  rw [nI_leI (by omega) (by omega), hlen] at c1
  rw [if_neg (by omega)] at ho
  have b0 := getD_lt hb p
  have b1 := getD_lt hb (p + 1)
  have b2 := getD_lt hb (p + 2)
  refine Ex.p rfl ?_
  refine Ex.p rfl ?_
  refine Ex.p rfl ?_
  refine Ex.p rfl ?_
  rw [i_add1]
  refine Ex.cs (Mc := mFs_pair) (Rc := rm 1 0 0) (As := [.ref r, .int (nI (p + 1))]) (rest := []) (Sr := [[(f, .inr (2, [.ref fa, .int (nI fs.length)])), (fa, .inl (D.2.2.1 5, 8, .inr (.inr (.inr (.inr ff)))))], F]) [2] [0, 1] (ct_Fs_pair hrow hb (by omega) (rm_ok _ _ _)) rfl lk_2_56 lcFs_pair rfl rfl rfl rfl rfl (by decide) ⟨by dsimp only [rm]; omega, by show 8 + (2 + 11) + 40 ≤ R.locals; omega⟩ (Nat.zero_le _) (Nat.zero_le _) (Nat.zero_le _) ?_
  rintro v S1 ⟨rfl, rfl⟩
  rw [show p + 1 + 1 = p + 2 from rfl]
  generalize hn : bs.getD (p + 1) 0 + 256 * bs.getD (p + 2) 0 = N at ho ⊢
  have hN : N < 65536 := by omega
  refine Ex.p rfl ?_
  refine Ex.p rfl ?_
  refine Ex.p rfl ?_
  refine Ex.p rfl ?_
  rw [nI_add]
  refine Ex.p rfl ?_
  refine Ex.p rfl ?_
  refine Ex.p rfl ?_
  refine Ex.br rfl (fun c2 => ?_) (fun c2 => ?_)
  · have c2 : nI 300 < nI N := c2
    rw [nI_ltI (by omega) (by omega)] at c2
    rw [if_pos (by omega)] at ho
    subst ho
    refine Ex.p rfl ?_
    exact Ex.iret rfl rfl (Nat.zero_le _) (Nat.zero_le _) rfl ⟨rfl, _, _, rfl⟩
  have c2 : ¬ nI 300 < nI N := c2
  rw [nI_ltI (by omega) (by omega)] at c2
  refine Ex.p rfl ?_
  refine Ex.p rfl ?_
  refine Ex.p rfl ?_
  rw [show nI (p + 3 + N) + Int32.ofInt 2 = nI (p + 3 + N + 2) from nI_add _ 2]
  repeat (first | refine Ex.p rfl ?_ | refine Ex.ldc rfl ?_ | refine Ex.ldc2 rfl ?_ | refine Ex.gf 2 0 rfl rfl rfl ?_)
  refine Ex.br rfl (fun c3 => ?_) (fun c3 => ?_)
  rotate_left
  · rw [nI_leI (by omega) (by omega), hlen] at c3
    rw [if_pos (by omega)] at ho
    subst ho
    refine Ex.p rfl ?_
    exact Ex.iret rfl rfl (Nat.zero_le _) (Nat.zero_le _) rfl ⟨rfl, _, _, rfl⟩
  rw [nI_leI (by omega) (by omega), hlen] at c3
  rw [if_neg (by omega)] at ho
  refine Ex.p rfl ?_
  refine Ex.p rfl ?_
  refine Ex.p rfl ?_
  refine Ex.p rfl ?_
  refine Ex.cv (Mc := mRo_get) (Rc := rm 0 0 0) (As := [.int (nI p)]) (rest := [.ref f, .ref f]) (Sr := [[(f, .inr (2, [.ref fa, .int (nI fs.length)])), (fa, .inl (D.2.2.1 5, 8, .inr (.inr (.inr (.inr ff)))))], F]) (ic := 2) (jc := 0) (ci := 5) [2] [0, 1] (ct_Ro_get hrow) rfl lk_2_46 lcRo_get rfl rfl rfl rfl rfl (by decide) rfl rfl rfl (by decide) ⟨by dsimp only [rm]; omega, by show 8 + (2 + 11) + 0 ≤ R.locals; omega⟩ (Nat.le_of_ble_eq_true rfl) (Nat.zero_le _) (Nat.zero_le _) ?_
  rintro v S1 ⟨rfl, rfl⟩
  rw [rget_nI (by omega) (by omega)]
  generalize hro : bs.getD p 0 = ro at ho b0 ⊢
  refine Ex.cv (Mc := mFs_add) (Rc := rm 3 3 14) (As := [.int (nI ro)]) (rest := [.ref f]) (Sr := [sRow D r arr capr g L (bs.map nI).length]) (ic := 0) (jc := 0) (ci := 2) [0, 1] [2] (ct_Fs_add h9 b0 (rm_ok _ _ _)) rfl lk_2_59 lcFs_add rfl rfl rfl rfl rfl (by decide) rfl rfl rfl (by decide) ⟨by dsimp only [rm]; omega, by show 8 + (2 + 11) + 120 ≤ R.locals; omega⟩ (Nat.le_of_ble_eq_true rfl) (by dsimp only [rm]; omega) (by dsimp only [rm]; omega) ?_
  rintro v S1 (⟨hbad, rfl, rfl⟩ | ⟨hro8, hw, hf8, rfl, q, Cf', F', rfl, h9'⟩)
  · rw [if_pos (by
      rcases hbad with z | z | z
      · exact Or.inl z
      · exact Or.inr (Or.inl (Decidable.byContradiction fun y => z (fwith_none.mpr y)))
      · exact Or.inr (Or.inr (by simpa using z)))] at ho
    subst ho
    refine Ex.cv (Mc := mFs_fileAt) (Rc := rm 0 0 0) (As := [.int (-1)]) (rest := []) (Sr := [sRow D r arr capr g L (bs.map nI).length, F]) (ic := 1) (jc := 0) (ci := 2) [1] [0, 2] (ct_Fs_fileAt h9) rfl lk_2_32 lcFs_fileAt rfl rfl rfl rfl rfl (by decide) rfl rfl rfl (by decide) ⟨by dsimp only [rm]; omega, by show 8 + (2 + 11) + 0 ≤ R.locals; omega⟩ (Nat.zero_le _) (by dsimp only [rm]; omega) (by dsimp only [rm]; omega) ?_
    rintro v S1 ⟨rfl, rfl⟩
    rw [ixo_none (Or.inl (by decide))]
    refine Ex.p rfl ?_
    refine Ex.p rfl ?_
    refine Ex.nnN rfl ?_
    refine Ex.p rfl ?_
    refine Ex.sub (S' := [[(f, .inr (2, [.ref fa, .int (nI fs.length)])), (fa, .inl (D.2.2.1 5, 8, .inr (.inr (.inr (.inr ff)))))], F, sRow D r arr capr g L (bs.map nI).length]) [2, 1, 0] rfl rfl ?_
    exact Ex.iret rfl rfl (by dsimp only [rm]; omega) (by dsimp only [rm]; omega) rfl ⟨rfl, _, _, rfl⟩
  · rw [if_neg (by
      rintro (z | z | z)
      · omega
      · exact fwith_none.mp hw z
      · simp at z; omega)] at ho
    have h10 := h9'
    obtain ⟨fa', ff', rfl, hF', h1', h3'⟩ := h9'
    refine Ex.cv (Mc := mFs_fileAt) (Rc := rm 0 0 0) (As := [.int (nI fs.length)]) (rest := []) (Sr := [sRow D r arr capr g L (bs.map nI).length, F']) (ic := 1) (jc := 0) (ci := 2) [1] [0, 2] (ct_Fs_fileAt h10) rfl lk_2_32 lcFs_fileAt rfl rfl rfl rfl rfl (by decide) rfl rfl rfl (by decide) ⟨by dsimp only [rm]; omega, by show 8 + (2 + 11) + 0 ≤ R.locals; omega⟩ (Nat.zero_le _) (by dsimp only [rm]; omega) (by dsimp only [rm]; omega) ?_
    rintro v S1 ⟨rfl, rfl⟩
    have hat : (fs ++ [((q, ro, [], 8) : FV)])[fs.length]? = some (q, ro, [], 8) := by simp
    rw [ixo, nI_toInt (by omega), if_pos (by omega), Int.toNat_natCast, hat]
    refine Ex.p rfl ?_
    refine Ex.p rfl ?_
    refine Ex.nnR (t := 72) rfl rfl ?_
    obtain ⟨X, C, Y, rfl, hC, hback⟩ := hF'.at hat
    have hset : ∀ t' : FV, (fs ++ [((q, ro, [], 8) : FV)]).set fs.length t' = fs ++ [t'] := fun t' => by simp
    generalize hdd : (bs.drop (p + 3)).take N = dd at ho
    have hdl : dd.length = N := by rw [← hdd]; simp; omega
    have hde : ∀ k, k < N → dd[k]? = some (bs.getD (p + 3 + k) 0) := by
      intro k hk
      rw [← hdd, List.getElem?_take_of_lt hk, List.getElem?_drop, List.getD_eq_getElem?_getD, List.getElem?_eq_getElem (show p + 3 + k < bs.length by omega)]
      rfl
    have loop : ∀ (m k : Nat), N - k < m → k ≤ N → ∀ (cap : Nat) (C' : va_W), IsF D (q, ro, dd.take k, cap) C' → 8 ≤ cap → capN cap k (N - k) ≤ 600 →
        Ex l mFs_takeFile D R A (xQ D A (tkQ D f fs (sRow D r arr capr g L (bs.map nI).length) o)) R.cells R.slots 75 [(7, .int (nI (p + 3 + k))), (6, .ref q), (5, .int (nI (p + 3 + N))), (4, .int (nI N)), (3, .int (nI (p + 3))), (0, .ref f), (1, .ref r), (2, .int (nI p))] [] [X, C', Y, [(f, .inr (2, [.ref fa', .int (nI (fs ++ [((q, ro, [], 8) : FV)]).length)])), (fa', .inl (D.2.2.1 5, 8, .inr (.inr (.inr (.inr ff')))))], sRow D r arr capr g L (bs.map nI).length] (3 + (cap - 8) / 8) (14 + 2 * (cap - 8)) := by
      intro m
      induction m with
      | zero => intro k h; omega
      | succ m ih =>
        intro k hm hk cap C' hC' hcap hcN
        have hge := capN_ge (N - k) cap k
        have htl : (dd.take k).length = k := by simp; omega
        obtain ⟨rb, Cb, rfl, hrowC, hro9, hbC⟩ := id hC'
        refine Ex.p rfl ?_
        refine Ex.p rfl ?_
        refine Ex.br rfl (fun c4 => ?_) (fun c4 => ?_)
        · rw [nI_leI (by omega) (by omega)] at c4
          have hkN : k = N := by omega
          have htk : dd.take k = dd := by rw [hkN, ← hdl, List.take_length]
          refine Ex.p rfl ?_
          refine Ex.gf 1 0 rfl rfl rfl ?_
          refine Ex.p rfl ?_
          refine Ex.p rfl ?_
          refine Ex.cs (Mc := mFs_pair) (Rc := rm 1 0 0) (As := [.ref r, .int (nI (p + 3 + N))]) (rest := [.int (nI (fsum (dd.take k)))]) (Sr := [X, (q, .inr (6, [.int (nI ro), .ref rb, .int (nI (fsum (dd.take k)))])) :: Cb, Y, [(f, .inr (2, [.ref fa', .int (nI (fs ++ [((q, ro, [], 8) : FV)]).length)])), (fa', .inl (D.2.2.1 5, 8, .inr (.inr (.inr (.inr ff')))))]]) [4] [0, 1, 2, 3] (ct_Fs_pair hrow hb (by omega) (rm_ok _ _ _)) rfl lk_2_56 lcFs_pair rfl rfl rfl rfl rfl (by decide) ⟨by dsimp only [rm]; omega, by show 8 + (2 + 11) + 40 ≤ R.locals; omega⟩ (Nat.le_of_ble_eq_true rfl) (by dsimp only [rm]; omega) (by dsimp only [rm]; omega) ?_
          rintro v S1 ⟨rfl, rfl⟩
          have b3 := getD_lt hb (p + 3 + N)
          have b4 := getD_lt hb (p + 3 + N + 1)
          have hfs := fsum_lt (dd.take k)
          refine Ex.br rfl (fun c5 => ?_) (fun c5 => ?_)
          · have c5 : ¬ nI (fsum (dd.take k)) = nI (bs.getD (p + 3 + N) 0 + 256 * bs.getD (p + 3 + N + 1) 0) := c5
            rw [nI_eq (by omega) (by omega), htk] at c5
            rw [if_neg c5] at ho
            subst ho
            refine Ex.p rfl ?_
            refine Ex.sub (S' := [X, Y, sRow D r arr capr g L (bs.map nI).length]) [0, 2, 4] rfl rfl ?_
            exact Ex.iret (S' := [X, Y, sRow D r arr capr g L (bs.map nI).length]) rfl rfl (by dsimp only [rm]; omega) (by dsimp only [rm]; omega) rfl ⟨rfl, _, _, rfl⟩
          · have c5 : ¬ ¬ nI (fsum (dd.take k)) = nI (bs.getD (p + 3 + N) 0 + 256 * bs.getD (p + 3 + N + 1) 0) := c5
            rw [nI_eq (by omega) (by omega), htk] at c5
            rw [if_pos (by omega)] at ho
            subst ho
            refine Ex.p rfl ?_
            refine Ex.p rfl ?_
            refine Ex.p rfl ?_
            rw [show nI (p + 3 + N) + Int32.ofInt 2 = nI (p + 3 + N + 2) from nI_add _ 2]
            refine Ex.p rfl ?_
            refine Ex.sub (S' := [[(f, .inr (2, [.ref fa', .int (nI (fs ++ [((q, ro, [], 8) : FV)]).length)])), (fa', .inl (D.2.2.1 5, 8, .inr (.inr (.inr (.inr ff')))))], X, (q, .inr (6, [.int (nI ro), .ref rb, .int (nI (fsum (dd.take k)))])) :: Cb, Y, sRow D r arr capr g L (bs.map nI).length]) [3, 0, 1, 2, 4] rfl rfl ?_
            refine Ex.iret (S' := [[(f, .inr (2, [.ref fa', .int (nI (fs ++ [((q, ro, [], 8) : FV)]).length)])), (fa', .inl (D.2.2.1 5, 8, .inr (.inr (.inr (.inr ff')))))], X ++ (((q, .inr (6, [.int (nI ro), .ref rb, .int (nI (fsum (dd.take k)))])) :: Cb) ++ Y), sRow D r arr capr g L (bs.map nI).length]) rfl rfl (by dsimp only [rm]; omega) (by dsimp only [rm]; omega) (by simp) ⟨rfl, q, cap, _, _, rfl, fa', ff', by simp, ?_, ?_, by simp; omega⟩
            · have hb9 := hback _ _ hC'
              rw [hset, htk] at hb9
              rw [htk]
              exact hb9
            · intro j u hj
              rcases Nat.lt_or_ge j fs.length with z | z
              · rw [List.getElem?_append_left z] at hj
                exact h1' j u (by rw [List.getElem?_append_left z]; exact hj)
              · rw [List.getElem?_append_right z] at hj
                cases hk9 : j - fs.length with
                | zero =>
                  rw [hk9] at hj
                  cases hj
                  exact h1' j (q, ro, [], 8) (by rw [show j = fs.length by omega]; exact hat)
                | succ k9 =>
                  rw [hk9] at hj
                  cases hj
        · rw [nI_leI (by omega) (by omega)] at c4
          have hkN : k < N := by omega
          rw [show N - k = (N - (k + 1)) + 1 by omega] at hcN
          have hcN : capN (rcap cap k) (k + 1) (N - (k + 1)) ≤ 600 := hcN
          have hge2 := capN_ge (N - (k + 1)) (rcap cap k) (k + 1)
          have hge3 := rcap_ge cap k
          have b5 := getD_lt hb (p + 3 + k)
          refine Ex.p rfl ?_
          refine Ex.p rfl ?_
          refine Ex.p rfl ?_
          refine Ex.cv (Mc := mRo_get) (Rc := rm 0 0 0) (As := [.int (nI (p + 3 + k))]) (rest := [.ref q]) (Sr := [X, (q, .inr (6, [.int (nI ro), .ref rb, .int (nI (fsum (dd.take k)))])) :: Cb, Y, [(f, .inr (2, [.ref fa', .int (nI (fs ++ [((q, ro, [], 8) : FV)]).length)])), (fa', .inl (D.2.2.1 5, 8, .inr (.inr (.inr (.inr ff')))))]]) (ic := 4) (jc := 0) (ci := 5) [4] [0, 1, 2, 3] (ct_Ro_get hrow) rfl lk_2_46 lcRo_get rfl rfl rfl rfl rfl (by decide) rfl rfl rfl (by decide) ⟨by dsimp only [rm]; omega, by show 8 + (2 + 11) + 0 ≤ R.locals; omega⟩ (Nat.le_of_ble_eq_true rfl) (by dsimp only [rm]; omega) (by dsimp only [rm]; omega) ?_
          rintro v S1 ⟨rfl, rfl⟩
          rw [rget_nI (by omega) (by omega)]
          have hC9 : IsFile D q ro (dd.take k) cap ((q, .inr (6, [.int (nI ro), .ref rb, .int (nI (fsum (dd.take k)))])) :: Cb) := hC'
          refine Ex.cv (Mc := mSf_push) (Rc := rm 3 ((rcap cap (dd.take k).length - cap) / 8) (2 * (rcap cap (dd.take k).length - cap))) (As := [.int (nI (bs.getD (p + 3 + k) 0))]) (rest := []) (Sr := [X, Y, [(f, .inr (2, [.ref fa', .int (nI (fs ++ [((q, ro, [], 8) : FV)]).length)])), (fa', .inl (D.2.2.1 5, 8, .inr (.inr (.inr (.inr ff')))))], sRow D r arr capr g L (bs.map nI).length]) (ic := 1) (jc := 0) (ci := 6) [1] [0, 2, 3, 4] (ct_Sf_push hC9 b5 (rm_ok _ _ _)) rfl lk_2_62 lcSf_push rfl rfl rfl rfl rfl (by decide) rfl rfl rfl (by decide) ⟨by dsimp only [rm]; omega, by show 8 + (2 + 11) + 120 ≤ R.locals; omega⟩ (Nat.zero_le _) (by rw [htl]; dsimp only [rm]; omega) (by rw [htl]; dsimp only [rm]; omega) ?_
          rintro v S1 (⟨hbad, -, -⟩ | ⟨-, rfl, C2, rfl, hC2⟩)
          · rw [htl] at hbad; omega
          rw [htl] at hC2 ⊢
          refine Ex.p rfl ?_
          refine Ex.p rfl ?_
          refine Ex.p rfl ?_
          rw [i_add1]
          refine Ex.sub (S' := [X, C2, Y, [(f, .inr (2, [.ref fa', .int (nI (fs ++ [((q, ro, [], 8) : FV)]).length)])), (fa', .inl (D.2.2.1 5, 8, .inr (.inr (.inr (.inr ff')))))], sRow D r arr capr g L (bs.map nI).length]) [0, 4, 1, 2, 3] rfl rfl ?_
          refine Ex.more (k' := 3 + (rcap cap k - 8) / 8) (n' := 14 + 2 * (rcap cap k - 8)) (by dsimp only [rm]; omega) (by dsimp only [rm]; omega) ?_
          refine ih (k + 1) (by omega) (by omega) _ C2 ?_ (by omega) hcN
          rw [List.take_succ, hde k hkN]
          exact hC2
    refine Ex.p rfl ?_
    refine Ex.p rfl ?_
    refine Ex.sub (S' := [X ++ (C ++ Y), [(f, .inr (2, [.ref fa', .int (nI (fs ++ [((q, ro, [], 8) : FV)]).length)])), (fa', .inl (D.2.2.1 5, 8, .inr (.inr (.inr (.inr ff')))))], sRow D r arr capr g L (bs.map nI).length]) [1, 2, 0] rfl rfl ?_
    refine Ex.more (k' := 3 + (8 - 8) / 8) (n' := 14 + 2 * (8 - 8)) (by dsimp only [rm]; omega) (by dsimp only [rm]; omega) ?_
    refine Ex.is [0, 1, 2, 3, 4, 5, 6, 7] rfl (S' := [X, C, Y, [(f, .inr (2, [.ref fa', .int (nI (fs ++ [((q, ro, [], 8) : FV)]).length)])), (fa', .inl (D.2.2.1 5, 8, .inr (.inr (.inr (.inr ff')))))], sRow D r arr capr g L (bs.map nI).length]) (by simp) ?_
    exact loop (N + 1) 0 (by omega) (by omega) 8 C hC (by omega) (capN_le N 8 0 600 (by omega) (by omega))
end FT

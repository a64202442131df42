/-! FileSet: take -/
def tkAll (bs : List Nat) : Nat → List Nat → Nat → Option (List (Nat × List Nat) × Nat)
  | 0, _, p => some ([], p)
  | k + 1, rs, p => match tkF bs rs p with
    | none => none
    | some x => match tkAll bs k (rs ++ [x.1]) x.2.2 with
      | none => none
      | some y => some ((x.1, x.2.1) :: y.1, y.2)
/-- the files of an archive -/
def tkArch (bs : List Nat) : Option (List (Nat × List Nat)) :=
  if bs.length = 0 ∨ 8 < bs.getD 0 0 then none else
  match tkAll bs (bs.getD 0 0) [] 1 with
  | none => none
  | some y => if y.2 = bs.length then some y.1 else none
theorem tkF_le {bs rs : List Nat} {p : Nat} {x : Nat × List Nat × Nat} (h : tkF bs rs p = some x) : x.2.2 ≤ bs.length := by
  unfold tkF at h
  split at h
  · cases h
  · split at h
    · cases h
    · split at h
      · cases h
      · split at h
        · cases h
          show p + 3 + (bs.getD (p + 1) 0 + 256 * bs.getD (p + 2) 0) + 2 ≤ bs.length
          omega
        · cases h
abbrev frb (x : FV) : Nat × List Nat := (x.2.1, x.2.2.1)
/-- what take leaves -/
def taQ (D : xD) (f : Nat) (Cr : va_W) (o : Option (List (Nat × List Nat))) (v : Option Value) (S : List va_W) : Prop := match o with
  | some fl => v = some (.int 1) ∧ ∃ fs Cf' F', S = [Cf', F', Cr] ∧ IsFs D f fs Cf' F' ∧ fs.map frb = fl
  | none => v = some (.int 0) ∧ ∃ Cx Fx, S = [Cx, Fx, Cr]
section FA
variable {l : Launch} {D : xD} {R : Room}
theorem ct_Fs_take {f r L capr : Nat} {bs : List Nat} {Cf F Cr : va_W} (h : IsFs D f [] Cf F) (hrow : IsRow D r L capr (bs.map nI) Cr) (hb : ∀ b ∈ bs, b < 256) (hr : rmOk R 5 640 9600) :
    Ct l mFs_take D R [.ref f, .ref r] [Cf, F, Cr] (taQ D f Cr (tkArch bs)) := by
  obtain ⟨r1, r2, r3, r4⟩ := hr
  obtain ⟨arr, g, rfl, w1, w2, w3, w4, w5, w6⟩ := id hrow
  have hlen : (bs.map nI).length = bs.length := by simp
  have hbl : bs.length ≤ 5000 := by rw [hlen] at w2; omega
  have hm := getD_lt hb 0
  refine Ct.of rfl (by decide) tkFs_take (Nat.le_of_ble_eq_true rfl) (fun A => ?_)
  generalize ho : tkArch bs = o
  unfold tkArch at ho
  refine Ex.p rfl ?_
  refine Ex.p rfl ?_
  refine Ex.cv (Mc := mRo_get) (Rc := rm 0 0 0) (As := [.int (nI 0)]) (rest := []) (Sr := [Cf, F]) (ic := 2) (jc := 0) (ci := 5) [2] [0, 1] (ct_Ro_get hrow) rfl lk_2_46 lcRo_get rfl rfl rfl rfl rfl (by decide) rfl rfl rfl (by decide) ⟨by dsimp only [rm]; omega, by show 8 + (2 + 11) + 0 ≤ R.locals; omega⟩ (Nat.zero_le _) (Nat.zero_le _) (Nat.zero_le _) ?_
  rintro v S1 ⟨rfl, rfl⟩
  by_cases h0 : bs.length = 0
  · rw [if_pos (Or.inl h0)] at ho
    subst ho
    have hnil : bs = [] := List.length_eq_zero_iff.mp h0
    subst hnil
    rw [show rget ([].map nI) (nI 0) = -1 from rfl]
    refine Ex.p rfl ?_
    refine Ex.p rfl ?_
    refine Ex.br rfl (fun _ => ?_) (fun c => absurd (by decide) c)
    refine Ex.p rfl ?_
    exact Ex.zret rfl rfl (Or.inl rfl) (Nat.zero_le _) (Nat.zero_le _) rfl ⟨rfl, _, _, rfl⟩
  rw [rget_nI (by omega) (by omega)]
  generalize hmm : bs.getD 0 0 = many at ho hm ⊢
  refine Ex.p rfl ?_
  refine Ex.p rfl ?_
  refine Ex.br rfl (fun c => absurd c (nI_pos (by omega))) (fun _ => ?_)
  refine Ex.p rfl ?_
  refine Ex.p rfl ?_
  refine Ex.br rfl (fun c1 => ?_) (fun c1 => ?_)
  rotate_left
  · have c1 : ¬ nI many ≤ nI 8 := c1
    rw [nI_leI (by omega) (by omega)] at c1
    rw [if_pos (Or.inr (by omega))] at ho
    subst ho
    refine Ex.p rfl ?_
    exact Ex.zret rfl rfl (Or.inl rfl) (Nat.zero_le _) (Nat.zero_le _) rfl ⟨rfl, _, _, rfl⟩
  have c1 : nI many ≤ nI 8 := c1
  rw [nI_leI (by omega) (by omega)] at c1
  rw [if_neg (by omega)] at ho
  have loop : ∀ (m i : Nat), many - i < m → i ≤ many → ∀ (fs : List FV) (p : Nat) (Cf' F' : va_W), IsFs D f fs Cf' F' → p ≤ 5000 →
      tkAll bs many [] 1 = (match tkAll bs (many - i) (fs.map (fun x => x.2.1)) p with
        | none => none
        | some y => some (fs.map frb ++ y.1, y.2)) →
      Ex l mFs_take D R A (xQ D A (taQ D f (sRow D r arr capr g L (bs.map nI).length) o)) R.cells R.slots 23 [(4, .int (nI i)), (3, .int (nI p)), (2, .int (nI many)), (0, .ref f), (1, .ref r)] [] [Cf', F', sRow D r arr capr g L (bs.map nI).length] (80 * i) (1200 * i) := by
    intro m
    induction m with
    | zero => intro i h; omega
    | succ m ih =>
      intro i him hi fs p Cf' F' hfs hp hall
      refine Ex.p rfl ?_
      refine Ex.p rfl ?_
      refine Ex.br rfl (fun c2 => ?_) (fun c2 => ?_)
      · rw [nI_leI (by omega) (by omega)] at c2
        rw [show many - i = 0 by omega] at hall
        have hall : tkAll bs many [] 1 = some (fs.map frb ++ [], p) := hall
        rw [hall, List.append_nil] at ho
        have ho : (if p = bs.length then some (fs.map frb) else none) = o := ho
        repeat (first | refine Ex.p rfl ?_ | refine Ex.ldc rfl ?_ | refine Ex.ldc2 rfl ?_ | refine Ex.gf 2 0 rfl rfl rfl ?_)
        refine Ex.br rfl (fun c3 => ?_) (fun c3 => ?_)
        · have c3 : ¬ nI p = nI (bs.map nI).length := c3
          rw [nI_eq (by omega) (by omega), hlen] at c3
          rw [if_neg c3] at ho
          subst ho
          refine Ex.p rfl ?_
          exact Ex.zret rfl rfl (Or.inl rfl) (by omega) (by omega) rfl ⟨rfl, _, _, rfl⟩
        · have c3 : ¬ ¬ nI p = nI (bs.map nI).length := c3
          rw [nI_eq (by omega) (by omega), hlen] at c3
          rw [if_pos (by omega)] at ho
          subst ho
          refine Ex.p rfl ?_
          refine Ex.p rfl ?_
          exact Ex.zret rfl rfl (Or.inr rfl) (by omega) (by omega) rfl ⟨rfl, fs, _, _, rfl, hfs, rfl⟩
      · rw [nI_leI (by omega) (by omega)] at c2
        rw [show many - i = (many - (i + 1)) + 1 by omega] at hall
        obtain ⟨fa, ff, rfl, -⟩ := id hfs
        refine Ex.p rfl ?_
        refine Ex.p rfl ?_
        refine Ex.p rfl ?_
        refine Ex.cv (Mc := mFs_takeFile) (Rc := rm 4 80 1200) (As := [.ref r, .int (nI p)]) (rest := []) (Sr := []) (ic := 0) (jc := 0) (ci := 2) [0, 1, 2] [] (ct_Fs_takeFile hfs hrow hb (by omega) (rm_ok _ _ _)) rfl lk_2_51 lcFs_takeFile rfl rfl rfl rfl rfl (by decide) rfl rfl rfl (by decide) ⟨by dsimp only [rm]; omega, by show 8 + (8 + 11) + 160 ≤ R.locals; omega⟩ (Nat.zero_le _) (by dsimp only [rm]; omega) (by dsimp only [rm]; omega) ?_
        intro v S1 hq
        cases ht : tkF bs (fs.map (fun x => x.2.1)) p with
        | none =>
          rw [ht] at hq
          obtain ⟨rfl, Cx, Fx, rfl⟩ := hq
          have hall : tkAll bs many [] 1 = none := by
            rw [hall]
            simp only [tkAll, ht]
          rw [hall] at ho
          have ho : none = o := ho
          subst ho
          refine Ex.p rfl ?_
          refine Ex.p rfl ?_
          refine Ex.p rfl ?_
          refine Ex.br rfl (fun c => absurd rfl c) (fun _ => ?_)
          refine Ex.p rfl ?_
          exact Ex.zret rfl rfl (Or.inl rfl) (by dsimp only [rm]; omega) (by dsimp only [rm]; omega) rfl ⟨rfl, _, _, rfl⟩
        | some x =>
          obtain ⟨ro, d, p'⟩ := x
          have hle : p' ≤ bs.length := tkF_le ht
          rw [ht] at hq
          obtain ⟨rfl, q, cap, Cf2, F2, rfl, hfs2⟩ := hq
          refine Ex.p rfl ?_
          refine Ex.p rfl ?_
          refine Ex.p rfl ?_
          refine Ex.br rfl (fun _ => ?_) (fun c => absurd (fun e => by
            have e : nI p' = -1 := e
            have := congrArg Int32.toInt e
            rw [nI_toInt (by omega)] at this
            exact absurd this (by rw [show (-1 : Int32).toInt = -1 from rfl]; omega)) c)
          refine Ex.p rfl ?_
          refine Ex.p rfl ?_
          rw [i_add1]
          refine Ex.more (k' := 80 * (i + 1)) (n' := 1200 * (i + 1)) (by dsimp only [rm]; omega) (by dsimp only [rm]; omega) ?_
          refine ih (i + 1) (by omega) (by omega) _ _ _ _ hfs2 (by omega) ?_
          rw [hall]
          simp only [tkAll, ht, List.map_append, List.map_cons, List.map_nil]
          cases tkAll bs (many - (i + 1)) (fs.map (fun x => x.2.1) ++ [ro]) p' with
          | none => rfl
          | some y => simp
  refine Ex.p rfl ?_
  refine Ex.p rfl ?_
  refine Ex.p rfl ?_
  refine Ex.p rfl ?_
  refine Ex.more (k' := 80 * 0) (n' := 1200 * 0) (Nat.zero_le _) (Nat.zero_le _) ?_
  refine loop (many + 1) 0 (by omega) (by omega) [] 1 Cf F h (by omega) ?_
  simp only [List.map_nil, Nat.sub_zero]
  cases tkAll bs many [] 1 with
  | none => rfl
  | some y => rfl
end FA

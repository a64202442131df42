/-! FileSet -/
abbrev FV : Type := Nat × Nat × List Nat × Nat
def IsF (D : xD) (x : FV) (C : va_W) : Prop := IsFile D x.1 x.2.1 x.2.2.1 x.2.2.2 C
def IsFs (D : xD) (f : Nat) (fs : List FV) (Cf F : va_W) : Prop :=
  ∃ (fa : Nat) (ff : Nat → Option Nat), Cf = [(f, .inr (2, [.ref fa, .int (nI fs.length)])), (fa, .inl (D.2.2.1 5, 8, .inr (.inr (.inr (.inr ff)))))] ∧ IsL (IsF D) fs F ∧ (∀ (i : Nat) (x : FV), fs[i]? = some x → ff i = some x.1) ∧ fs.length ≤ 8
def fwith (fs : List FV) (role : Nat) : Option FV := fs.find? (fun x => x.2.1 == role)
section FS
variable {l : Launch} {D : xD} {R : Room}
theorem ct_Fs_init {f : Nat} (hr : rmOk R 1 1 8) : Ct l mFs_init D R [.ref f] [[(f, .inr (2, gdf 2))]] (fun v S => v = none ∧ ∃ Cf, S = [Cf] ∧ IsFs D f [] Cf []) := by
  obtain ⟨r1, r2, r3, r4⟩ := hr
  refine Ct.of rfl (by decide) tkFs_init (Nat.le_of_ble_eq_true rfl) (fun A => ?_)
  refine Ex.p rfl ?_
  refine Ex.oi rfl lk_2_3 (by omega) (by simp; omega) ?_
  refine Ex.p rfl ?_
  refine Ex.p rfl ?_
  refine Ex.newa (N := 8) (ci := 6) (t0 := 5) (cn := "DrillArchive$StoredFile") rfl rfl (by decide) (by decide) rfl rfl (by decide) (by omega) (by omega) (fun q => ?_)
  refine Ex.pfF 0 0 rfl rfl rfl rfl rfl rfl rfl rfl ?_
  exact Ex.vret (S' := [[(f, .inr (2, [.ref q, .int (nI 0)])), (q, .inl (D.2.2.1 5, 8, .inr (.inr (.inr (.inr (fun _ => none))))))]]) rfl rfl (by omega) (by omega) rfl ⟨rfl, _, rfl, q, _, rfl, IsL.nil, fun i t h => by simp at h, by decide⟩
theorem ct_Fs_fileAt {f : Nat} {fs : List FV} {Cf F : va_W} {i : Int32} (h : IsFs D f fs Cf F) : Ct l mFs_fileAt D R [.ref f, .int i] [Cf] (fun v S => v = some (va_rf ((ixo fs i).map (fun t => t.1))) ∧ S = [Cf]) := by
  obtain ⟨fa, ff, rfl, hF, h1, h3⟩ := h
  refine Ct.of rfl (by decide) tkFs_fileAt (Nat.le_of_ble_eq_true rfl) (fun A => ?_)
  refine Ex.p rfl ?_
  refine Ex.br rfl (fun c1 => ?_) (fun c1 => ?_)
  · rw [Int32.lt_iff_toInt_lt, i0_toInt] at c1
    repeat (first | refine Ex.p rfl ?_ | refine Ex.ldc rfl ?_ | refine Ex.ldc2 rfl ?_)
    refine Ex.aret rfl rfl (Or.inl rfl) (Nat.zero_le _) (Nat.zero_le _) rfl ⟨?_, rfl⟩
    rw [ixo_none (Or.inl c1)]; rfl
  · rw [Int32.lt_iff_toInt_lt, i0_toInt] at c1
    repeat (first | refine Ex.p rfl ?_ | refine Ex.ldc rfl ?_ | refine Ex.ldc2 rfl ?_ | refine Ex.gf 0 0 rfl rfl rfl ?_)
    refine Ex.br rfl (fun c2 => ?_) (fun c2 => ?_)
    · rw [Int32.le_iff_toInt_le, nI_toInt (by omega)] at c2
      repeat (first | refine Ex.p rfl ?_ | refine Ex.ldc rfl ?_ | refine Ex.ldc2 rfl ?_)
      refine Ex.aret rfl rfl (Or.inl rfl) (Nat.zero_le _) (Nat.zero_le _) rfl ⟨?_, rfl⟩
      rw [ixo_none (Or.inr c2)]; rfl
    · rw [Int32.le_iff_toInt_le, nI_toInt (by omega)] at c2
      repeat (first | refine Ex.p rfl ?_ | refine Ex.ldc rfl ?_ | refine Ex.ldc2 rfl ?_ | refine Ex.gf 0 0 rfl rfl rfl ?_)
      refine Ex.aal 0 1 i.toInt.toNat 5 rfl rfl rfl rfl (by omega) (by omega) ?_
      repeat (first | refine Ex.p rfl ?_ | refine Ex.ldc rfl ?_ | refine Ex.ldc2 rfl ?_)
      refine Ex.aret rfl rfl (va_rf_or _) (Nat.zero_le _) (Nat.zero_le _) rfl ⟨?_, rfl⟩
      have hlt : i.toInt.toNat < fs.length := by omega
      rw [h1 _ _ (List.getElem?_eq_getElem hlt), ixo, if_pos (by omega), List.getElem?_eq_getElem hlt]
      rfl
theorem ct_Fs_withRole {f role : Nat} {fs : List FV} {Cf F : va_W} (h : IsFs D f fs Cf F) (hro : role < 8) (hr : rmOk R 1 0 0) : Ct l mFs_withRole D R [.ref f, .int (nI role)] [Cf, F] (fun v S => v = some (va_rf ((fwith fs role).map (fun t => t.1))) ∧ S = [Cf, F]) := by
  have h9 := h
  obtain ⟨fa, ff, rfl, hF, h1, h3⟩ := h
  obtain ⟨r1, r2, r3, r4⟩ := hr
  refine Ct.of rfl (by decide) tkFs_withRole (Nat.le_of_ble_eq_true rfl) (fun A => ?_)
  have loop : ∀ (m i : Nat), fs.length - i < m → i ≤ fs.length → fwith fs role = fwith (fs.drop i) role → ∀ lv9 : List (Nat × Value), Ex l mFs_withRole D R A (xQ D A (fun v S => v = some (va_rf ((fwith fs role).map (fun t => t.1))) ∧ S = [[(f, .inr (2, [.ref fa, .int (nI fs.length)])), (fa, .inl (D.2.2.1 5, 8, .inr (.inr (.inr (.inr ff)))))], F])) R.cells R.slots 2 [(2, .int (nI i)), (0, .ref f), (1, .int (nI role))] [] [[(f, .inr (2, [.ref fa, .int (nI fs.length)])), (fa, .inl (D.2.2.1 5, 8, .inr (.inr (.inr (.inr ff)))))], F] 0 0 := by
    intro m
    induction m with
    | zero => intro i h; omega
    | succ m ih =>
      intro i hm hi hw lv9
      repeat (first | refine Ex.p rfl ?_ | refine Ex.ldc rfl ?_ | refine Ex.ldc2 rfl ?_ | refine Ex.gf 0 0 rfl rfl rfl ?_)
      refine Ex.br rfl (fun c1 => ?_) (fun c1 => ?_)
      · rw [nI_leI (by omega) (by omega)] at c1
        refine Ex.p rfl ?_
        refine Ex.aret rfl rfl (Or.inl rfl) (Nat.zero_le _) (Nat.zero_le _) rfl ⟨?_, rfl⟩
        rw [hw, List.drop_eq_nil_of_le (by omega)]
        rfl
      · rw [nI_leI (by omega) (by omega)] at c1
        have hlt : i < fs.length := by omega
        refine Ex.p rfl ?_
        refine Ex.p rfl ?_
        refine Ex.cv (Mc := mFs_fileAt) (Rc := rm 0 0 0) (As := [.int (nI i)]) (rest := []) (Sr := [F]) (ic := 0) (jc := 0) (ci := 2) [0] [1] (ct_Fs_fileAt h9) rfl lk_2_32 lcFs_fileAt rfl rfl rfl rfl rfl (by decide) rfl rfl rfl (by decide) ⟨r1, by show 8 + (2 + 11) + 0 ≤ R.locals; omega⟩ (Nat.zero_le _) (Nat.zero_le _) (Nat.zero_le _) ?_
        rintro v S1 ⟨rfl, rfl⟩
        rw [ixo, nI_toInt (by omega), if_pos (by omega), Int.toNat_natCast, List.getElem?_eq_getElem hlt]
        refine Ex.p rfl ?_
        refine Ex.p rfl ?_
        refine Ex.nuR rfl ?_
        refine Ex.p rfl ?_
        obtain ⟨X, C, Y, rfl, ⟨rb, Cb, eC, -, hro2, -⟩, -⟩ := hF.at (List.getElem?_eq_getElem hlt)
        refine Ex.gf 0 X.length rfl (mid_at eC) rfl ?_
        refine Ex.p rfl ?_
        refine Ex.sub (S' := [[(f, .inr (2, [.ref fa, .int (nI fs.length)])), (fa, .inl (D.2.2.1 5, 8, .inr (.inr (.inr (.inr ff)))))], X ++ (C ++ Y)]) [1, 0] rfl rfl ?_
        have hd : fs.drop i = fs[i] :: fs.drop (i + 1) := List.drop_eq_getElem_cons hlt
        refine Ex.br rfl (fun c2 => ?_) (fun c2 => ?_)
        · have c2 : ¬ nI fs[i].2.1 = nI role := c2
          rw [nI_eq (by omega) (by omega)] at c2
          refine Ex.p rfl ?_
          refine Ex.p rfl ?_
          rw [i_add1]
          refine Ex.is [0, 2, 3] rfl rfl ?_
          refine ih (i + 1) (by omega) (by omega) ?_ []
          rw [hw, hd, fwith, List.find?_cons_of_neg (by simpa using c2)]
          rfl
        · have c2 : ¬ ¬ nI fs[i].2.1 = nI role := c2
          rw [nI_eq (by omega) (by omega)] at c2
          refine Ex.p rfl ?_
          refine Ex.aret rfl rfl (Or.inr ⟨_, rfl⟩) (Nat.zero_le _) (Nat.zero_le _) rfl ⟨?_, rfl⟩
          rw [hw, hd, fwith, List.find?_cons_of_pos (by simpa using c2)]
          rfl
  refine Ex.p rfl ?_
  refine Ex.p rfl ?_
  exact loop (fs.length + 1) 0 (by omega) (by omega) rfl []
end FS

/-! OWN FRAME 6: constants, new cells, ends, switches -/
def xf3 {α : Type} : List (Nat × Nat × α) → Nat → Nat → Option α
  | [], _, _ => none
  | q :: r, a, b => match Nat.beq q.1 a && Nat.beq q.2.1 b with
    | true => some q.2.2
    | false => xf3 r a b
theorem xf3_mem {α : Type} : ∀ (t : List (Nat × Nat × α)) (a b : Nat) (r : α), xf3 t a b = some r → (a, b, r) ∈ t
  | [], _, _, _, h => by cases h
  | q :: t, a, b, r, h => by
    unfold xf3 at h
    split at h
    · rename_i hq
      cases h
      rw [Bool.and_eq_true] at hq
      have h1 := Nat.eq_of_beq_eq_true hq.1
      have h2 := Nat.eq_of_beq_eq_true hq.2
      subst h1; subst h2
      exact List.mem_cons_self
    · exact List.mem_cons_of_mem _ (xf3_mem t a b r h)
theorem gCI_b : gCI.all (fun q => decide (Cond.constant (gON.getD q.1 "") q.2.1 q.2.2 ∈ gTB)) = true := by decide +kernel
theorem gCJ_b : gCJ.all (fun q => decide (Cond.constantLong (gON.getD q.1 "") q.2.1 q.2.2 ∈ gTB)) = true := by decide +kernel
theorem gKL_b : gKL.all (fun q => decide (Cond.classLink (gON.getD q.1 "") q.2.1 (gON.getD q.2.2 "") ∈ gTB)) = true := by decide +kernel
theorem gCS_b : gCS.all (fun q => gST.any (fun z => decide (z.1 = gON.getD q.1 "") && Nat.beq z.2.1 q.2.1 && Nat.beq z.2.2.2 q.2.2)) = true := by decide +kernel
theorem gdf_b : ∀ ci, ci < 13 → ∀ j, j < (gCL.getD ci ("", fun _ => ("", "", "", false), 0)).2.2 → defaultValue (gty (gCL.getD ci ("", fun _ => ("", "", "", false), 0)) j) = vp_V (gdf ci) j := by decide +kernel
theorem gON_D {i : Nat} {o : String} (h : gON[i]? = some o) : gON.getD i "" = o := by rw [List.getD_eq_getElem?_getD, h]; rfl
def xck (M : xM) (pc : Nat) : Option Int32 := match xfe M.2.2.2.2.2 pc with
  | some (.ldc ix) => xf3 gCI M.1 ix
  | _ => none
def xcj (M : xM) (pc : Nat) : Option Int64 := match xfe M.2.2.2.2.2 pc with
  | some (.ldc2_w ix) => xf3 gCJ M.1 ix
  | _ => none
def xcs (M : xM) (pc : Nat) : Option Nat := match xfe M.2.2.2.2.2 pc with
  | some (.ldc ix) => xf3 gCS M.1 ix
  | _ => none
def xnw (M : xM) (pc : Nat) : Option Nat := match xfe M.2.2.2.2.2 pc with
  | some (.new ix) => xf3 gKL M.1 ix
  | _ => none
def xan (M : xM) (pc : Nat) : Option Nat := match xfe M.2.2.2.2.2 pc with
  | some (.anewarray ix) => xf3 gKL M.1 ix
  | _ => none
theorem gAC : Cond.arrayClass (newarray.typeOf .int) ∈ gTB ∧ Cond.arrayClass (newarray.typeOf .boolean) ∈ gTB ∧ Cond.arrayClass (newarray.typeOf .long) ∈ gTB := by decide +kernel
section XN
variable {l : Launch} {M : xM} {D : xD} {R : Room} {A : Nat → Prop} {Q : Array Value → State → Outcome → State → Prop} {mc ms pc pc' k n : Nat} {lv lv' : List (Nat × Value)} {st st' : List Value} {S S' : List va_W} {C : va_W} {a : Nat} {ce : va_E}
theorem Ex.ldc {v : Int32} (hg : xck M pc = some v) (kk : Ex l M D R A Q mc ms (pc + 2) lv (.int v :: st) S k n) : Ex l M D R A Q mc ms pc lv st S k n := by
  intro p e s m args below meth c H locs ls F hS hP hD hl
  obtain ⟨ho, hx, hb, -, -, hown, hts, -, hin, hK, hN, hX, hA, htb⟩ := id F
  unfold xck at hg
  split at hg
  · rename_i ix hf
    have hd := htb _ (xfe_mem _ _ _ hf)
    have h1 := List.all_eq_true.mp gCI_b _ (xf3_mem _ _ _ _ hg)
    simp only [decide_eq_true_eq, gON_D ho] at h1
    exact lv_ldc hx hb hown (hts _ h1) hd (kk p e s m args below meth c H locs ls F hS hP hD hl)
  · cases hg
theorem Ex.ldc2 {v : Int64} (hg : xcj M pc = some v) (kk : Ex l M D R A Q mc ms (pc + 3) lv (.long v :: st) S k n) : Ex l M D R A Q mc ms pc lv st S k n := by
  intro p e s m args below meth c H locs ls F hS hP hD hl
  obtain ⟨ho, hx, hb, -, -, hown, hts, -, hin, hK, hN, hX, hA, htb⟩ := id F
  unfold xcj at hg
  split at hg
  · rename_i ix hf
    have hd := htb _ (xfe_mem _ _ _ hf)
    have h1 := List.all_eq_true.mp gCJ_b _ (xf3_mem _ _ _ _ hg)
    simp only [decide_eq_true_eq, gON_D ho] at h1
    exact lv_ldc2 hx hb hown (hts _ h1) hd (kk p e s m args below meth c H locs ls F hS hP hD hl)
  · cases hg
theorem Ex.ldcS {t : Nat} (hg : xcs M pc = some t) (kk : Ex l M D R A Q mc ms (pc + 2) lv (.ref (D.2.2.2.1 t) :: st) S k n) : Ex l M D R A Q mc ms pc lv st S k n := by
  intro p e s m args below meth c H locs ls F hS hP hD hl
  obtain ⟨ho, hx, hb, -, -, hown, hts, -, hin, hK, hN, hX, hA, htb⟩ := id F
  unfold xcs at hg
  split at hg
  · rename_i ix hf
    have hd := htb _ (xfe_mem _ _ _ hf)
    have h1 := List.all_eq_true.mp gCS_b _ (xf3_mem _ _ _ _ hg)
    obtain ⟨z, hz, h2⟩ := List.any_eq_true.mp h1
    simp only [Bool.and_eq_true, decide_eq_true_eq, gON_D ho] at h2
    obtain ⟨⟨e1, e2⟩, e3⟩ := h2
    have hR := hN.2.2 z hz
    have e2 := Nat.eq_of_beq_eq_true e2
    have e3 := Nat.eq_of_beq_eq_true e3
    rw [e1, e2, e3] at hR
    exact va_ldcS hx hb hown hR hd (kk p e s m args below meth c H locs ls F hS hP hD hl)
  · cases hg
theorem Ex.new {ci N : Nat} (hg : xnw M pc = some ci) (hc : (gCL[ci]?).map (fun r => r.2.2) = some N) (h1 : k + 1 ≤ R.cells) (h2 : n + N ≤ R.slots) (kk : ∀ q : Nat, Ex l M D R A Q mc ms (pc + 3) lv (.ref q :: st) (S ++ [[(q, .inr (ci, gdf ci))]]) (k + 1) (n + N)) : Ex l M D R A Q mc ms pc lv st S k n := by
  intro p e s m args below meth c H locs ls F hS hP hD hl
  obtain ⟨ho, hx, hb, -, -, hown, hts, -, hin, hK, hN, hX, hA, htb⟩ := id F
  unfold xnw at hg
  split at hg
  · rename_i ix hf
    have hd := htb _ (xfe_mem _ _ _ hf)
    have h3 := List.all_eq_true.mp gKL_b _ (xf3_mem _ _ _ _ hg)
    cases hr : gCL[ci]? with
    | none => rw [hr] at hc; cases hc
    | some r =>
      rw [hr] at hc
      simp only [Option.map_some, Option.some.injEq] at hc
      subst hc
      have hok := gCL_ok r (List.mem_of_getElem? hr)
      simp only [decide_eq_true_eq, gON_D ho, gON_D (gNM_at hr)] at h3
      have hlt : ci < 13 := (List.getElem?_eq_some_iff.mp hr).1
      have hdf := gdf_b ci hlt
      rw [List.getD_eq_getElem?_getD, hr] at hdf
      refine va_new hx hb hts hok.1 (gty r) hok.2.1 hown (hts _ h3) (hts _ hok.2.2.2.1) (hts _ hok.2.2.2.2) hK hP hD hS hA hr hdf h1 h2 hd (fun q H1 hP1 hD1 hS1 => ?_)
      exact kk q p e s m args below meth c H1 locs ls F hS1 (by simpa using hP1) (by simpa using hD1) hl
  · cases hg
theorem Ex.newi {x : Int32} {N : Nat} (hf : xfe M.2.2.2.2.2 pc = some (.newarray .int)) (hx9 : x.toInt = N) (hN9 : N ≤ 1000000) (h1 : k + 1 ≤ R.cells) (h2 : n + N ≤ R.slots) (kk : ∀ q : Nat, Ex l M D R A Q mc ms (pc + 2) lv (.ref q :: st) (S ++ [[(q, .inl (D.2.2.1 0, N, .inl (fun _ => 0)))]]) (k + 1) (n + N)) : Ex l M D R A Q mc ms pc lv (.int x :: st) S k n := by
  intro p e s m args below meth c H locs ls F hS hP hD hl
  obtain ⟨ho, hx, hb, -, -, hown, hts, -, hin, hK, hN, hX, hA, htb⟩ := id F
  have hd := htb _ (xfe_mem _ _ _ hf)
  have h3 : Cond.arrayClass (newarray.typeOf .int) ∈ gTB := gAC.1
  refine va_newa (atype := .int) hx hb (hts _ h3) rfl hK hP hD hS hA (N' := N) (a0 := (N, .inl (fun _ => 0))) (fun _ => rfl) (by rw [Int32.lt_iff_toInt_lt, hx9]; simp) (clamp_int hx9) (by show N * 4 ≤ 536870912; omega) h1 h2 hd (fun q cA H1 hK1 hP1 hD1 hS1 => ?_)
  have e1 : s.vm.findClass ("[" ++ (FieldType.int).toString) = some cA := (hK1.2 6 _ rfl).2
  have e2 : s.vm.findClass ("[" ++ (FieldType.int).toString) = some (D.2.2.1 0) := (hK.2 0 _ rfl).2
  have e3 : cA = D.2.2.1 0 := Option.some.inj (e1.symm.trans e2)
  subst e3
  exact kk q p e s m args below meth c H1 locs ls F hS1 (by simpa using hP1) (by simpa using hD1) hl
theorem Ex.newz {x : Int32} {N : Nat} (hf : xfe M.2.2.2.2.2 pc = some (.newarray .boolean)) (hx9 : x.toInt = N) (hN9 : N ≤ 1000000) (h1 : k + 1 ≤ R.cells) (h2 : n + N ≤ R.slots) (kk : ∀ q : Nat, Ex l M D R A Q mc ms (pc + 2) lv (.ref q :: st) (S ++ [[(q, .inl (D.2.2.1 1, N, .inl (fun _ => 0)))]]) (k + 1) (n + N)) : Ex l M D R A Q mc ms pc lv (.int x :: st) S k n := by
  intro p e s m args below meth c H locs ls F hS hP hD hl
  obtain ⟨ho, hx, hb, -, -, hown, hts, -, hin, hK, hN, hX, hA, htb⟩ := id F
  have hd := htb _ (xfe_mem _ _ _ hf)
  have h3 : Cond.arrayClass (newarray.typeOf .boolean) ∈ gTB := gAC.2.1
  refine va_newa (atype := .boolean) hx hb (hts _ h3) rfl hK hP hD hS hA (N' := N) (a0 := (N, .inl (fun _ => 0))) (fun _ => rfl) (by rw [Int32.lt_iff_toInt_lt, hx9]; simp) (clamp_int hx9) (by show N * 1 ≤ 536870912; omega) h1 h2 hd (fun q cA H1 hK1 hP1 hD1 hS1 => ?_)
  have e1 : s.vm.findClass ("[" ++ (FieldType.boolean).toString) = some cA := (hK1.2 6 _ rfl).2
  have e2 : s.vm.findClass ("[" ++ (FieldType.boolean).toString) = some (D.2.2.1 1) := (hK.2 1 _ rfl).2
  have e3 : cA = D.2.2.1 1 := Option.some.inj (e1.symm.trans e2)
  subst e3
  exact kk q p e s m args below meth c H1 locs ls F hS1 (by simpa using hP1) (by simpa using hD1) hl
theorem Ex.newl {x : Int32} {N : Nat} (hf : xfe M.2.2.2.2.2 pc = some (.newarray .long)) (hx9 : x.toInt = N) (hN9 : N ≤ 1000000) (h1 : k + 1 ≤ R.cells) (h2 : n + N ≤ R.slots) (kk : ∀ q : Nat, Ex l M D R A Q mc ms (pc + 2) lv (.ref q :: st) (S ++ [[(q, .inl (D.2.2.1 2, N, .inr (.inl (fun _ => 0))))]]) (k + 1) (n + N)) : Ex l M D R A Q mc ms pc lv (.int x :: st) S k n := by
  intro p e s m args below meth c H locs ls F hS hP hD hl
  obtain ⟨ho, hx, hb, -, -, hown, hts, -, hin, hK, hN, hX, hA, htb⟩ := id F
  have hd := htb _ (xfe_mem _ _ _ hf)
  have h3 : Cond.arrayClass (newarray.typeOf .long) ∈ gTB := gAC.2.2
  refine va_newa (atype := .long) hx hb (hts _ h3) rfl hK hP hD hS hA (N' := N) (a0 := (N, .inr (.inl (fun _ => 0)))) (fun _ => rfl) (by rw [Int32.lt_iff_toInt_lt, hx9]; simp) (clamp_int hx9) (by show N * 8 ≤ 536870912; omega) h1 h2 hd (fun q cA H1 hK1 hP1 hD1 hS1 => ?_)
  have e1 : s.vm.findClass ("[" ++ (FieldType.long).toString) = some cA := (hK1.2 6 _ rfl).2
  have e2 : s.vm.findClass ("[" ++ (FieldType.long).toString) = some (D.2.2.1 2) := (hK.2 2 _ rfl).2
  have e3 : cA = D.2.2.1 2 := Option.some.inj (e1.symm.trans e2)
  subst e3
  exact kk q p e s m args below meth c H1 locs ls F hS1 (by simpa using hP1) (by simpa using hD1) hl
theorem Ex.newa {x : Int32} {N ci t0 : Nat} {cn : String} (hg : xan M pc = some ci) (hcn : gON[ci]? = some cn) (hao : cn ∈ gAO) (hc : ci < 13) (ht : (gTY D)[t0]? = some (D.2.2.1 t0, .object cn)) (hx9 : x.toInt = N) (hN9 : N ≤ 1000000) (h1 : k + 1 ≤ R.cells) (h2 : n + N ≤ R.slots) (kk : ∀ q : Nat, Ex l M D R A Q mc ms (pc + 3) lv (.ref q :: st) (S ++ [[(q, .inl (D.2.2.1 t0, N, .inr (.inr (.inr (.inr (fun _ => none))))))]]) (k + 1) (n + N)) : Ex l M D R A Q mc ms pc lv (.int x :: st) S k n := by
  intro p e s m args below meth c H locs ls F hS hP hD hl
  obtain ⟨ho, hx, hb, -, -, hown, hts, -, hin, hK, hN, hX, hA, htb⟩ := id F
  unfold xan at hg
  split at hg
  · rename_i ix hf
    have hd := htb _ (xfe_mem _ _ _ hf)
    have h3 := List.all_eq_true.mp gKL_b _ (xf3_mem _ _ _ _ hg)
    simp only [decide_eq_true_eq, gON_D ho, gON_D hcn] at h3
    refine va_newq hx hb hown (hts _ h3) (hN.2.1.1 _ hao) hK hP hD hS hA (N' := N) (by rw [Int32.lt_iff_toInt_lt, hx9]; simp) (clamp_int hx9) (by omega) h1 h2 hd (fun q cA H1 hK1 hP1 hD1 hS1 => ?_)
    obtain ⟨_, _, -, -, -, e1⟩ := (hK1.2 6 _ rfl).2
    obtain ⟨_, _, -, -, -, e2⟩ := (hK.2 t0 _ ht).2
    have e3 : cA = D.2.2.1 t0 := Option.some.inj (e1.symm.trans e2)
    subst e3
    exact kk q p e s m args below meth c H1 locs ls F hS1 (by simpa using hP1) (by simpa using hD1) hl
  · cases hg
end XN

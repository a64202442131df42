/-! OWN FRAME 11: Math, arraycopy, Arrays.copyOf -/
theorem gMA : (Cond.static Lib.Math.max.name ∈ gTB ∧ Cond.static Lib.Math.min.name ∈ gTB ∧ Cond.static Lib.Math.abs.name ∈ gTB) ∧ Cond.initialized "java/lang/Math" ∈ gTB ∧ Cond.code Lib.Math.max.name Lib.Math.max.code 2 (some .int) ∈ gTB ∧ Cond.code Lib.Math.min.name Lib.Math.min.code 2 (some .int) ∈ gTB ∧ Cond.code Lib.Math.abs.name Lib.Math.abs.code 1 (some .int) ∈ gTB := by decide +kernel
theorem gAY : Cond.native arraycopyName ∈ gTB ∧ Cond.static arraycopyName ∈ gTB ∧ Cond.initialized "java/lang/System" ∈ gTB := by decide +kernel
section XJ
variable {l : Launch} {M : xM} {D : xD} {R : Room} {A : Nat → Prop} {Q : Array Value → State → Outcome → State → Prop} {mc ms pc k n : Nat} {lv : List (Nat × Value)} {rest : List Value} {S : List va_W}
theorem Ex.mmax {ix : Nat} {x y : Int32} (hf : xfe M.2.2.2.2.2 pc = some (.invokestatic ix)) (hlk : Cond.methodLink M.2.1.cls ix Lib.Math.max.name ∈ gTB) (hR : 1 ≤ R.frames) (hR2 : (rest.map fun v => v.category).sum + 13 ≤ R.locals) (h1 : k ≤ R.cells) (h2 : n ≤ R.slots) (kk : Ex l M D R A Q mc ms (pc + 3) lv (.int (if x < y then y else x) :: rest) S k n) : Ex l M D R A Q mc ms pc lv (.int y :: .int x :: rest) S k n := by
  intro p e s m args below meth c H locs ls F hS hP hD hl
  obtain ⟨ho, hx, hb, hml, -, hown, hts, -, hin, hK, hN, hX, hA, htb⟩ := id F
  have hd := htb _ (xfe_mem _ _ _ hf)
  exact va_mmax hx hb (hml.trans hl.1.symm) hown (hts _ hlk) (hts _ gMA.1.1) (hts _ gMA.2.1) (hts _ gMA.2.2.1) hR hR2 h1 h2 hd (kk p e s m args below meth c H locs ls F hS hP hD hl)
theorem Ex.mmin {ix : Nat} {x y : Int32} (hf : xfe M.2.2.2.2.2 pc = some (.invokestatic ix)) (hlk : Cond.methodLink M.2.1.cls ix Lib.Math.min.name ∈ gTB) (hR : 1 ≤ R.frames) (hR2 : (rest.map fun v => v.category).sum + 13 ≤ R.locals) (h1 : k ≤ R.cells) (h2 : n ≤ R.slots) (kk : Ex l M D R A Q mc ms (pc + 3) lv (.int (if y < x then y else x) :: rest) S k n) : Ex l M D R A Q mc ms pc lv (.int y :: .int x :: rest) S k n := by
  intro p e s m args below meth c H locs ls F hS hP hD hl
  obtain ⟨ho, hx, hb, hml, -, hown, hts, -, hin, hK, hN, hX, hA, htb⟩ := id F
  have hd := htb _ (xfe_mem _ _ _ hf)
  exact va_mmin hx hb (hml.trans hl.1.symm) hown (hts _ hlk) (hts _ gMA.1.2.1) (hts _ gMA.2.1) (hts _ gMA.2.2.2.1) hR hR2 h1 h2 hd (kk p e s m args below meth c H locs ls F hS hP hD hl)
theorem Ex.mabs {ix : Nat} {x : Int32} (hf : xfe M.2.2.2.2.2 pc = some (.invokestatic ix)) (hlk : Cond.methodLink M.2.1.cls ix Lib.Math.abs.name ∈ gTB) (hR : 1 ≤ R.frames) (hR2 : (rest.map fun v => v.category).sum + 13 ≤ R.locals) (h1 : k ≤ R.cells) (h2 : n ≤ R.slots) (kk : Ex l M D R A Q mc ms (pc + 3) lv (.int (if 0 ≤ x then x else 0 - x) :: rest) S k n) : Ex l M D R A Q mc ms pc lv (.int x :: rest) S k n := by
  intro p e s m args below meth c H locs ls F hS hP hD hl
  obtain ⟨ho, hx, hb, hml, -, hown, hts, -, hin, hK, hN, hX, hA, htb⟩ := id F
  have hd := htb _ (xfe_mem _ _ _ hf)
  exact va_mabs hx hb (hml.trans hl.1.symm) hown (hts _ hlk) (hts _ gMA.1.2.2) (hts _ gMA.2.1) (hts _ gMA.2.2.2.2) hR hR2 h1 h2 hd (kk p e s m args below meth c H locs ls F hS hP hD hl)
/-- System.arraycopy(src, 0, dst, 0, c) of two int arrays -/
theorem Ex.acp {ix : Nat} (i0 j0 i1 j1 cn : Nat) {a0 a1 n0 n1 : Nat} {f g : Nat → Int32} {C0 C1 : va_W} {x : Int32} (hf : xfe M.2.2.2.2.2 pc = some (.invokestatic ix)) (hlk : Cond.methodLink M.2.1.cls ix arraycopyName ∈ gTB) (hi0 : S[i0]? = some C0) (hj0 : C0[j0]? = some (a0, .inl (D.2.2.1 0, n0, .inl f))) (hi1 : S[i1]? = some C1) (hj1 : C1[j1]? = some (a1, .inl (D.2.2.1 0, n1, .inl g)))
    (hx9 : x.toInt = cn) (h0 : cn ≤ n0) (h1 : cn ≤ n1) (hR : 1 ≤ R.frames) (hR2 : (rest.map fun v => v.category).sum + 40 ≤ R.locals) (kk : Ex l M D R A Q mc ms (pc + 3) lv rest (S.set i1 (C1.set j1 (a1, .inl (D.2.2.1 0, n1, .inl (va_cpy f g 0 0 cn))))) k n) : Ex l M D R A Q mc ms pc lv (.int x :: .int (Int32.ofInt 0) :: .ref a1 :: .int (Int32.ofInt 0) :: .ref a0 :: rest) S k n := by
  intro p e s m args below meth c H locs ls F hS hP hD hl
  obtain ⟨ho, hx, hb, hml, -, hown, hts, -, hin, hK, hN, hX, hA, htb⟩ := id F
  have hd := htb _ (xfe_mem _ _ _ hf)
  obtain ⟨q0, hq0, -⟩ := fl_pos S i0 j0 C0 _ hi0 hj0
  obtain ⟨q1, hq1, hset⟩ := fl_pos S i1 j1 C1 _ hi1 hj1
  have hz : (Int32.ofInt 0).toNatClampNeg = 0 := by decide
  refine va_copyi hx hb (hml.trans hl.1.symm) hown (hts _ hlk) (hts _ gAY.1) (hts _ gAY.2.1) (hts _ gAY.2.2) hK hP hD hS q0 q1 0 0 hq0 hq1 rfl rfl rfl (by decide) (by decide) (by rw [Int32.lt_iff_toInt_lt, hx9]; simp) (by rw [hz, clamp_int hx9]; omega) (by rw [hz, clamp_int hx9]; omega) (fun _ _ => rfl) hR ?_ hd (fun H1 locs1 hP1 hD1 hS1 => ?_)
  · have : nativeFrameWords "java/lang/System" "arraycopy" 5 + 11 ≤ 40 := by decide
    omega
  · rw [clamp_int hx9, hz, hset] at hP1 hD1
    exact kk p e s m args below meth c H1 locs1 ls F hS1 hP1 hD1 hl
end XJ
def tbCopy : xT := [(0, .iload_n 1), (1, .aload_n 0), (2, .arraylength), (3, .if_icmp .ne 11), (14, .iload_n 1), (15, .newarray .int), (17, .astore_n 2), (18, .aload_n 0), (19, .iconst 0), (20, .aload_n 2), (21, .iconst 0), (22, .aload_n 0), (23, .arraylength), (24, .iload_n 1), (25, .invokestatic 304), (28, .invokestatic 150), (31, .aload_n 2), (32, .areturn)]
abbrev mCopy : xM := (14, ⟨"java/util/Arrays", "copyOf", "([II)[I"⟩, prog_24_method_123_code, 3, some (.array .int), tbCopy)
theorem tkCopy : ∀ q ∈ tbCopy, decode prog_24_method_123_code q.1 = .ok (q.2, xlen q.2) := by decide +kernel
theorem lcCopy : LkS mCopy 2 := lcJAr_copyOf
theorem lk_copy_min : Cond.methodLink "java/util/Arrays" 304 Lib.Math.min.name ∈ gTB := gw 222 (by decide +kernel) rfl
theorem lk_copy_acp : Cond.methodLink "java/util/Arrays" 150 arraycopyName ∈ gTB := gw 225 (by decide +kernel) rfl
theorem Ex.aretA {l : Launch} {M : xM} {D : xD} {R : Room} {A : Nat → Prop} {mc ms pc k n : Nat} {lv : List (Nat × Value)} {S S' : List va_W} {v : Value} {ct : FieldType} {Q0 : Option Value → List va_W → Prop} (hf : xfe M.2.2.2.2.2 pc = some .areturn) (hr9 : M.2.2.2.2.1 = some (.array ct)) (hv : v = .null ∨ ∃ a, v = .ref a) (hk : k ≤ mc) (hn : n ≤ ms) (hS9 : S.flatten = S'.flatten) (hq : Q0 (some v) S') : Ex l M D R A (xQ D A Q0) mc ms pc lv [v] S k n := by
  intro p e s m args below meth c H locs ls F hS hP hD hl
  obtain ⟨ho, hx, hb, -, hr, hown, hts, hlocks, hin, hK, hN, hX, hA, htb⟩ := id F
  have hd := htb _ (xfe_mem _ _ _ hf)
  refine W.widen hk hn ?_
  rw [hS9] at hP hD
  exact W.x (W.aret hx hb (hr.trans hr9) (Or.inr ⟨_, rfl⟩) hv (fun t ht hW => ⟨⟨_, S', rfl, hq, by rw [ht]; exact hP, hD⟩, hS.F ht⟩) hS.2.2 hd)
/-- Arrays.copyOf to a greater length -/
theorem ct_copy {l : Launch} {D : xD} {R : Room} {a cap N : Nat} {f : Nat → Int32} (h1 : cap < N) (h2 : N ≤ 1000000) (hf : 1 ≤ R.frames) (hl : 40 ≤ R.locals) (hc : 1 ≤ R.cells) (hs : N ≤ R.slots) : Ct l mCopy D R [.ref a, .int (nI N)] [[(a, .inl (D.2.2.1 0, cap, .inl f))]] (fun v S => ∃ q, v = some (.ref q) ∧ S = [[(a, .inl (D.2.2.1 0, cap, .inl f))], [(q, .inl (D.2.2.1 0, N, .inl (va_cpy f (fun _ => 0) 0 0 cap)))]]) := by
  refine Ct.of rfl (by decide) tkCopy (Nat.le_of_ble_eq_true rfl) (fun A => ?_)
  refine Ex.p rfl ?_
  refine Ex.p rfl ?_
  refine Ex.alen 0 0 0 rfl rfl rfl rfl ?_
  refine Ex.br rfl (fun c1 => ?_) (fun c1 => ?_)
  · refine Ex.p rfl ?_
    refine Ex.newi (N := N) rfl (nI_toInt (by omega)) h2 (by omega) (by omega) (fun q => ?_)
    refine Ex.p rfl ?_
    refine Ex.p rfl ?_
    refine Ex.p rfl ?_
    refine Ex.p rfl ?_
    refine Ex.p rfl ?_
    refine Ex.p rfl ?_
    refine Ex.alen 0 0 0 rfl rfl rfl rfl ?_
    refine Ex.p rfl ?_
    refine Ex.mmin rfl lk_copy_min hf (by simp [Value.category]; omega) (by omega) (by omega) ?_
    rw [if_neg (by rw [Int32.lt_iff_toInt_lt, nI_toInt (by omega), nI_toInt (by simp; omega)]; simp; omega)]
    refine Ex.acp 0 0 1 0 cap rfl lk_copy_acp rfl rfl rfl rfl (nI_toInt (by omega)) (Nat.le_refl _) (by omega) hf (by simp; omega) ?_
    refine Ex.p rfl ?_
    exact Ex.aretA (S' := [[(a, .inl (D.2.2.1 0, cap, .inl f))], [(q, .inl (D.2.2.1 0, N, .inl (va_cpy f (fun _ => 0) 0 0 cap)))]]) rfl rfl (Or.inr ⟨_, rfl⟩) (by omega) (by omega) rfl ⟨q, rfl, rfl⟩
  · exact absurd (fun e => by have := (nI_eq (a := N) (b := cap) (by omega) (by omega)).mp e; omega) c1

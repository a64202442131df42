section XH2
variable {l : Launch} {M : xM} {D : xD} {R : Room} {A : Nat → Prop} {Q : Array Value → State → Outcome → State → Prop} {mc ms pc pc' k n : Nat} {lv lv' : List (Nat × Value)} {st st' : List Value} {S S' : List va_W} {C : va_W} {a : Nat} {ce : va_E}
theorem Ex.aal (i j jx t0 : Nat) {N : Nat} {f : Nat → Option Nat} {x : Int32} {cn : String} (ht : (gTY D)[t0]? = some (D.2.2.1 t0, .object cn)) (hi : S[i]? = some C) (hj : C[j]? = some (a, .inl (D.2.2.1 t0, N, .inr (.inr (.inr (.inr f)))))) (hf : xfe M.2.2.2.2.2 pc = some .aaload) (hx9 : x.toInt = jx) (hN9 : jx < N) (kk : Ex l M D R A Q mc ms (pc + 1) lv (va_rf (f jx) :: st) S k n) : Ex l M D R A Q mc ms pc lv (.int x :: .ref a :: st) S k n := by
  intro p e s m args below meth c H locs ls F hS hP hD hl
  obtain ⟨ho, hx, hb, -, -, hown, hts, -, hin, hK, hN, hX, hA, htb⟩ := id F
  have hd := htb _ (xfe_mem _ _ _ hf)
  obtain ⟨q0, hq0, -⟩ := fl_pos S i j C _ hi hj
  refine va_aldq hx hb hK hP q0 t0 hq0 ht (vp_in_int hx9 hN9) hd ?_
  rw [clamp_int hx9]
  exact kk p e s m args below meth c H locs ls F hS hP hD hl
theorem Ex.aas (i j jx t0 iv jv ci : Nat) {N v : Nat} {f : Nat → Option Nat} {x : Int32} {r : vw_C} {Cv : va_W} {vs : List Value} (hc : gCL[ci]? = some r) (ht : (gTY D)[t0]? = some (D.2.2.1 t0, .object r.1)) (hi : S[i]? = some C) (hj : C[j]? = some (a, .inl (D.2.2.1 t0, N, .inr (.inr (.inr (.inr f)))))) (hiv : S[iv]? = some Cv) (hjv : Cv[jv]? = some (v, .inr (ci, vs))) (hf : xfe M.2.2.2.2.2 pc = some .aastore) (hx9 : x.toInt = jx) (hN9 : jx < N)
    (kk : Ex l M D R A Q mc ms (pc + 1) lv st (S.set i (C.set j (a, .inl (D.2.2.1 t0, N, .inr (.inr (.inr (.inr (va_up f jx (some v))))))))) k n) : Ex l M D R A Q mc ms pc lv (.ref v :: .int x :: .ref a :: st) S k n := by
  intro p e s m args below meth c H locs ls F hS hP hD hl
  obtain ⟨ho, hx, hb, -, -, hown, hts, -, hin, hK, hN, hX, hA, htb⟩ := id F
  have hd := htb _ (xfe_mem _ _ _ hf)
  obtain ⟨q0, hq0, hset⟩ := fl_pos S i j C _ hi hj
  obtain ⟨qv, hqv, -⟩ := fl_pos S iv jv Cv _ hiv hjv
  refine va_astq hx hb hK hP hD hS q0 t0 qv ci hq0 ht hqv hc (vp_in_int hx9 hN9) hd (fun H1 locs1 hP1 hD1 hS1 => ?_)
  rw [clamp_int hx9, hset] at hP1 hD1
  exact kk p e s m args below meth c H1 locs1 ls F hS1 hP1 hD1 hl
theorem Ex.alen (i j t0 : Nat) {x : vp_A} {ty : FieldType} (ht : (gTY D)[t0]? = some (D.2.2.1 t0, ty)) (hi : S[i]? = some C) (hj : C[j]? = some (a, .inl (D.2.2.1 t0, x))) (hf : xfe M.2.2.2.2.2 pc = some .arraylength) (kk : Ex l M D R A Q mc ms (pc + 1) lv (.int (nI x.1) :: st) S k n) : Ex l M D R A Q mc ms pc lv (.ref a :: st) S k n := by
  intro p e s m args below meth c H locs ls F hS hP hD hl
  obtain ⟨ho, hx, hb, -, -, hown, hts, -, hin, hK, hN, hX, hA, htb⟩ := id F
  have hd := htb _ (xfe_mem _ _ _ hf)
  obtain ⟨q0, hq0, -⟩ := fl_pos S i j C _ hi hj
  exact va_alen hx hb hK hP q0 t0 hq0 ht rfl hd (kk p e s m args below meth c H locs ls F hS hP hD hl)
theorem Ex.idiv {x y : Int32} (hf : xfe M.2.2.2.2.2 pc = some .idiv) (hne : ¬ y = 0) (kk : Ex l M D R A Q mc ms (pc + 1) lv (.int (x / y) :: st) S k n) : Ex l M D R A Q mc ms pc lv (.int y :: .int x :: st) S k n := by
  intro p e s m args below meth c H locs ls F hS hP hD hl
  obtain ⟨ho, hx, hb, -, -, hown, hts, -, hin, hK, hN, hX, hA, htb⟩ := id F
  have hd := htb _ (xfe_mem _ _ _ hf)
  exact lv_idiv hx hb hd hne (kk p e s m args below meth c H locs ls F hS hP hD hl)
theorem Ex.irem {x y : Int32} (hf : xfe M.2.2.2.2.2 pc = some .irem) (hne : ¬ y = 0) (kk : Ex l M D R A Q mc ms (pc + 1) lv (.int (x - x / y * y) :: st) S k n) : Ex l M D R A Q mc ms pc lv (.int y :: .int x :: st) S k n := by
  intro p e s m args below meth c H locs ls F hS hP hD hl
  obtain ⟨ho, hx, hb, -, -, hown, hts, -, hin, hK, hN, hX, hA, htb⟩ := id F
  have hd := htb _ (xfe_mem _ _ _ hf)
  exact lv_irem hx hb hd hne (kk p e s m args below meth c H locs ls F hS hP hD hl)
theorem Ex.ldiv {x y : Int64} (hf : xfe M.2.2.2.2.2 pc = some .ldiv) (hne : ¬ y = 0) (kk : Ex l M D R A Q mc ms (pc + 1) lv (.long (x / y) :: st) S k n) : Ex l M D R A Q mc ms pc lv (.long y :: .long x :: st) S k n := by
  intro p e s m args below meth c H locs ls F hS hP hD hl
  obtain ⟨ho, hx, hb, -, -, hown, hts, -, hin, hK, hN, hX, hA, htb⟩ := id F
  have hd := htb _ (xfe_mem _ _ _ hf)
  exact lv_ldiv hx hb hd hne (kk p e s m args below meth c H locs ls F hS hP hD hl)
theorem Ex.lrem {x y : Int64} (hf : xfe M.2.2.2.2.2 pc = some .lrem) (hne : ¬ y = 0) (kk : Ex l M D R A Q mc ms (pc + 1) lv (.long (x - x / y * y) :: st) S k n) : Ex l M D R A Q mc ms pc lv (.long y :: .long x :: st) S k n := by
  intro p e s m args below meth c H locs ls F hS hP hD hl
  obtain ⟨ho, hx, hb, -, -, hown, hts, -, hin, hK, hN, hX, hA, htb⟩ := id F
  have hd := htb _ (xfe_mem _ _ _ hf)
  exact lv_lrem hx hb hd hne (kk p e s m args below meth c H locs ls F hS hP hD hl)
theorem Ex.nnR {off : Int}{x : Nat} (hf : xfe M.2.2.2.2.2 pc = some (.ifnonnull off)) {t : Nat} (ht : (pc : Int) + off = (t : Int)) (kk : Ex l M D R A Q mc ms t lv st S k n) : Ex l M D R A Q mc ms pc lv (.ref x :: st) S k n := by
  intro p e s m args below meth c H locs ls F hS hP hD hl
  obtain ⟨ho, hx, hb, -, -, hown, hts, -, hin, hK, hN, hX, hA, htb⟩ := id F
  have hd := htb _ (xfe_mem _ _ _ hf)
  exact lv_ifnonnull hx hb hd ht (kk p e s m args below meth c H locs ls F hS hP hD hl)
theorem Ex.nuR {off : Int}{x : Nat} (hf : xfe M.2.2.2.2.2 pc = some (.ifnull off)) (kk : Ex l M D R A Q mc ms (pc + 3) lv st S k n) : Ex l M D R A Q mc ms pc lv (.ref x :: st) S k n := by
  intro p e s m args below meth c H locs ls F hS hP hD hl
  obtain ⟨ho, hx, hb, -, -, hown, hts, -, hin, hK, hN, hX, hA, htb⟩ := id F
  have hd := htb _ (xfe_mem _ _ _ hf)
  exact lv_ifnull hx hb hd (kk p e s m args below meth c H locs ls F hS hP hD hl)
theorem Ex.nuN {off : Int} (hf : xfe M.2.2.2.2.2 pc = some (.ifnull off)) {t : Nat} (ht : (pc : Int) + off = (t : Int)) (kk : Ex l M D R A Q mc ms t lv st S k n) : Ex l M D R A Q mc ms pc lv (.null :: st) S k n := by
  intro p e s m args below meth c H locs ls F hS hP hD hl
  obtain ⟨ho, hx, hb, -, -, hown, hts, -, hin, hK, hN, hX, hA, htb⟩ := id F
  have hd := htb _ (xfe_mem _ _ _ hf)
  exact lv_ifnullN hx hb hd ht (kk p e s m args below meth c H locs ls F hS hP hD hl)
theorem Ex.nnN {off : Int} (hf : xfe M.2.2.2.2.2 pc = some (.ifnonnull off)) (kk : Ex l M D R A Q mc ms (pc + 3) lv st S k n) : Ex l M D R A Q mc ms pc lv (.null :: st) S k n := by
  intro p e s m args below meth c H locs ls F hS hP hD hl
  obtain ⟨ho, hx, hb, -, -, hown, hts, -, hin, hK, hN, hX, hA, htb⟩ := id F
  have hd := htb _ (xfe_mem _ _ _ hf)
  exact lv_ifnonnullN hx hb hd (kk p e s m args below meth c H locs ls F hS hP hD hl)
end XH2

section XH2
variable {l : Launch} {M : xM} {D : xD} {R : Room} {A : Nat → Prop} {Q : Array Value → State → Outcome → State → Prop} {mc ms pc pc' k n : Nat} {lv lv' : List (Nat × Value)} {st st' : List Value} {S S' : List va_W} {C : va_W} {a : Nat} {ce : va_E}
theorem Ex.ial (i j jx : Nat) {N : Nat} {f : Nat → Int32} {x : Int32} (hi : S[i]? = some C) (hj : C[j]? = some (a, .inl (D.2.2.1 0, N, .inl f))) (hf : xfe M.2.2.2.2.2 pc = some .iaload) (hx9 : x.toInt = jx) (hN9 : jx < N) (kk : Ex l M D R A Q mc ms (pc + 1) lv (.int (f jx) :: st) S k n) : Ex l M D R A Q mc ms pc lv (.int x :: .ref a :: st) S k n := by
  intro p e s m args below meth c H locs ls F hS hP hD hl
  obtain ⟨ho, hx, hb, -, -, hown, hts, -, hin, hK, hN, hX, hA, htb⟩ := id F
  have hd := htb _ (xfe_mem _ _ _ hf)
  obtain ⟨q0, hq0, -⟩ := fl_pos S i j C _ hi hj
  refine va_iald hx hb hK hP q0 0 hq0 rfl (vp_in_int hx9 hN9) hd ?_
  rw [clamp_int hx9]
  exact kk p e s m args below meth c H locs ls F hS hP hD hl
theorem Ex.zal (i j jx : Nat) {N : Nat} {f : Nat → Int32} {x : Int32} (hi : S[i]? = some C) (hj : C[j]? = some (a, .inl (D.2.2.1 1, N, .inl f))) (hf : xfe M.2.2.2.2.2 pc = some .baload) (hx9 : x.toInt = jx) (hN9 : jx < N) (kk : Ex l M D R A Q mc ms (pc + 1) lv (.int (f jx) :: st) S k n) : Ex l M D R A Q mc ms pc lv (.int x :: .ref a :: st) S k n := by
  intro p e s m args below meth c H locs ls F hS hP hD hl
  obtain ⟨ho, hx, hb, -, -, hown, hts, -, hin, hK, hN, hX, hA, htb⟩ := id F
  have hd := htb _ (xfe_mem _ _ _ hf)
  obtain ⟨q0, hq0, -⟩ := fl_pos S i j C _ hi hj
  refine va_zald hx hb hK hP q0 1 hq0 rfl (vp_in_int hx9 hN9) hd ?_
  rw [clamp_int hx9]
  exact kk p e s m args below meth c H locs ls F hS hP hD hl
theorem Ex.lal (i j jx : Nat) {N : Nat} {f : Nat → Int64} {x : Int32} (hi : S[i]? = some C) (hj : C[j]? = some (a, .inl (D.2.2.1 2, N, .inr (.inl f)))) (hf : xfe M.2.2.2.2.2 pc = some .laload) (hx9 : x.toInt = jx) (hN9 : jx < N) (kk : Ex l M D R A Q mc ms (pc + 1) lv (.long (f jx) :: st) S k n) : Ex l M D R A Q mc ms pc lv (.int x :: .ref a :: st) S k n := by
  intro p e s m args below meth c H locs ls F hS hP hD hl
  obtain ⟨ho, hx, hb, -, -, hown, hts, -, hin, hK, hN, hX, hA, htb⟩ := id F
  have hd := htb _ (xfe_mem _ _ _ hf)
  obtain ⟨q0, hq0, -⟩ := fl_pos S i j C _ hi hj
  refine va_lald hx hb hK hP q0 2 hq0 rfl (vp_in_int hx9 hN9) hd ?_
  rw [clamp_int hx9]
  exact kk p e s m args below meth c H locs ls F hS hP hD hl
theorem Ex.ias (i j jx : Nat) {N : Nat} {f : Nat → Int32} {x : Int32} {y : Int32} (hi : S[i]? = some C) (hj : C[j]? = some (a, .inl (D.2.2.1 0, N, .inl f))) (hf : xfe M.2.2.2.2.2 pc = some .iastore) (hx9 : x.toInt = jx) (hN9 : jx < N) (kk : Ex l M D R A Q mc ms (pc + 1) lv st (S.set i (C.set j (a, .inl (D.2.2.1 0, N, .inl (upd f jx y))))) k n) : Ex l M D R A Q mc ms pc lv (.int y :: .int x :: .ref a :: st) S k n := by
  intro p e s m args below meth c H locs ls F hS hP hD hl
  obtain ⟨ho, hx, hb, -, -, hown, hts, -, hin, hK, hN, hX, hA, htb⟩ := id F
  have hd := htb _ (xfe_mem _ _ _ hf)
  obtain ⟨q0, hq0, hset⟩ := fl_pos S i j C _ hi hj
  refine va_iast hx hb hK hP hD hS q0 0 hq0 rfl (vp_in_int hx9 hN9) hd (fun H1 locs1 hP1 hD1 hS1 => ?_)
  rw [clamp_int hx9, hset] at hP1 hD1
  exact kk p e s m args below meth c H1 locs1 ls F hS1 hP1 hD1 hl
theorem Ex.las (i j jx : Nat) {N : Nat} {f : Nat → Int64} {x : Int32} {y : Int64} (hi : S[i]? = some C) (hj : C[j]? = some (a, .inl (D.2.2.1 2, N, .inr (.inl f)))) (hf : xfe M.2.2.2.2.2 pc = some .lastore) (hx9 : x.toInt = jx) (hN9 : jx < N) (kk : Ex l M D R A Q mc ms (pc + 1) lv st (S.set i (C.set j (a, .inl (D.2.2.1 2, N, .inr (.inl (vp_updL f jx y)))))) k n) : Ex l M D R A Q mc ms pc lv (.long y :: .int x :: .ref a :: st) S k n := by
  intro p e s m args below meth c H locs ls F hS hP hD hl
  obtain ⟨ho, hx, hb, -, -, hown, hts, -, hin, hK, hN, hX, hA, htb⟩ := id F
  have hd := htb _ (xfe_mem _ _ _ hf)
  obtain ⟨q0, hq0, hset⟩ := fl_pos S i j C _ hi hj
  refine va_last hx hb hK hP hD hS q0 2 hq0 rfl (vp_in_int hx9 hN9) hd (fun H1 locs1 hP1 hD1 hS1 => ?_)
  rw [clamp_int hx9, hset] at hP1 hD1
  exact kk p e s m args below meth c H1 locs1 ls F hS1 hP1 hD1 hl
theorem Ex.zas (i j jx : Nat) {N : Nat} {f : Nat → Int32} {x : Int32} {y : Int32} (hi : S[i]? = some C) (hj : C[j]? = some (a, .inl (D.2.2.1 1, N, .inl f))) (hf : xfe M.2.2.2.2.2 pc = some .bastore) (hx9 : x.toInt = jx) (hN9 : jx < N) (hy9 : y = 0 ∨ y = 1) (kk : Ex l M D R A Q mc ms (pc + 1) lv st (S.set i (C.set j (a, .inl (D.2.2.1 1, N, .inl (upd f jx y))))) k n) : Ex l M D R A Q mc ms pc lv (.int y :: .int x :: .ref a :: st) S k n := by
  intro p e s m args below meth c H locs ls F hS hP hD hl
  obtain ⟨ho, hx, hb, -, -, hown, hts, -, hin, hK, hN, hX, hA, htb⟩ := id F
  have hd := htb _ (xfe_mem _ _ _ hf)
  obtain ⟨q0, hq0, hset⟩ := fl_pos S i j C _ hi hj
  refine va_zast hx hb hK hP hD hS q0 1 hq0 rfl (vp_in_int hx9 hN9) hd (fun H1 locs1 hP1 hD1 hS1 => ?_)
  rw [clamp_int hx9, (show vp_nar .boolean y = y by rcases hy9 with rfl | rfl <;> decide), hset] at hP1 hD1
  exact kk p e s m args below meth c H1 locs1 ls F hS1 hP1 hD1 hl
end XH2

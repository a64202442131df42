/-! OWN FRAME 5: more rows over cells -/
section XH2
variable {l : Launch} {M : xM} {D : xD} {R : Room} {A : Nat → Prop} {Q : Array Value → State → Outcome → State → Prop} {mc ms pc pc' k n : Nat} {lv lv' : List (Nat × Value)} {st st' : List Value} {S S' : List va_W} {C : va_W} {a : Nat} {ce : va_E}
/-- putfield: which field (class, place, kind) -/
def xpf (M : xM) (pc : Nat) : Option (Nat × Nat × Nat) := match xfe M.2.2.2.2.2 pc with
  | some (.putfield ix) => xfd gFL M.1 ix
  | _ => none
def xty (ci fk : Nat) : FieldType := match gCL[ci]? with
  | some r => gty r fk
  | none => .int
theorem gNM : gON = gCL.map (fun r => r.1) ++ gON.drop 13 := rfl
theorem gNM_at {i : Nat} {r : vw_C} (h : gCL[i]? = some r) : gON[i]? = some r.1 := by
  have hl := (List.getElem?_eq_some_iff.mp h).1
  rw [gNM, List.getElem?_append_left (by rw [List.length_map]; exact hl), List.getElem?_map, h]
  rfl
theorem Ex.pf (i j : Nat) {ci fk : Nat} {fs : List Value} {v : Value} (hi : S[i]? = some C) (hj : C[j]? = some (a, .inr (ci, fs))) (hg : xpf M pc = some (ci, fk, 0)) (hl9 : Nat.blt fk fs.length = true) (hn : narrow (xty ci fk) v = v) (hft : fits (xty ci fk) v = true) (kk : Ex l M D R A Q mc ms (pc + 3) lv st (S.set i (C.set j (a, .inr (ci, fs.set fk v)))) k n) : Ex l M D R A Q mc ms pc lv (v :: .ref a :: st) S k n := by
  intro p e s m args below meth c H locs ls F hS hP hD hl
  obtain ⟨ho, hx, hb, -, -, hown, hts, -, hin, hK, hN, hX, hA, htb⟩ := id F
  obtain ⟨q0, hq0, hset⟩ := fl_pos S i j C _ hi hj
  unfold xpf at hg
  split at hg
  · rename_i ix hf
    have hd := htb _ (xfe_mem _ _ _ hf)
    have hok := gFL_ok (xfd_mem _ _ _ _ hg)
    unfold gFc at hok
    split at hok
    · rename_i own r e1 e2
      have heq : own = M.2.1.cls := Option.some.inj (e1.symm.trans ho)
      subst heq
      obtain ⟨h1, h2, h3⟩ := hok
      have hr := gCL_ok r (List.mem_of_getElem? e2)
      have hty : xty ci fk = gty r fk := by unfold xty; rw [show gCL[ci]? = some r from e2]
      rw [hty] at hn hft
      refine va_put hx hb hts hr.1 (gty r) hr.2.1 hr.2.2.1 hown hK hP hD hS q0 hq0 e2 _ h1 (hts _ h3.2) (fun x hx => hx) h3.1 (hr.2.1 _ h1) hn hft (Nat.blt_eq.mp hl9) hd (fun H1 locs1 hP1 hD1 hS1 => ?_)
      rw [hset] at hP1 hD1
      exact kk p e s m args below meth c H1 locs1 ls F hS1 hP1 hD1 hl
    · cases hok
  · cases hg
theorem Ex.pfF (i j : Nat) {ci fk : Nat} {fs : List Value} {v : Value} (hi : S[i]? = some C) (hj : C[j]? = some (a, .inr (ci, fs))) (hg : xpf M pc = some (ci, fk, 1)) (hin0 : M.2.1.name = "<init>") (hci : (gCL[ci]?).map (fun r => (r.2.1 fk).1) = some M.2.1.cls) (hl9 : Nat.blt fk fs.length = true) (hn : narrow (xty ci fk) v = v) (hft : fits (xty ci fk) v = true) (kk : Ex l M D R A Q mc ms (pc + 3) lv st (S.set i (C.set j (a, .inr (ci, fs.set fk v)))) k n) : Ex l M D R A Q mc ms pc lv (v :: .ref a :: st) S k n := by
  intro p e s m args below meth c H locs ls F hS hP hD hl
  obtain ⟨ho, hx, hb, -, -, hown, hts, -, hin, hK, hN, hX, hA, htb⟩ := id F
  obtain ⟨q0, hq0, hset⟩ := fl_pos S i j C _ hi hj
  unfold xpf at hg
  split at hg
  · rename_i ix hf
    have hd := htb _ (xfe_mem _ _ _ hf)
    have hok := gFL_ok (xfd_mem _ _ _ _ hg)
    unfold gFc at hok
    split at hok
    · rename_i own r e1 e2
      have heq : own = M.2.1.cls := Option.some.inj (e1.symm.trans ho)
      subst heq
      obtain ⟨h1, h2, h3⟩ := hok
      have hr := gCL_ok r (List.mem_of_getElem? e2)
      have hty : xty ci fk = gty r fk := by unfold xty; rw [show gCL[ci]? = some r from e2]
      rw [hty] at hn hft
      have hdecl : (r.2.1 fk).1 = M.2.1.cls := by
        rw [show gCL[ci]? = some r from e2] at hci
        exact Option.some.inj hci
      refine va_putF hx hb hts hr.1 (gty r) hr.2.1 hr.2.2.1 hown hK hP hD hS q0 hq0 e2 _ h1 (hts _ h3.2) (fun x hx => hx) h3.1 (hin.1.trans hin0) hdecl (hr.2.1 _ h1) hn hft (Nat.blt_eq.mp hl9) hd (fun H1 locs1 hP1 hD1 hS1 => ?_)
      rw [hset] at hP1 hD1
      exact kk p e s m args below meth c H1 locs1 ls F hS1 hP1 hD1 hl
    · cases hok
  · cases hg
end XH2

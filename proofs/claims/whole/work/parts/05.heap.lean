/-! OWN FRAME 4: rows that read and write cells -/
def xfd : List (Nat × Nat × Nat × Nat × Nat) → Nat → Nat → Option (Nat × Nat × Nat)
  | [], _, _ => none
  | q :: r, a, b => match Nat.beq q.1 a && Nat.beq q.2.1 b with
    | true => some q.2.2
    | false => xfd r a b
theorem xfd_mem : ∀ (t : List (Nat × Nat × Nat × Nat × Nat)) (a b : Nat) (r : Nat × Nat × Nat), xfd t a b = some r → (a, b, r) ∈ t
  | [], _, _, _, h => by cases h
  | q :: t, a, b, r, h => by
    unfold xfd at h
    split at h
    · rename_i hq
      cases h
      rw [Bool.and_eq_true] at hq
      have h1 := Nat.eq_of_beq_eq_true hq.1
      have h2 := Nat.eq_of_beq_eq_true hq.2
      subst h1; subst h2
      exact List.mem_cons_self
    · exact List.mem_cons_of_mem _ (xfd_mem t a b r h)
def gty (r : vw_C) (k : Nat) : FieldType := (parseFieldDescriptor (r.2.1 k).2.2.1).getD .int
def gFc (q : Nat × Nat × Nat × Nat × Nat) : Prop := match gON[q.1]?, gCL[q.2.2.1]? with
  | some own, some r => q.2.2.2.1 < r.2.2 ∧ True ∧ (match q.2.2.2.2 with
    | 0 => (r.2.1 q.2.2.2.1).2.2.2 = false ∧ Cond.fieldLink own q.2.1 (r.2.1 q.2.2.2.1).1 (r.2.1 q.2.2.2.1).2.1 (r.2.1 q.2.2.2.1).2.2.1 ∈ gTB
    | 1 => (r.2.1 q.2.2.2.1).2.2.2 = true ∧ Cond.fieldLink own q.2.1 (r.2.1 q.2.2.2.1).1 (r.2.1 q.2.2.2.1).2.1 (r.2.1 q.2.2.2.1).2.2.1 ∈ gTB
    | _ => Cond.fieldLinkNest own q.2.1 (r.2.1 q.2.2.2.1).1 (r.2.1 q.2.2.2.1).2.1 (r.2.1 q.2.2.2.1).2.2.1 "DrillArchive" ∈ gNW)
  | _, _ => False
def gCc (r : vw_C) : Prop := (∀ w ∈ u_ws r.1 r.2.1 r.2.2, w ∈ gTB) ∧ (∀ k, k < r.2.2 → parseFieldDescriptor (r.2.1 k).2.2.1 = some (gty r k)) ∧ (∀ a, a < r.2.2 → ∀ b, b < r.2.2 → a ≠ b → (r.2.1 a).2.1 ≠ (r.2.1 b).2.1) ∧ Cond.instantiable r.1 r.2.2 ∈ gTB ∧ Cond.initialized r.1 ∈ gTB
theorem gCL_ok : ∀ r ∈ gCL, gCc r := by
  unfold gCc
  decide +kernel
def gFb (q : Nat × Nat × Nat × Nat × Nat) : Bool := match gON[q.1]?, gCL[q.2.2.1]? with
  | some own, some r => Nat.blt q.2.2.2.1 r.2.2 && (match q.2.2.2.2 with
    | 0 => decide ((r.2.1 q.2.2.2.1).2.2.2 = false) && decide (Cond.fieldLink own q.2.1 (r.2.1 q.2.2.2.1).1 (r.2.1 q.2.2.2.1).2.1 (r.2.1 q.2.2.2.1).2.2.1 ∈ gTB)
    | 1 => decide ((r.2.1 q.2.2.2.1).2.2.2 = true) && decide (Cond.fieldLink own q.2.1 (r.2.1 q.2.2.2.1).1 (r.2.1 q.2.2.2.1).2.1 (r.2.1 q.2.2.2.1).2.2.1 ∈ gTB)
    | _ => decide (Cond.fieldLinkNest own q.2.1 (r.2.1 q.2.2.2.1).1 (r.2.1 q.2.2.2.1).2.1 (r.2.1 q.2.2.2.1).2.2.1 "DrillArchive" ∈ gNW))
  | _, _ => false
theorem gFL_b : gFL.all gFb = true := by decide +kernel
theorem gFL_ok {q : Nat × Nat × Nat × Nat × Nat} (h : q ∈ gFL) : gFc q := by
  have h1 := List.all_eq_true.mp gFL_b q h
  unfold gFb at h1
  unfold gFc
  split at h1
  · rename_i own r e1 e2
    simp only [Bool.and_eq_true, decide_eq_true_eq, Nat.blt_eq] at h1
    obtain ⟨a1, a3⟩ := h1
    refine ⟨a1, trivial, ?_⟩
    split at a3 <;> simp_all
  · cases h1
/-- a place of a segment is a place of the whole -/
theorem fl_pos : ∀ (S : List va_W) (i j : Nat) (C : va_W) (x : Nat × va_E), S[i]? = some C → C[j]? = some x → ∃ q0 : Nat, S.flatten[q0]? = some x ∧ ∀ y, S.flatten.set q0 y = (S.set i (C.set j y)).flatten
  | [], i, j, C, x, h, _ => by simp at h
  | B :: S, 0, j, C, x, h, hx => by
    simp only [List.getElem?_cons_zero, Option.some.injEq] at h
    subst h
    have hj : j < B.length := (List.getElem?_eq_some_iff.mp hx).1
    refine ⟨j, ?_, fun y => ?_⟩
    · rw [List.flatten_cons, List.getElem?_append_left hj, hx]
    · rw [List.flatten_cons, List.set_append_left _ _ hj, List.set_cons_zero, List.flatten_cons]
  | B :: S, i + 1, j, C, x, h, hx => by
    simp only [List.getElem?_cons_succ] at h
    obtain ⟨q0, e1, e2⟩ := fl_pos S i j C x h hx
    refine ⟨B.length + q0, ?_, fun y => ?_⟩
    · rw [List.flatten_cons, List.getElem?_append_right (by omega)]
      simpa using e1
    · rw [List.flatten_cons, List.set_append_right _ _ (by omega), List.set_cons_succ, List.flatten_cons, ← e2 y]
      simp
theorem vp_in_int {x : Int32} {j N : Nat} (hx : x.toInt = j) (hj : j < N) : vp_in x N := vp_in_iff.mpr ⟨by omega, by omega⟩
theorem clamp_int {x : Int32} {j : Nat} (hx : x.toInt = j) : x.toNatClampNeg = j := by
  show x.toInt.toNat = j
  rw [hx]
  exact Int.toNat_natCast j
section XH
variable {l : Launch} {M : xM} {D : xD} {R : Room} {A : Nat → Prop} {Q : Array Value → State → Outcome → State → Prop} {mc ms pc pc' k n : Nat} {lv lv' : List (Nat × Value)} {st st' : List Value} {S S' : List va_W} {C : va_W} {a : Nat} {ce : va_E}
def xgf (M : xM) (pc : Nat) (ce : va_E) : Option Value := match xfe M.2.2.2.2.2 pc with
  | some (.getfield ix) => match xfd gFL M.1 ix with
    | some (ci, fk, _) => match ce with
      | .inr (cj, fs) => match Nat.beq ci cj with
        | true => fs[fk]?
        | false => none
      | _ => none
    | none => none
  | _ => none
theorem Ex.gf (i j : Nat) {v : Value} (hi : S[i]? = some C) (hj : C[j]? = some (a, ce)) (hg : xgf M pc ce = some v) (kk : Ex l M D R A Q mc ms (pc + 3) lv (v :: st) S k n) : Ex l M D R A Q mc ms pc lv (.ref a :: st) S k n := by
  intro p e s m args below meth c H locs ls F hS hP hD hl
  obtain ⟨ho, hx, hb, -, -, hown, hts, -, -, hK, hN, -, -, htb⟩ := id F
  obtain ⟨q0, hq0, -⟩ := fl_pos S i j C _ hi hj
  have kk' := kk p e s m args below meth c H locs ls F hS hP hD hl
  unfold xgf at hg
  split at hg
  · rename_i ix hf
    have hd := htb _ (xfe_mem _ _ _ hf)
    split at hg
    · rename_i ci fk kd hfd
      split at hg
      · rename_i cj fs
        split at hg
        · rename_i hb2
          have hcc := Nat.eq_of_beq_eq_true hb2
          subst hcc
          have hok := gFL_ok (xfd_mem _ _ _ _ hfd)
          unfold gFc at hok
          split at hok
          · rename_i own r e1 e2
            have heq : own = M.2.1.cls := Option.some.inj (e1.symm.trans ho)
            subst heq
            obtain ⟨h1, h2, h3⟩ := hok
            have hr := gCL_ok r (List.mem_of_getElem? e2)
            split at h3
            · exact va_get hx hb hts hr.1 hown hK hP q0 hq0 e2 _ h1 (hts _ h3.2) (fun x hx => hx) hg hd kk'
            · exact va_get hx hb hts hr.1 hown hK hP q0 hq0 e2 _ h1 (hts _ h3.2) (fun x hx => hx) hg hd kk'
            · exact va_getN hx hb hts hr.1 hown hK hP q0 hq0 e2 _ h1 (va_Nw.use rfl (hN.1 _ h3)) (fun x hx => hx) hg hd kk'
          · cases hok
        · cases hg
      · cases hg
    · cases hg
  · cases hg
end XH

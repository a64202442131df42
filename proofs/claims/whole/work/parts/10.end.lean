/-! OWN FRAME 7: ends and switches -/
section XN
variable {l : Launch} {M : xM} {D : xD} {R : Room} {A : Nat → Prop} {Q : Array Value → State → Outcome → State → Prop} {mc ms pc pc' k n : Nat} {lv lv' : List (Nat × Value)} {st st' : List Value} {S S' : List va_W} {C : va_W} {a : Nat} {ce : va_E}
theorem Ex.iret {v : Int32} {Q0 : Option Value → List va_W → Prop} (hf : xfe M.2.2.2.2.2 pc = some .ireturn) (hr9 : M.2.2.2.2.1 = some .int) (hk : k ≤ mc) (hn : n ≤ ms) (hS9 : S.flatten = S'.flatten) (hq : Q0 (some (.int v)) S') : Ex l M D R A (xQ D A Q0) mc ms pc lv [.int v] S k n := by
  intro p e s m args below meth c H locs ls F hS hP hD hl
  obtain ⟨ho, hx, hb, -, hr, hown, hts, hlocks, hin, hK, hN, hX, hA, htb⟩ := id F
  have hd := htb _ (xfe_mem _ _ _ hf)
  refine W.widen hk hn ?_
  rw [hS9] at hP hD
  exact W.x (W.iret hx hb (hr.trans hr9) (fun t ht hW => ⟨⟨_, S', rfl, hq, by rw [ht]; exact hP, hD⟩, hS.F ht⟩) hS.2.2 hd)
theorem Ex.lret {v : Int64} {Q0 : Option Value → List va_W → Prop} (hf : xfe M.2.2.2.2.2 pc = some .lreturn) (hr9 : M.2.2.2.2.1 = some .long) (hk : k ≤ mc) (hn : n ≤ ms) (hS9 : S.flatten = S'.flatten) (hq : Q0 (some (.long v)) S') : Ex l M D R A (xQ D A Q0) mc ms pc lv [.long v] S k n := by
  intro p e s m args below meth c H locs ls F hS hP hD hl
  obtain ⟨ho, hx, hb, -, hr, hown, hts, hlocks, hin, hK, hN, hX, hA, htb⟩ := id F
  have hd := htb _ (xfe_mem _ _ _ hf)
  refine W.widen hk hn ?_
  rw [hS9] at hP hD
  exact W.x (W.lret hx hb (hr.trans hr9) (fun t ht hW => ⟨⟨_, S', rfl, hq, by rw [ht]; exact hP, hD⟩, hS.F ht⟩) hS.2.2 hd)
theorem Ex.vret {Q0 : Option Value → List va_W → Prop} (hf : xfe M.2.2.2.2.2 pc = some .return_) (hr9 : M.2.2.2.2.1 = none) (hk : k ≤ mc) (hn : n ≤ ms) (hS9 : S.flatten = S'.flatten) (hq : Q0 (none) S') : Ex l M D R A (xQ D A Q0) mc ms pc lv [] S k n := by
  intro p e s m args below meth c H locs ls F hS hP hD hl
  obtain ⟨ho, hx, hb, -, hr, hown, hts, hlocks, hin, hK, hN, hX, hA, htb⟩ := id F
  have hd := htb _ (xfe_mem _ _ _ hf)
  refine W.widen hk hn ?_
  rw [hS9] at hP hD
  exact W.x (W.vret hx hb (hr.trans hr9) (fun t ht hW => ⟨⟨_, S', rfl, hq, by rw [ht]; exact hP, hD⟩, hS.F ht⟩) hS.2.2 hd)
theorem Ex.zret {v : Int32} {Q0 : Option Value → List va_W → Prop} (hf : xfe M.2.2.2.2.2 pc = some .ireturn) (hr9 : M.2.2.2.2.1 = some .boolean) (hv : v = 0 ∨ v = 1) (hk : k ≤ mc) (hn : n ≤ ms) (hS9 : S.flatten = S'.flatten) (hq : Q0 (some (.int v)) S') : Ex l M D R A (xQ D A Q0) mc ms pc lv [.int v] S k n := by
  intro p e s m args below meth c H locs ls F hS hP hD hl
  obtain ⟨ho, hx, hb, -, hr, hown, hts, hlocks, hin, hK, hN, hX, hA, htb⟩ := id F
  have hd := htb _ (xfe_mem _ _ _ hf)
  refine W.widen hk hn ?_
  rw [hS9] at hP hD
  exact W.x (W.zret hx hb (hr.trans hr9) (by rcases hv with rfl | rfl <;> decide) (fun t ht hW => ⟨⟨_, S', rfl, hq, by rw [ht]; exact hP, hD⟩, hS.F ht⟩) hS.2.2 hd)
theorem Ex.aret {v : Value} {cn : String} {Q0 : Option Value → List va_W → Prop} (hf : xfe M.2.2.2.2.2 pc = some .areturn) (hr9 : M.2.2.2.2.1 = some (.object cn)) (hv : v = .null ∨ ∃ a, v = .ref a) (hk : k ≤ mc) (hn : n ≤ ms) (hS9 : S.flatten = S'.flatten) (hq : Q0 (some v) S') : Ex l M D R A (xQ D A Q0) mc ms pc lv [v] S k n := by
  intro p e s m args below meth c H locs ls F hS hP hD hl
  obtain ⟨ho, hx, hb, -, hr, hown, hts, hlocks, hin, hK, hN, hX, hA, htb⟩ := id F
  have hd := htb _ (xfe_mem _ _ _ hf)
  refine W.widen hk hn ?_
  rw [hS9] at hP hD
  exact W.x (W.aret hx hb (hr.trans hr9) (Or.inl ⟨_, rfl⟩) hv (fun t ht hW => ⟨⟨_, S', rfl, hq, by rw [ht]; exact hP, hD⟩, hS.F ht⟩) hS.2.2 hd)
theorem Ex.swO {dflt lo hi : Int} {offs : Array Int} {len t : Nat} {x : Int32} (hd : decode M.2.2.1 pc = .ok (.tableswitch dflt lo hi offs, len)) (h : x.toInt < lo ∨ hi < x.toInt) (ht : (pc : Int) + dflt = (t : Int)) (kk : Ex l M D R A Q mc ms t lv st S k n) : Ex l M D R A Q mc ms pc lv (.int x :: st) S k n := by
  intro p e s m args below meth c H locs ls F hS hP hD hl
  obtain ⟨ho, hx, hb, -, -, hown, hts, -, hin, hK, hN, hX, hA, htb⟩ := id F
  exact lv_tableOut hx hb hd h ht (kk p e s m args below meth c H locs ls F hS hP hD hl)
theorem Ex.swI {dflt lo hi off : Int} {offs : Array Int} {len t : Nat} {x : Int32} (hd : decode M.2.2.1 pc = .ok (.tableswitch dflt lo hi offs, len)) (h1 : ¬ x.toInt < lo) (h2 : ¬ hi < x.toInt) (ho : offs[(x.toInt - lo).toNat]? = some off) (ht : (pc : Int) + off = (t : Int)) (kk : Ex l M D R A Q mc ms t lv st S k n) : Ex l M D R A Q mc ms pc lv (.int x :: st) S k n := by
  intro p e s m args below meth c H locs ls F hS hP hD hl
  obtain ⟨hoo, hx, hb, -, -, hown, hts, -, hin, hK, hN, hX, hA, htb⟩ := id F
  exact lv_tableIn hx hb hd h1 h2 ho ht (kk p e s m args below meth c H locs ls F hS hP hD hl)
end XN

/-! OWN FRAME 12: segments forgotten or put in another order -/
theorem Ex.sub {l : Launch} {M : xM} {D : xD} {R : Room} {A : Nat → Prop} {Q : Array Value → State → Outcome → State → Prop} {mc ms pc k n : Nat} {lv : List (Nat × Value)} {st : List Value} {S S' : List va_W} (is : List Nat) (hp : pk S is S') (hn : va_nd is = true) (kk : Ex l M D R A Q mc ms pc lv st S' k n) : Ex l M D R A Q mc ms pc lv st S k n := by
  intro p e s m args below meth c H locs ls F hS hP hD hl
  rw [va_P_iff] at hP
  rw [va_D_iff] at hD
  exact kk p e s m args below meth c H locs ls F hS (va_P_iff.mpr fun q hq => hP q (hp.sub hq)) (va_D_iff.mpr ⟨sg_iff.mpr (hp.sg hn (sg_iff.mp hD.1)), fun q hq => hD.2 q (hp.sub hq)⟩) hl
/-- other segments of the same cells -/
theorem Ex.seg {l : Launch} {M : xM} {D : xD} {R : Room} {A : Nat → Prop} {Q : Array Value → State → Outcome → State → Prop} {mc ms pc k n : Nat} {lv : List (Nat × Value)} {st : List Value} {S S' : List va_W} (h2 : S.flatten = S'.flatten) (kk : Ex l M D R A Q mc ms pc lv st S' k n) : Ex l M D R A Q mc ms pc lv st S k n := by
  intro p e s m args below meth c H locs ls F hS hP hD hl
  exact kk p e s m args below meth c H locs ls F hS (h2 ▸ hP) (h2 ▸ hD) hl
/-- the locals written again -/
theorem Ex.lv {l : Launch} {M : xM} {D : xD} {R : Room} {A : Nat → Prop} {Q : Array Value → State → Outcome → State → Prop} {mc ms pc k n : Nat} {lv lv' : List (Nat × Value)} {st : List Value} {S : List va_W} (h1 : ∀ q ∈ lv', q ∈ lv) (kk : Ex l M D R A Q mc ms pc lv' st S k n) : Ex l M D R A Q mc ms pc lv st S k n := by
  intro p e s m args below meth c H locs ls F hS hP hD hl
  exact kk p e s m args below meth c H locs ls F hS hP hD ⟨hl.1, hl.2.1, fun q hq => hl.2.2 q (h1 q hq)⟩

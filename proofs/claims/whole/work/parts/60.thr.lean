/-! OWN FRAME 10: throws -/
abbrev xH : Type := List (Nat × Nat × Nat × Nat)
/-- a method's code word, with handlers or without -/
def xcw (M : xM) (hh : Option xH) : Cond := match hh with
  | none => .code M.2.1 M.2.2.1 M.2.2.2.1 M.2.2.2.2.1
  | some h => .codeWith M.2.1 M.2.2.1 M.2.2.2.1 M.2.2.2.2.1 h
theorem xcw_spec {M : xM} {hh : Option xH} {args : Array Value} {s : State} {m : MethodId} (hn : s.methodNamed? M.2.1 = some m) (h : (xcw M hh).before args s = true) :
    ∃ meth c, s.vm.method? m = some meth ∧ meth.code = some c ∧ c.code = M.2.2.1 ∧ c.maxLocals = M.2.2.2.1 ∧ meth.sig.returnType = M.2.2.2.2.1 ∧ meth.locks = false ∧ c.exceptionTable.toList.map (fun h => (h.startPc, h.endPc, h.handlerPc, h.catchType)) = hh.getD [] ∧ parseMethodDescriptor M.2.1.desc = some meth.sig := by
  cases hh with
  | none =>
    obtain ⟨meth, c, h1, h2, h3, h4, h5, h6, h7, h8⟩ := Cond.code_spec hn h
    refine ⟨meth, c, h1, h2, h3, h4, h5, h6, ?_, h8⟩
    have : c.exceptionTable = #[] := by simpa using h7
    rw [this]
    rfl
  | some hs =>
    obtain ⟨m9, meth, c, hn9, h1, h2, h3, h4, h7, h5, h6, h8⟩ := Cond.codeWith_spec h
    cases hn.symm.trans hn9
    exact ⟨meth, c, h1, h2, h3, h4, h5, h6, h7, h8⟩
/-- a method's end: an answer, or a throw of class cc; what is left -/
def xQT (D : xD) (A : Nat → Prop) (Q : Option Value → List va_W → Prop) (E : Nat → List va_W → Prop) : Array Value → State → Outcome → State → Prop := fun _ st o t =>
  ((∃ (v : Option Value) (S : List va_W), o = .returned v ∧ Q v S ∧ va_P (xG D) gCL S.flatten t.heap ∧ va_D A S.flatten) ∨
   (∃ (x cc : Nat) (S : List va_W) (cell : Cell), o = .threw x ∧ E cc S ∧ va_P (xG D) gCL S.flatten t.heap ∧ va_D A S.flatten ∧ t.heap[x]? = some cell ∧ cell.vm = .none ∧ cell.cls = D.1 cc)) ∧ va_F A st t
theorem xQ.t {D : xD} {A : Nat → Prop} {Q : Option Value → List va_W → Prop} {E : Nat → List va_W → Prop} {a : Array Value} {st t : State} {o : Outcome} (h : xQ D A Q a st o t) : xQT D A Q E a st o t := ⟨Or.inl h.1, h.2⟩
/-- A CONTRACT that may throw -/
def CtT (l : Launch) (M : xM) (hh : Option xH) (D : xD) (R : Room) (av : List Value) (S : List va_W) (Q : Option Value → List va_W → Prop) (E : Nat → List va_W → Prop) : Prop :=
  ∀ sz : Nat, MetFree l M.2.1 (headSpec (xcw M hh :: gTB) R) (xP D av S sz) (fun _ _ _ _ _ => True) (fun a st o t => xQT D (va_A S.flatten sz) Q E a st o t ∧ st.WarmedH t.vm ∧ ∃ L, st.sameButNew ({ t with vm := st.vm } : State) L R.cells R.slots ∧ ∀ q ∈ L, va_A S.flatten sz q.base)
theorem CtT.of {l : Launch} {M : xM} {hh : Option xH} {D : xD} {R : Room} {av : List Value} {S : List va_W} {Q : Option Value → List va_W → Prop} {E : Nat → List va_W → Prop} (ho : gON[M.1]? = some M.2.1.cls) (hy : plainName M.2.1.cls = true) (htb : ∀ q ∈ M.2.2.2.2.2, decode M.2.2.1 q.1 = .ok (q.2, xlen q.2)) (hn : (lg_sl av).length ≤ M.2.2.2.1)
    (h : ∀ A : Nat → Prop, Ex l M D R A (xQT D A Q E) R.cells R.slots 0 (lv_args 0 av) [] S 0 0) : CtT l M hh D R av S Q E := by
  intro sz
  refine MetFree.of_bodyS (code := M.2.2.1) (maxLocals := M.2.2.2.1) (ret := M.2.2.2.2.1) hy ?_ ?_
  · intro args s m hp hn9
    obtain ⟨meth, c, h1, h2, h3, h4, h5, h6, -, -⟩ := xcw_spec hn9 (atoms_spec (ws := xcw M hh :: gTB) hp _ List.mem_cons_self)
    exact ⟨meth, c, h1, h2, h3, h4, h5, h6⟩
  · intro p e s m args below meth c s₁ B hml hv _
    have hh0 : s₁.heap = s.heap := by rw [B.state]; rfl
    obtain ⟨rfl, hsz, hP, hK, hD, hN, hX⟩ := hv
    subst hsz
    have hts : ∀ w ∈ xcw M hh :: gTB, w.before _ s = true := atoms_spec (ws := xcw M hh :: gTB) B.pre
    have hown : s.vm.findClass M.2.1.cls = some m.cls := findClass_of_methodNamed B.named
    rw [lg_entry_eq]
    have hw := h (va_A S.flatten s.heap.size) p e s m av.toArray below meth c s.heap [] _ ⟨ho, B.exec, B.bytes, hml, B.returns, hown, fun w hw => hts w (List.mem_cons_of_mem _ hw), B.notSynchronized, ⟨(name_of_methodNamed B.named B.method).1, B.named, va_A.plain hP⟩, hK, hN, hX, fun q hq => Or.inr hq, htb⟩
      va_S.rf hP (hD.self (sz := s.heap.size)) (lv_entry av hn)
    obtain ⟨t, h1, o, h2, h3, h4, h5, L, h6, h7⟩ := hw s₁ hh0 (Stand.of_body B)
    exact ⟨t, o, h1, h2, h3, h4, h5, L, h6, h7⟩
theorem CtT.imp {l : Launch} {M : xM} {hh : Option xH} {D : xD} {R : Room} {av : List Value} {S : List va_W} {Q Q' : Option Value → List va_W → Prop} {E E' : Nat → List va_W → Prop} (h : CtT l M hh D R av S Q E) (hq : ∀ v S, Q v S → Q' v S) (he : ∀ cc S, E cc S → E' cc S) : CtT l M hh D R av S Q' E' := by
  intro sz p e ha hc hk s m args below hf happ hP hK
  obtain ⟨n, o, h1, h2, h3, ⟨h4, h5⟩, h6⟩ := h sz p e ha hc hk s m args below hf happ hP hK
  refine ⟨n, o, h1, h2, h3, ⟨?_, h5⟩, h6⟩
  rcases h4 with ⟨v, S', a1, a2, a3⟩ | ⟨x, cc, S', cell, a1, a2, a3⟩
  · exact Or.inl ⟨v, S', a1, hq _ _ a2, a3⟩
  · exact Or.inr ⟨x, cc, S', cell, a1, he _ _ a2, a3⟩
section XT
variable {l : Launch} {M : xM} {D : xD} {R : Room} {A : Nat → Prop} {mc ms pc k n : Nat} {lv : List (Nat × Value)} {st : List Value} {S : List va_W}
theorem Ex.mono {Q Q' : Array Value → State → Outcome → State → Prop} (hq : ∀ a s o t, Q a s o t → Q' a s o t) (h : Ex l M D R A Q mc ms pc lv st S k n) : Ex l M D R A Q' mc ms pc lv st S k n := by
  intro p e s m args below meth c H locs ls F hS hP hD hl T hT X
  obtain ⟨t, h1, o, h2, h3, h4, h5⟩ := h p e s m args below meth c H locs ls F hS hP hD hl T hT X
  exact ⟨t, h1, o, h2, h3, hq _ _ _ _ h4, h5⟩
/-- an answer -/
theorem Ex.rt {Q : Option Value → List va_W → Prop} {E : Nat → List va_W → Prop} (h : Ex l M D R A (xQ D A Q) mc ms pc lv st S k n) : Ex l M D R A (xQT D A Q E) mc ms pc lv st S k n := Ex.mono (fun _ _ _ _ h => h.t) h
end XT
theorem va_Z.val {C n d : String} {v : Value} {A : Nat → Prop} {s : State} {args : Array Value} (h : va_Z C n d v A s s.heap) : (Term.static C n d).eval args s none [] s = some v := by
  obtain ⟨cf, kf, fi, f, a, cell, h1, h2, h3, h4, h5, h6, h7, -⟩ := h
  simp [Term.eval, State.fieldNamed?, h1, h2, h4, h5, h6, h7]
theorem va_Zq.isRef {C n d : String} {A : Nat → Prop} {s : State} {args : Array Value} (h : va_Zq C n d A s s.heap) : (Cond.isRef (.static C n d)).before args s = true := by
  rcases h with h | ⟨t, h⟩
  · have := h.val (args := args)
    simp [Cond.before, Cond.holds, Cond.value, this, Value.isRef]
  · have := h.val (args := args)
    simp [Cond.before, Cond.holds, Cond.value, this, Value.isRef]

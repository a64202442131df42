/-! OWN FRAME 3: the judgement Ex, contracts Ct -/
abbrev xM : Type := Nat × MethodName × ByteArray × Nat × Option FieldType × xT
/-- classes' numbers, their slots, array classes, String constants, their bytes -/
abbrev xD : Type := (Nat → ClassId) × (Nat → Nat → Nat) × (Nat → ClassId) × (Nat → Nat) × (Nat → Nat)
def gTB : List Cond := lw_tbl.filter goodWord
def isNst (w : Cond) : Bool := match w with
  | .fieldLinkNest .. => true
  | .methodLinkNest .. => true
  | _ => false
def gNW : List Cond := lw_tbl.filter isNst
def gTY (D : xD) : List (ClassId × FieldType) := [(D.2.2.1 0, .int), (D.2.2.1 1, .boolean), (D.2.2.1 2, .long), (D.2.2.1 3, .object "DrillArchive$Tool"), (D.2.2.1 4, .object "DrillArchive$Hit"), (D.2.2.1 5, .object "DrillArchive$StoredFile")]
def gAO : List String := ["DrillArchive$Tool", "DrillArchive$Hit", "DrillArchive$StoredFile"]
/-- what the tables say beside gTB -/
def gNX (D : xD) (U : State) : Prop := (∀ w ∈ gNW, va_Nw w U) ∧ ((∀ C ∈ gAO, va_AO C U) ∧ U.vm.assignable (D.1 11) (D.1 12) = false) ∧ ∀ q ∈ gST, vk_R q.1 q.2.1 q.2.2.1 (D.2.2.2.1 q.2.2.2) U
/-- a static field's place -/
def va_LS (C n d : String) (A : Nat → Prop) (U : State) (H : Heap) : Prop := ∃ (c : ClassId) (k : Class) (i : Nat) (f : Field) (a : Nat) (cell : Cell), U.vm.findClass C = some c ∧ U.fieldFound? C n d = some (c, k, i, f) ∧ f.isStatic = true ∧ k.statics = some a ∧ H[a]? = some cell ∧ cell.vm.isStatics = true ∧ cell.cls = c ∧ f.slot < cell.slots.size ∧ k.staticTypes[f.slot]? = some f.type ∧ ¬ A a
theorem va_LS.moved {C n d : String} {A : Nat → Prop} {u U : State} {H : Heap} (hvm : u.vm.Alike U.vm) (h : va_LS C n d A u H) : va_LS C n d A U H := by
  obtain ⟨c, k, i, f, a, cell, h0, h1, h2, h3, h4, h5, h6, h7, h8, h9⟩ := h
  obtain ⟨k', hi', he⟩ := State.fieldFound?_setVm hvm h1
  exact ⟨c, k', i, f, a, cell, by rw [hvm.findClass]; exact h0, hi', h2, by rw [he]; exact h3, h4, h5, h6, h7, by rw [he]; exact h8, h9⟩
theorem va_LS.kept {C n d : String} {A : Nat → Prop} {U : State} {H H1 : Heap} (h : va_LS C n d A U H) (hq : ∀ a : Nat, a < H.size → ¬ A a → H1[a]? = H[a]?) : va_LS C n d A U H1 := by
  obtain ⟨c, k, i, f, a, cell, h0, h1, h2, h3, h4, h5, h6, h7, h8, h9⟩ := h
  exact ⟨c, k, i, f, a, cell, h0, h1, h2, h3, by rw [hq a (Array.getElem?_eq_some_iff.mp h4).1 h9]; exact h4, h5, h6, h7, h8, h9⟩
theorem va_LS.narrow {C n d : String} {A B : Nat → Prop} {U : State} {H : Heap} (h : va_LS C n d A U H) (hAB : ∀ q, B q → A q) : va_LS C n d B U H := by
  obtain ⟨c, k, i, f, a, cell, h0, h1, h2, h3, h4, h5, h6, h7, h8, h9⟩ := h
  exact ⟨c, k, i, f, a, cell, h0, h1, h2, h3, h4, h5, h6, h7, h8, fun z => h9 (hAB a z)⟩
/-- what lies in the heap outside A: the String constants -/
def gSX (D : xD) (A : Nat → Prop) (U : State) (H : Heap) : Prop := vk_S gSN gSL gSB D.2.2.2.1 D.2.2.2.2 A U H ∧ va_Z "java/lang/String" "COMPACT_STRINGS" "Z" (.int 1) A U H ∧ va_Zq "jdk/internal/util/Preconditions" "SIOOBE_FORMATTER" "Ljava/util/function/BiFunction;" A U H ∧ va_Zq "java/lang/Throwable" "UNASSIGNED_STACK" "[Ljava/lang/StackTraceElement;" A U H ∧ va_Zq "java/lang/Throwable" "SUPPRESSED_SENTINEL" "Ljava/util/List;" A U H ∧ va_LS "java/lang/Throwable" "UNASSIGNED_STACK" "[Ljava/lang/StackTraceElement;" A U H ∧ va_LS "java/lang/Throwable" "SUPPRESSED_SENTINEL" "Ljava/util/List;" A U H
theorem gNX.same {D : xD} {u U : State} (hv : U.vm = u.vm) (h : gNX D u) : gNX D U := by
  refine ⟨fun w hw => ?_, ⟨fun C hC => ?_, by rw [hv]; exact h.2.1.2⟩, fun q hq => (h.2.2 q hq).same hv⟩
  · have h1 := h.1 w hw
    have h2 := (List.mem_filter.mp hw).2
    cases w <;> first | exact va_Nw.same rfl hv.symm h1 | (simp [isNst] at h2)
  · exact (h.2.1.1 C hC).moved (by rw [hv]; exact Vm.Alike.refl _)
theorem gNX.warm {D : xD} {s U : State} (hW : s.WarmedH U.vm) (h : gNX D s) : gNX D U := by
  refine ⟨fun w hw => ?_, ⟨fun C hC => (h.2.1.1 C hC).moved hW.alike, by rw [hW.alike.assignable]; exact h.2.1.2⟩, fun q hq => (h.2.2 q hq).warm hW⟩
  have h1 := h.1 w hw
  have h2 := (List.mem_filter.mp hw).2
  cases w <;> first | exact va_Nw.warmF hW h1 | exact va_Nw.warmM hW h1 | (simp [isNst] at h2)
theorem gSX.moved {D : xD} {A : Nat → Prop} {u U : State} {H : Heap} (hvm : u.vm.Alike U.vm) (h : gSX D A u H) : gSX D A U H := ⟨h.1.moved hvm, h.2.1.moved hvm, h.2.2.1.moved hvm, h.2.2.2.1.moved hvm, h.2.2.2.2.1.moved hvm, h.2.2.2.2.2.1.moved hvm, h.2.2.2.2.2.2.moved hvm⟩
theorem gSX.kept {D : xD} {A : Nat → Prop} {U : State} {H H1 : Heap} (h : gSX D A U H) (hq : ∀ a : Nat, a < H.size → ¬ A a → H1[a]? = H[a]?) : gSX D A U H1 := ⟨h.1.kept hq, h.2.1.kept hq, h.2.2.1.kept hq, h.2.2.2.1.kept hq, h.2.2.2.2.1.kept hq, h.2.2.2.2.2.1.kept hq, h.2.2.2.2.2.2.kept hq⟩
theorem gSX.narrow {D : xD} {A B : Nat → Prop} {U : State} {H : Heap} (h : gSX D A U H) (hAB : ∀ q, B q → A q) : gSX D B U H := ⟨h.1.narrow hAB, h.2.1.narrow hAB, h.2.2.1.narrow hAB, h.2.2.2.1.narrow hAB, h.2.2.2.2.1.narrow hAB, h.2.2.2.2.2.1.narrow hAB, h.2.2.2.2.2.2.narrow hAB⟩
abbrev xG (D : xD) : va_G := (D.1, D.2.1)
/-- what stays the same in a method's walk -/
def Fx (M : xM) (D : xD) (A : Nat → Prop) (p : Program) (s : State) (m : MethodId) (args : Array Value) (meth : Method) (c : Code) : Prop :=
  gON[M.1]? = some M.2.1.cls ∧ p.tables.exec = Jvm.exec ∧ c.code = M.2.2.1 ∧ c.maxLocals = M.2.2.2.1 ∧ meth.sig.returnType = M.2.2.2.2.1 ∧ s.vm.findClass M.2.1.cls = some m.cls ∧ (∀ w ∈ gTB, w.before args s = true) ∧ meth.locks = false ∧ (meth.name = M.2.1.name ∧ s.methodNamed? M.2.1 = some m ∧ ∀ q : Nat, A q → ∀ cell : Cell, s.heap[q]? = some cell → cell.vm.isStatics = false) ∧
  va_K (xG D) gCL (gTY D) s ∧ gNX D s ∧ gSX D A s s.heap ∧ (∀ q : Nat, s.heap.size ≤ q → A q) ∧ ∀ q ∈ M.2.2.2.2.2, decode M.2.2.1 q.1 = .ok (q.2, xlen q.2)
/-- a method's end, by a return or by a throw -/
def MQx (below : List Frame) (Q : Array Value → State → Outcome → State → Prop) (a : Array Value) (s : State) (mc ms : Nat) (free : Addr → Prop) : State → Prop := fun t =>
  ∃ o, t.status = .running ∧ Ended t below o ∧ Q a s o t ∧ s.WarmedH t.vm ∧ ∃ L, s.sameButNew ({ t with vm := s.vm } : State) L mc ms ∧ ∀ q ∈ L, free q.base
theorem MQ.x {below : List Frame} {Q : Array Value → State → Outcome → State → Prop} {a : Array Value} {s t : State} {mc ms : Nat} {free : Addr → Prop} (h : MQ below Q a s mc ms free t) : MQx below Q a s mc ms free t := by
  obtain ⟨o, h1, h2, h3, L, ⟨-, h4, h5⟩, h6⟩ := h
  exact ⟨o, h1, h2, h3, h4, L, h5, h6⟩
theorem W.x {p : Program} {l : Launch} {e : Env} {R : Room} {s : State} {m : MethodId} {args a : Array Value} {below : List Frame} {meth : Method} {c : Code} {H : Heap} {locs : List Loc} {cells slots mc ms : Nat} {Q : Array Value → State → Outcome → State → Prop} {free : Addr → Prop} {g : JFrame} (h : W p l e R s m args below meth c H locs cells slots (MQ below Q a s mc ms free) g) : W p l e R s m args below meth c H locs cells slots (MQx below Q a s mc ms free) g := by
  intro T hT X
  obtain ⟨t, h1, h2⟩ := h T hT X
  exact ⟨t, h1, h2.x⟩
theorem va_at.plain {D : va_G} {cl : List vw_C} {q : Nat × va_E} {H : Heap} (h : va_at D cl q H) {cell : Cell} (hc : H[q.1]? = some cell) : cell.vm.isStatics = false := by
  obtain ⟨a, w⟩ := q
  cases w with
  | inl x =>
    have h : H[a]? = some (vp_cell x.1 x.2) := h
    have hc : H[a]? = some cell := hc
    rw [h] at hc
    cases hc
    obtain ⟨x1, x2, x3⟩ := x
    unfold vp_cell
    split <;> rfl
  | inr o =>
    obtain ⟨r, -, cell', h1, -, h2, -⟩ := h
    cases h1.symm.trans hc
    rw [h2]
    rfl
theorem va_A.plain {D : va_G} {cl : List vw_C} {ws : va_W} {H : Heap} (h : va_P D cl ws H) (q : Nat) (hq : va_A ws H.size q) (cell : Cell) (hc : H[q]? = some cell) : cell.vm.isStatics = false := by
  rcases hq with ⟨k, w, hq⟩ | hq
  · exact (h k _ hq).plain hc
  · have := (Array.getElem?_eq_some_iff.mp hc).1
    omega
/-- the walk's judgement: segments S of cells, locals lv, stack st; Q the method's end; at most mc cells of ms slots in all -/
def Ex (l : Launch) (M : xM) (D : xD) (R : Room) (A : Nat → Prop) (Q : Array Value → State → Outcome → State → Prop) (mc ms : Nat) (pc : Nat) (lv : List (Nat × Value)) (st : List Value) (S : List va_W) (k n : Nat) : Prop :=
  ∀ (p : Program) (e : Env) (s : State) (m : MethodId) (args : Array Value) (below : List Frame) (meth : Method) (c : Code) (H : Heap) (locs : List Loc) (ls : Array Slot),
    Fx M D A p s m args meth c → va_S A s.heap H locs → va_P (xG D) gCL S.flatten H → va_D A S.flatten → lv_has ls M.2.2.2.1 lv →
    W p l e R s m args below meth c H locs k n (MQx below Q args s mc ms A) (F0 m pc ls st)
/-- the words of a method: its code, the tables -/
def xW (M : xM) : List Cond := .code M.2.1 M.2.2.1 M.2.2.2.1 M.2.2.2.2.1 :: gTB
/-- a method's end: an answer and the segments left -/
def xQ (D : xD) (A : Nat → Prop) (Q : Option Value → List va_W → Prop) : Array Value → State → Outcome → State → Prop := fun _ st o t =>
  (∃ (v : Option Value) (S : List va_W), o = .returned v ∧ Q v S ∧ va_P (xG D) gCL S.flatten t.heap ∧ va_D A S.flatten) ∧ va_F A st t
/-- a method's start -/
def xP (D : xD) (av : List Value) (S : List va_W) (sz : Nat) : Array Value → State → Prop :=
  va_Pc av (fun U => U.heap.size = sz ∧ va_P (xG D) gCL S.flatten U.heap ∧ va_K (xG D) gCL (gTY D) U ∧ va_D (fun _ => True) S.flatten ∧ gNX D U ∧ gSX D (va_A S.flatten sz) U U.heap)
/-- A CONTRACT: from the arguments av and the segments S method M returns v and leaves S' with Q v S' -/
def Ct (l : Launch) (M : xM) (D : xD) (R : Room) (av : List Value) (S : List va_W) (Q : Option Value → List va_W → Prop) : Prop :=
  ∀ sz : Nat, Met l M.2.1 (xW M) R (xP D av S sz) (xQ D (va_A S.flatten sz) Q) R.cells R.slots (va_A S.flatten sz)
theorem Ct.of {l : Launch} {M : xM} {D : xD} {R : Room} {av : List Value} {S : List va_W} {Q : Option Value → List va_W → Prop} (ho : gON[M.1]? = some M.2.1.cls) (hy : plainName M.2.1.cls = true) (htb : ∀ q ∈ M.2.2.2.2.2, decode M.2.2.1 q.1 = .ok (q.2, xlen q.2)) (hn : (lg_sl av).length ≤ M.2.2.2.1)
    (h : ∀ A : Nat → Prop, Ex l M D R A (xQ D A Q) R.cells R.slots 0 (lv_args 0 av) [] S 0 0) : Ct l M D R av S Q := by
  intro sz
  refine Met.ofW (cc := M.2.2.1) (maxL := M.2.2.2.1) (ret := M.2.2.2.2.1) hy rfl ?_
  intro p e s m args below meth c s₁ B hml hv
  obtain ⟨rfl, hsz, hP, hK, hD, hN, hX⟩ := hv
  subst hsz
  have hts : ∀ w ∈ xW M, w.before _ s = true := atoms_spec (ws := xW M) B.pre
  have hown : s.vm.findClass M.2.1.cls = some m.cls := findClass_of_methodNamed B.named
  rw [lg_entry_eq]
  have hw := h (va_A S.flatten s.heap.size) p e s m av.toArray below meth c s.heap [] _ ⟨ho, B.exec, B.bytes, hml, B.returns, hown, fun w hw => hts w (List.mem_cons_of_mem _ hw), B.notSynchronized, ⟨(name_of_methodNamed B.named B.method).1, B.named, va_A.plain hP⟩, hK, hN, hX, fun q hq => Or.inr hq, htb⟩
    va_S.rf hP (hD.self (sz := s.heap.size)) (lv_entry av hn)
  intro T hT X
  obtain ⟨t, h1, o, h2, h3, h4, h5, L, h6, h7⟩ := hw T hT X
  obtain ⟨⟨v, S', rfl, -⟩, -⟩ := id h4
  exact ⟨t, h1, .returned v, h2, h3, h4, L, ⟨⟨v, rfl⟩, h5, h6⟩, h7⟩
section XE
variable {l : Launch} {M : xM} {D : xD} {R : Room} {A : Nat → Prop} {Q : Array Value → State → Outcome → State → Prop} {mc ms pc pc' k n : Nat} {lv lv' : List (Nat × Value)} {st st' : List Value} {S S' : List va_W}
/-- a step that touches no cell -/
theorem Ex.p (hs : xst M.2.2.2.2.2 M.2.2.2.1 pc lv st = some (pc', lv', st')) (kk : Ex l M D R A Q mc ms pc' lv' st' S k n) : Ex l M D R A Q mc ms pc lv st S k n := by
  intro p e s m args below meth c H locs ls F hS hP hD hl
  obtain ⟨-, hx, hb, -, -, -, -, -, -, -, -, -, -, htb⟩ := id F
  exact xst_ok hx hb htb hl hs (fun ls' hl' => kk p e s m args below meth c H locs ls' F hS hP hD hl')
/-- a branch -/
theorem Ex.br {P : Prop} (hs : xbr M.2.2.2.2.2 pc st = some (P, pc', st')) (kt : P → Ex l M D R A Q mc ms pc' lv st' S k n) (kf : ¬ P → Ex l M D R A Q mc ms (pc + 3) lv st' S k n) : Ex l M D R A Q mc ms pc lv st S k n := by
  intro p e s m args below meth c H locs ls F hS hP hD hl
  obtain ⟨-, hx, hb, -, -, -, -, -, -, -, -, -, -, htb⟩ := id F
  have kt' := fun h => kt h p e s m args below meth c H locs ls F hS hP hD hl
  have kf' := fun h => kf h p e s m args below meth c H locs ls F hS hP hD hl
  unfold xbr at hs
  split at hs
  · rename_i cd off hf
    have hd := htb _ (xfe_mem _ _ _ hf)
    split at hs
    · rename_i ht
      cases cd <;> cases hs
      · exact lv_if_eq hx hb hd ht kt' kf'
      · exact lv_if_ne hx hb hd ht kt' (fun h => kf' (fun q => q h))
      · exact lv_if_lt hx hb hd ht kt' kf'
      · exact lv_if_ge hx hb hd ht kt' kf'
      · exact lv_if_gt hx hb hd ht kt' kf'
      · exact lv_if_le hx hb hd ht kt' kf'
    · cases hs
  · rename_i cd off hf
    have hd := htb _ (xfe_mem _ _ _ hf)
    split at hs
    · rename_i ht
      cases cd <;> cases hs
      · exact lv_icmp_eq hx hb hd ht kt' kf'
      · exact lv_icmp_ne hx hb hd ht kt' (fun h => kf' (fun q => q h))
      · exact lv_icmp_lt hx hb hd ht kt' kf'
      · exact lv_icmp_ge hx hb hd ht kt' kf'
      · exact lv_icmp_gt hx hb hd ht kt' kf'
      · exact lv_icmp_le hx hb hd ht kt' kf'
    · cases hs
  · cases hs
/-- the same walk, said otherwise -/
theorem Ex.is (js : List Nat) (h1 : lv_pick lv js = lv') (h2 : S.flatten = S'.flatten) (kk : Ex l M D R A Q mc ms pc lv' st S' k n) : Ex l M D R A Q mc ms pc lv st S k n := by
  intro p e s m args below meth c H locs ls F hS hP hD hl
  exact kk p e s m args below meth c H locs ls F hS (h2 ▸ hP) (h2 ▸ hD) (lv_sub hl _ h1)
theorem Ex.more {k' n' : Nat} (h1 : k ≤ k') (h2 : n ≤ n') (kk : Ex l M D R A Q mc ms pc lv st S k' n') : Ex l M D R A Q mc ms pc lv st S k n := by
  intro p e s m args below meth c H locs ls F hS hP hD hl
  exact W.widen h1 h2 (kk p e s m args below meth c H locs ls F hS hP hD hl)
end XE

/-! a call that may throw; propagation; catching -/
section XT4
variable {p : Program} {l : Launch} {e : Env} {R : Room} {s : State} {m : MethodId} {args : Array Value} {below : List Frame} {meth : Method} {c : Code} {U : State} {H : Heap} {locs : List Loc} {cells slots : Nat} {Q : State → Prop}
/-- the walk from a throw that has come over the frame g -/
def Wt (p : Program) (l : Launch) (e : Env) (R : Room) (s : State) (m : MethodId) (args : Array Value) (below : List Frame) (meth : Method) (c : Code) (H : Heap) (locs : List Loc) (cells slots : Nat) (Q : State → Prop) (g : JFrame) (x : Nat) : Prop :=
  ∀ T : State, T.heap = H → Stand p l e R s m args below meth c T locs cells slots → ∃ t, Steps p.tables e below ((T.setTop g).pushFrame (.throwing x)) t ∧ Q t
theorem x_callee (X : Stand p l e R s m args below meth c U locs cells slots) {g : JFrame} (hg : g.method = m) (hsize : g.locals.size = c.maxLocals) {ig : Instr} {len : Nat} (hdg : decode c.code g.pc = .ok (ig, len)) {y : MethodName} {Sp : Spec} {Pc : Array Value → State → Prop} {Qc : Array Value → State → Outcome → State → Prop} (hM : MetFree l y Sp Pc (fun _ _ _ _ _ => True) Qc) {mk : MethodId} {a : Array Value} (hn : U.methodNamed? y = some mk) (hpre : Sp.pre.before a U = true) {methY : Method} {cY : Code} (hmY : U.vm.method? mk = some methY) (hcY : methY.code = some cY) (hini : (Cond.initialized y.cls).before a U = true) (hfr : Sp.room.frames + 1 ≤ R.frames) (hlo : 2 * g.monitorRoom + (g.stack.map fun v => v.category).sum + (cY.maxLocals + 11) + Sp.room.locals ≤ R.locals) (hce : cells + Sp.room.cells ≤ R.cells) (hsl : slots + Sp.room.slots ≤ R.slots) (hP : Pc a (U.calling g mk a)) :
    ∃ o t, Steps p.tables e below (doInvoke e (U.setTop g) [] mk a).1 t ∧ Ended t (.java g :: below) o ∧ Qc a (U.calling g mk a) o t := by
  obtain ⟨kY, hkY, -⟩ := className_of_methodNamed hn
  have hi : kY.init = .initialized := Cond.initialized_spec (findClass_of_methodNamed hn) hkY hini
  have h : At U g.method c below := by rw [hg]; exact X.here
  have happ : Sp.appliesLoose y e.platform (U.calling g mk a) = true := Spec.appliesLoose_calling (g := g) h hdg hn hkY hi (X.room_calling (g := g) (R' := Sp.room) hsize hmY hcY hfr hlo hce hsl) hpre
  obtain ⟨mid, hmid⟩ := h.above
  have hf2 : (U.setTop g).frames = (.java g :: mid) ++ below := by rw [State.frames_setTop' g h.top, hmid]; rfl
  obtain ⟨o, t, h1, -, h3, h4⟩ := Steps.callFree hM p X.admits X.cas X.clock (acts := []) hf2 happ hP trivial
  refine ⟨o, t, h1, ?_, h4⟩
  rw [State.frames_setTop' g h.top, X.tail] at h3
  exact h3
/-- behind an invocation of a method whose contract may throw -/
theorem x_back {D : xD} {A A1 : Nat → Prop} {H0 : Heap} {mc ms : Nat} {Q0 : Option Value → List va_W → Prop} {E0 : Nat → List va_W → Prop} {pc ig9 : Nat} {ls : Array Slot} {rest : List Value} {ig : Instr} {mk : MethodId} {a : Array Value} {o : Outcome} {t : State}
    (X : Stand p l e R s m args below meth c U locs cells slots) (hU : U.heap = H) (hS : va_S A H0 H locs) (hA : ∀ q, A1 q → A q) (hdg : decode c.code pc = .ok (ig, 3))
    (hend : Ended t (.java (F0 m pc ls rest) :: below) o) (hq : xQT D A1 Q0 E0 a (U.calling (F0 m pc ls rest) mk a) o t ∧ (U.calling (F0 m pc ls rest) mk a).WarmedH t.vm ∧ ∃ L, (U.calling (F0 m pc ls rest) mk a).sameButNew ({ t with vm := (U.calling (F0 m pc ls rest) mk a).vm } : State) L mc ms ∧ ∀ q ∈ L, A1 q.base)
    (kr : ∀ (v : Option Value) (S1 : List va_W) (H1 : Heap) (locs1 : List Loc), Q0 v S1 → va_P (xG D) gCL S1.flatten H1 → va_D A1 S1.flatten → (∀ q : Nat, q < H.size → ¬ A1 q → H1[q]? = H[q]?) → va_S A H0 H1 locs1 → W p l e R s m args below meth c H1 locs1 (cells + mc) (slots + ms) Q (F0 m (pc + 3) ls (v.toList ++ rest)))
    (kt : ∀ (x cc : Nat) (S1 : List va_W) (H1 : Heap) (locs1 : List Loc) (cell : Cell), E0 cc S1 → va_P (xG D) gCL S1.flatten H1 → va_D A1 S1.flatten → (∀ q : Nat, q < H.size → ¬ A1 q → H1[q]? = H[q]?) → va_S A H0 H1 locs1 → H1[x]? = some cell → cell.vm = .none → cell.cls = D.1 cc → Wt p l e R s m args below meth c H1 locs1 (cells + mc) (slots + ms) Q (F0 m pc ls rest) x) :
    ∃ t2, Steps p.tables e below t t2 ∧ Q t2 := by
  obtain ⟨⟨ho, hz, hk⟩, hW, L, hsame, hL⟩ := hq
  have hz : H.size ≤ t.heap.size := by rw [← hU]; exact hz
  have hk : ∀ q : Nat, q < H.size → ¬ A1 q → t.heap[q]? = H[q]? := by rw [← hU]; exact hk
  have hS1 : va_S A H0 t.heap (locs ++ L) := ⟨Nat.le_trans hS.1 hz, fun q h1 h2 => by rw [hk q (Nat.lt_of_lt_of_le h1 hS.1) (fun z => h2 (hA q z))]; exact hS.2.1 q h1 h2, fun q hq => by
      rcases List.mem_append.mp hq with h | h
      · exact hS.2.2 q h
      · exact hA _ (hL q h)⟩
  rcases ho with ⟨v, S1, rfl, hq, hP, hD⟩ | ⟨x, cc, S1, cell, rfl, he, hP, hD, hx1, hx2, hx3⟩
  · obtain ⟨T', X', -, -, et⟩ := X.outOf (g := F0 m pc ls rest) rfl (ig := ig) (len := 3) hdg hend hW hsame
    have eh : T'.heap = t.heap := by rw [et]; simp [State.setTop, State.modifyTopJava]
    obtain ⟨t2, h1, h2⟩ := kr v S1 t.heap (locs ++ L) hq hP hD hk hS1 T' eh X'
    refine ⟨t2, ?_, h2⟩
    rw [et]
    exact h1
  · obtain ⟨T', X', -, -, et⟩ := X.outOfThrown (g := F0 m pc ls rest) rfl hend hW hsame
    have eh : T'.heap = t.heap := by rw [et, Stand.throwing_heap]
    obtain ⟨t2, h1, h2⟩ := kt x cc S1 t.heap (locs ++ L) cell he hP hD hk hS1 hx1 hx2 hx3 T' eh X'
    refine ⟨t2, ?_, h2⟩
    rw [et]
    exact h1
end XT4
section XT5
variable {l : Launch} {M : xM} {D : xD} {R : Room} {A : Nat → Prop} {Q : Array Value → State → Outcome → State → Prop} {mc ms pc k n : Nat} {lv : List (Nat × Value)} {st : List Value} {S : List va_W}
/-- the judgement of a throw of kind cc that has come to the place pc -/
def Et (l : Launch) (M : xM) (D : xD) (R : Room) (A : Nat → Prop) (Q : Array Value → State → Outcome → State → Prop) (mc ms : Nat) (pc : Nat) (lv : List (Nat × Value)) (st : List Value) (S : List va_W) (k n : Nat) (x cc : Nat) : Prop :=
  ∀ (p : Program) (e : Env) (s : State) (m : MethodId) (args : Array Value) (below : List Frame) (meth : Method) (c : Code) (H : Heap) (locs : List Loc) (ls : Array Slot) (cell : Cell),
    Fx M D A p s m args meth c → va_S A s.heap H locs → va_P (xG D) gCL S.flatten H → va_D A S.flatten → lv_has ls M.2.2.2.1 lv → H[x]? = some cell → cell.vm = .none → cell.cls = D.1 cc →
    Wt p l e R s m args below meth c H locs k n (MQx below Q args s mc ms A) (F0 m pc ls st) x
theorem callW_pre {Mc : xM} {hh : Option xH} {Rc : Room} {s U : State} {args a : Array Value} (hW : s.WarmedH U.vm) (hts : ∀ w ∈ gTB, w.before args s = true) (hcw : xcw Mc hh ∈ gTB) : (headSpec (xcw Mc hh :: gTB) Rc).pre.before a U = true :=
  atoms_intro fun w hw => by
    rcases List.mem_cons.mp hw with rfl | hw
    · exact word_at hW (gTB_good hcw) (hts _ hcw)
    · exact word_at hW (gTB_good hw) (hts _ hw)
/-- 'invokevirtual' of a method that may throw -/
theorem Ex.cvT {Mc : xM} {Rc : Room} {b ix ic jc ci : Nat} {As rest st0 : List Value} {Q0 : Option Value → List va_W → Prop} {E0 : Nat → List va_W → Prop} {Sc Sr : List va_W} {C : va_W} {fs : List Value} (is rs : List Nat) (hct : CtT l Mc none D Rc (.ref b :: As) Sc Q0 E0) (hf : xfe M.2.2.2.2.2 pc = some (.invokevirtual ix)) (hlk : Lk M.2.1.cls ix Mc) (hm : LkV Mc As.length)
    (hst : st0 = As.reverse ++ .ref b :: rest) (hc : pk S is Sc) (hr : pk S rs Sr) (hn1 : va_nd is = true) (hn2 : va_nd rs = true) (hdis : ∀ i ∈ rs, i ∉ is) (hic : S[ic]? = some C) (hjc : C[jc]? = some (b, .inr (ci, fs))) (hci : gON[ci]? = some Mc.2.1.cls) (hlt : ci < 13)
    (hR : Rc.frames + 1 ≤ R.frames ∧ 8 + (Mc.2.2.2.1 + 11) + Rc.locals ≤ R.locals) (hrm : (rest.map fun v => v.category).sum ≤ 8) (h1 : k + Rc.cells ≤ R.cells) (h2 : n + Rc.slots ≤ R.slots)
    (kk : ∀ (v : Option Value) (S1 : List va_W), Q0 v S1 → Ex l M D R A Q mc ms (pc + 3) lv (v.toList ++ rest) (Sr ++ S1) (k + Rc.cells) (n + Rc.slots))
    (ke : ∀ (x cc : Nat) (S1 : List va_W), E0 cc S1 → Et l M D R A Q mc ms pc lv rest (Sr ++ S1) (k + Rc.cells) (n + Rc.slots) x cc) : Ex l M D R A Q mc ms pc lv st0 S k n := by
  intro p e s m args below meth c H locs ls F hS hP hD hl
  obtain ⟨ho, hx, hb, hml, -, hown, hts, -, hin, hK, hN, hX, hA, htb⟩ := id F
  have hd := htb _ (xfe_mem _ _ _ hf)
  obtain ⟨hpre, hsub⟩ := x_pre (av := .ref b :: As) F hS hP hD hc hn1
  obtain ⟨q0, hq0, -⟩ := fl_pos S ic jc C _ hic hjc
  cases hr0 : gCL[ci]? with
  | none => exact absurd (List.getElem?_eq_none_iff.mp hr0) (by show ¬ (13 ≤ ci); omega)
  | some r =>
    have hrn : r.1 = Mc.2.1.cls := Option.some.inj ((gNM_at hr0).symm.trans hci)
    obtain ⟨cell, g1, g2, g3⟩ := va_recv hK hP hr0 hq0
    rw [hrn] at g3
    intro T hT X
    have hcode : xcw Mc none ∈ gTB := hm.1.2.1
    obtain ⟨mk, methM, hnamed, hmethM, hstM, habM⟩ := Cond.instanceMethod_spec (hts _ hm.2.1)
    obtain ⟨methM', cM, hmethM', hcM, -, hlM, -, -, -, hsigM⟩ := Cond.code_spec hnamed (hts _ hm.1.2.1)
    cases hmethM.symm.trans hmethM'
    obtain ⟨c2, r2, m2, q1, q2, q3, q4, kP, hkP, hkPi⟩ := Cond.selects_spec (hts _ hm.2.2)
    cases g3.symm.trans q1
    cases (State.methodFound?_of_named hnamed ⟨hm.1.2.2.1, hm.1.2.2.2.1⟩).symm.trans q2
    cases hnamed.symm.trans q3
    have hsel : selectMethod e.platform s.vm cell.cls mk = .method mk := by rw [Launch.admits_selectMethod X.admits]; exact q4
    have hnp : As.length = methM.sig.parameters.length := by
      have h9 := hm.1.2.2.2.2
      rw [hsigM] at h9
      exact (Option.some.inj h9).symm
    obtain ⟨vm1, X1, st1⟩ := X.invokevirtual hx hown (hts _ hlk) hnamed hmethM hstM hkP hkPi ⟨hm.1.2.2.1, hm.1.2.2.2.1⟩ (a := b) (cell := cell) (by rw [hT]; exact g1) (fun z h => by rw [h] at g2; cases g2) hsel hmethM habM hkP hkPi (g := F0 m pc ls st0) rfl (argsL := As) (rest := rest) hnp hst (by rw [hb]; exact hd)
    have hsz : (F0 m pc ls rest).locals.size = c.maxLocals := hl.1.trans hml.symm
    have hal := X1.warmed.alike
    have hini : (Cond.initialized Mc.2.1.cls).before (Value.ref b :: As).toArray (T.setVm vm1) = true := word_at (U := T.setVm vm1) X1.warmed (gTB_good hm.1.1) (hts _ hm.1.1)
    obtain ⟨o, t, a1, a2, a3⟩ := x_callee (U := T.setVm vm1) (g := F0 m pc ls rest) X1 rfl hsz (by rw [hb]; exact hd) (hct H.size) (a := (Value.ref b :: As).toArray) (X1.named hnamed) (callW_pre (U := T.setVm vm1) X1.warmed hts hcode) (methY := methM) (cY := cM) (by rw [hal.method?]; exact hmethM) hcM hini hR.1 (by
        have := lv_room (m := m) (pc := pc) (ls := ls) (rest := rest) hrm
        have h8 := hR.2
        rw [← hlM] at h8
        show 2 * (F0 m pc ls rest).monitorRoom + (rest.map fun v => v.category).sum + (cM.maxLocals + 11) + Rc.locals ≤ R.locals
        omega) h1 h2 (xP_blind _ _ _ _ (hpre (T.setVm vm1) hT X1.warmed))
    obtain ⟨t2, b1, b2⟩ := x_back (U := T.setVm vm1) (H := H) (ig9 := 0) (mk := mk) X1 hT hS hsub (by rw [hb]; exact hd) a2 a3 (Q := MQx below Q args s mc ms A)
      (fun v S1 H1 locs1 hq hP1 hD1 hk1 hS1 => by
        obtain ⟨hP2, hD2⟩ := seg_join hP hD hc hr hn2 hdis hk1 hsub hP1 hD1
        exact kk v S1 hq p e s m args below meth c H1 locs1 ls F hS1 hP2 hD2 hl)
      (fun x cc S1 H1 locs1 cell hE hP1 hD1 hk1 hS1 hx1 hx2 hx3 => by
        obtain ⟨hP2, hD2⟩ := seg_join hP hD hc hr hn2 hdis hk1 hsub hP1 hD1
        exact ke x cc S1 hE p e s m args below meth c H1 locs1 ls cell F hS1 hP2 hD2 hl hx1 hx2 hx3)
    exact ⟨t2, st1 t2 (fun acts => by rw [doInvoke_state]; exact a1.trans b1), b2⟩
/-- the throw goes on out of the method -/
theorem Et.leave {Q0 : Option Value → List va_W → Prop} {E : Nat → List va_W → Prop} {x cc : Nat} (hcode : xcw M none ∈ gTB) (hmc : k ≤ mc) (hms : n ≤ ms) (hE : E cc S) : Et l M D R A (xQT D A Q0 E) mc ms pc lv st S k n x cc := by
  intro p e s m args below meth c H locs ls cell F hS hP hD hl hx1 hx2 hx3 T hT X
  obtain ⟨ho, hx, hb, hml, -, hown, hts, hlocks, hin, hK, hN, hX, hA, htb⟩ := id F
  have hout : c.exceptionTable.toList = [] := List.map_eq_nil_iff.mp (F.table hcode X)
  obtain ⟨h1, h2, h3, h4, h5⟩ := X.leaveThrown x (g := F0 m pc ls st) rfl rfl rfl (fun y hy => by rw [hout] at hy; cases hy) hlocks
  exact ⟨_, h1, .threw x, h2, h3, ⟨Or.inr ⟨x, cc, S, cell, rfl, hE, by rw [show (T.setFrames _).heap = T.heap from rfl, hT]; exact hP, hD, by rw [show (T.setFrames _).heap = T.heap from rfl, hT]; exact hx1, hx2, hx3⟩, by rw [show (T.setFrames _).heap = T.heap from rfl, hT]; exact hS.1, fun q h1 h2 => by rw [show (T.setFrames _).heap = T.heap from rfl, hT]; exact hS.2.1 q h1 h2⟩, h4, locs, h5.mono hmc hms, hS.2.2⟩
/-- caught -/
theorem Et.catch {hh : xH} {j : Nat} {X : String} {q : Nat × Nat × Nat × Nat} {x cc : Nat} (hcode : xcw M (some hh) ∈ gTB) (hX : gON[cc]? = some X) (hcc : cc < 13) (hj : hh[j]? = some q) (hcov : q.1 ≤ pc ∧ pc < q.2.1) (h0 : q.2.2.2 ≠ 0) (hlink : Cond.classLink M.2.1.cls q.2.2.2 X ∈ gTB)
    (hpre : ∀ i r, i < j → hh[i]? = some r → r.2.2.2 ≠ 0 ∧ cc = 11 ∧ Cond.classLink M.2.1.cls r.2.2.2 "java/lang/IndexOutOfBoundsException" ∈ gTB) (kk : Ex l M D R A Q mc ms q.2.2.1 lv [.ref x] S k n) : Et l M D R A Q mc ms pc lv st S k n x cc := by
  intro p e s m args below meth c H locs ls cell F hS hP hD hl hx1 hx2 hx3 T hT X0
  obtain ⟨ho, hx, hb, hml, -, hown, hts, hlocks, hin, hK, hN, hXs, hA, htb⟩ := id F
  have htab := F.table hcode X0
  have htab : c.exceptionTable.toList.map (fun h => (h.startPc, h.endPc, h.handlerPc, h.catchType)) = hh := htab
  have hlen : j < c.exceptionTable.toList.length := by
    have := (List.getElem?_eq_some_iff.mp hj).1
    rw [← htab, List.length_map] at this
    exact this
  have hat : ∀ i (h : i < c.exceptionTable.toList.length), hh[i]? = some (c.exceptionTable.toList[i].startPc, c.exceptionTable.toList[i].endPc, c.exceptionTable.toList[i].handlerPc, c.exceptionTable.toList[i].catchType) := by
    intro i h
    rw [← htab, List.getElem?_map, List.getElem?_eq_getElem h]
    rfl
  have hq := Option.some.inj ((hat j hlen).symm.trans hj)
  cases hr0 : gCL[cc]? with
  | none => exact absurd (List.getElem?_eq_none_iff.mp hr0) (by show ¬ (13 ≤ cc); omega)
  | some r =>
    have hfX : s.vm.findClass X = some cell.cls := by
      have := (hK.1 cc r hr0).2.1
      rw [Option.some.inj ((gNM_at hr0).symm.trans hX)] at this
      rw [hx3]
      exact this
    have hpl : e.platform.magicAccessors = ({} : Platform).magicAccessors := by rw [X0.admits.platform]
    have hct : (c.exceptionTable.toList[j]).catchType = q.2.2.2 := by rw [← hq]
    obtain ⟨hcat, hk0⟩ := X0.catches_of_link hown (x := c.exceptionTable.toList[j]) (by rw [hct]; exact h0) (by rw [hct]; exact hts _ hlink) hfX (asg_self s.vm cell.cls)
    obtain ⟨vm', X1, st1⟩ := X0.caughtThrough x (g := F0 m pc ls st) rfl (cell := cell) (by rw [hT]; exact hx1) (by rw [hx2]; rfl) hk0 (c.exceptionTable.toList.take j) c.exceptionTable.toList[j] (c.exceptionTable.toList.drop (j + 1)) (by rw [← List.drop_eq_getElem_cons hlen, List.take_append_drop])
      (fun y hy => by
        obtain ⟨i, hi⟩ := List.mem_iff_getElem?.mp hy
        obtain ⟨hi1, hi2⟩ := List.getElem?_eq_some_iff.mp hi
        rw [List.length_take] at hi1
        rw [List.getElem_take] at hi2
        have hil : i < c.exceptionTable.toList.length := by omega
        obtain ⟨p1, p2, p3⟩ := hpre i _ (by omega) (hat i hil)
        rw [hi2] at p1 p3
        obtain ⟨c', hc', hcl⟩ := Cond.classLink_spec hown (hts _ p3) e.platform hpl
        have hIO : s.vm.findClass "java/lang/IndexOutOfBoundsException" = some (D.1 12) := (hK.1 12 _ rfl).2.1
        cases hIO.symm.trans hc'
        refine Or.inr ⟨p1, D.1 12, hcl, ?_⟩
        rw [hx3, p2]
        exact hN.2.1.2) (by
        have e1 : (c.exceptionTable.toList[j]).startPc = q.1 := by rw [← hq]
        have e2 : (c.exceptionTable.toList[j]).endPc = q.2.1 := by rw [← hq]
        simp only [covers, e1, e2]
        simp [hcov.1, hcov.2]) hcat
    have hh9 : (c.exceptionTable.toList[j]).handlerPc = q.2.2.1 := by rw [← hq]
    obtain ⟨t2, b1, b2⟩ := kk p e s m args below meth c H locs ls F hS hP hD hl (T.setVm vm') hT X1
    refine ⟨t2, ?_, b2⟩
    rw [X0.pushThrowing_eq]
    refine st1 t2 ?_
    rw [hh9]
    exact b1
/-- 'invokestatic' of a method with handlers, which throws nothing -/
theorem Ex.csW {Mc : xM} {hh : xH} {Rc : Room} {ix : Nat} {As rest st0 : List Value} {Q0 : Option Value → List va_W → Prop} {Sc Sr : List va_W} (is rs : List Nat) (hct : CtT l Mc (some hh) D Rc As Sc Q0 (fun _ _ => False)) (hf : xfe M.2.2.2.2.2 pc = some (.invokestatic ix)) (hlk : Lk M.2.1.cls ix Mc) (hcw : xcw Mc (some hh) ∈ gTB) (hcs : Cond.static Mc.2.1 ∈ gTB) (hini : Cond.initialized Mc.2.1.cls ∈ gTB) (hpn : plainName Mc.2.1.cls = true ∧ Mc.2.1.cls ≠ "java/lang/invoke/MethodHandle" ∧ Mc.2.1.cls ≠ "java/lang/invoke/VarHandle") (hnp : (parseMethodDescriptor Mc.2.1.desc).map (fun d => d.parameters.length) = some As.length)
    (hst : st0 = As.reverse ++ rest) (hc : pk S is Sc) (hr : pk S rs Sr) (hn1 : va_nd is = true) (hn2 : va_nd rs = true) (hdis : ∀ i ∈ rs, i ∉ is)
    (hR : Rc.frames + 1 ≤ R.frames ∧ 8 + (Mc.2.2.2.1 + 11) + Rc.locals ≤ R.locals) (hrm : (rest.map fun v => v.category).sum ≤ 8) (h1 : k + Rc.cells ≤ R.cells) (h2 : n + Rc.slots ≤ R.slots)
    (kk : ∀ (v : Option Value) (S1 : List va_W), Q0 v S1 → Ex l M D R A Q mc ms (pc + 3) lv (v.toList ++ rest) (Sr ++ S1) (k + Rc.cells) (n + Rc.slots)) : Ex l M D R A Q mc ms pc lv st0 S k n := by
  intro p e s m args below meth c H locs ls F hS hP hD hl
  obtain ⟨ho, hx, hb, hml, -, hown, hts, -, hin, hK, hN, hX, hA, htb⟩ := id F
  have hd := htb _ (xfe_mem _ _ _ hf)
  obtain ⟨hpre, hsub⟩ := x_pre (av := As) F hS hP hD hc hn1
  intro T hT X
  obtain ⟨mk, methM, cM, hnamed, hmethM, hcM, -, hlM, -, -, -, hsigM⟩ := Cond.codeWith_spec (hts _ hcw)
  have hstatic : methM.isStatic = true := Cond.static_spec hnamed hmethM (hts _ hcs)
  obtain ⟨kP, hkP, -⟩ := className_of_methodNamed hnamed
  have hinitP : kP.init = .initialized := Cond.initialized_spec (findClass_of_methodNamed hnamed) hkP (hts _ hini)
  have hlen : As.length = methM.sig.parameters.length := by
    rw [hsigM] at hnp
    exact (Option.some.inj hnp).symm
  obtain ⟨vm1, X1, st1⟩ := X.invokestatic hx hown (hts _ hlk) hnamed hmethM hstatic hkP hinitP hpn.2 (g := F0 m pc ls st0) rfl (argsL := As) (rest := rest) hlen hst (by rw [hb]; exact hd)
  have hsz : (F0 m pc ls rest).locals.size = c.maxLocals := hl.1.trans hml.symm
  have hal := X1.warmed.alike
  have hini1 : (Cond.initialized Mc.2.1.cls).before As.toArray (T.setVm vm1) = true := word_at (U := T.setVm vm1) X1.warmed (gTB_good hini) (hts _ hini)
  obtain ⟨o, t, a1, a2, a3⟩ := x_callee (U := T.setVm vm1) (g := F0 m pc ls rest) X1 rfl hsz (by rw [hb]; exact hd) (hct H.size) (a := As.toArray) (X1.named hnamed) (callW_pre (U := T.setVm vm1) X1.warmed hts hcw) (methY := methM) (cY := cM) (by rw [hal.method?]; exact hmethM) hcM hini1 hR.1 (by
      have := lv_room (m := m) (pc := pc) (ls := ls) (rest := rest) hrm
      have h8 := hR.2
      rw [← hlM] at h8
      show 2 * (F0 m pc ls rest).monitorRoom + (rest.map fun v => v.category).sum + (cM.maxLocals + 11) + Rc.locals ≤ R.locals
      omega) h1 h2 (xP_blind _ _ _ _ (hpre (T.setVm vm1) hT X1.warmed))
  obtain ⟨t2, b1, b2⟩ := x_back (U := T.setVm vm1) (H := H) (ig9 := 0) (mk := mk) X1 hT hS hsub (by rw [hb]; exact hd) a2 a3 (Q := MQx below Q args s mc ms A)
    (fun v S1 H1 locs1 hq hP1 hD1 hk1 hS1 => by
      obtain ⟨hP2, hD2⟩ := seg_join hP hD hc hr hn2 hdis hk1 hsub hP1 hD1
      exact kk v S1 hq p e s m args below meth c H1 locs1 ls F hS1 hP2 hD2 hl)
    (fun x cc S1 H1 locs1 cell hE => hE.elim)
  exact ⟨t2, st1 t2 (fun acts => by rw [doInvoke_state]; exact a1.trans b1), b2⟩
end XT5

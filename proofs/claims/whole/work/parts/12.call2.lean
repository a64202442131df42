/-! OWN FRAME 9: calls, the rows -/
section XC
variable {p : Program} {l : Launch} {e : Env} {R : Room} {s : State} {m : MethodId} {args : Array Value} {below : List Frame} {meth : Method} {c : Code} {H : Heap} {locs : List Loc} {cells slots : Nat} {Q : State → Prop}
theorem x_call {D : xD} {pc : Nat} {ls : Array Slot} {rest st0 : List Value} {a : Array Value} {A A1 : Nat → Prop} {H0 : Heap} {mc ms : Nat} {Q0 : Option Value → List va_W → Prop} (hr : va_Run p l e R s m args below meth c H locs cells slots mc ms (F0 m pc ls st0) rest (xQ D A1 Q0 a) A1) (hS : va_S A H0 H locs) (hA : ∀ q, A1 q → A q)
    (kk : ∀ (v : Option Value) (S1 : List va_W) (H1 : Heap) (locs1 : List Loc), Q0 v S1 → va_P (xG D) gCL S1.flatten H1 → va_D A1 S1.flatten → (∀ q : Nat, q < H.size → ¬ A1 q → H1[q]? = H[q]?) → va_S A H0 H1 locs1 → W p l e R s m args below meth c H1 locs1 (cells + mc) (slots + ms) Q (F0 m (pc + 3) ls (v.toList ++ rest))) : W p l e R s m args below meth c H locs cells slots Q (F0 m pc ls st0) := by
  intro T hT X
  obtain ⟨v, st₀, t, T', L, h0, X', hL, e1, e2, ⟨⟨v', S1, hv, hq, hP, hD⟩, hz, hk⟩, st⟩ := hr T hT X
  cases hv
  rw [h0] at hz hk
  obtain ⟨t2, a1, b1⟩ := kk v S1 T'.heap (locs ++ L) hq (by rw [e1]; exact hP) hD (fun q h1 h2 => by rw [e1]; exact hk q h1 h2)
    ⟨Nat.le_trans hS.1 (by rw [e1]; exact hz), fun q h1 h2 => by rw [e1, hk q (Nat.lt_of_lt_of_le h1 hS.1) (fun z => h2 (hA q z))]; exact hS.2.1 q h1 h2, fun q hq => by
      rcases List.mem_append.mp hq with h | h
      · exact hS.2.2 q h
      · exact hA _ (hL q h)⟩ T' rfl X'
  exact ⟨t2, st t2 a1, b1⟩
end XC
/-- what the tables say of a method: its code, its class -/
def LkM (M : xM) (np : Nat) : Prop := Cond.initialized M.2.1.cls ∈ gTB ∧ Cond.code M.2.1 M.2.2.1 M.2.2.2.1 M.2.2.2.2.1 ∈ gTB ∧ M.2.1.cls ≠ "java/lang/invoke/MethodHandle" ∧ M.2.1.cls ≠ "java/lang/invoke/VarHandle" ∧ (parseMethodDescriptor M.2.1.desc).map (fun d => d.parameters.length) = some np
def LkV (M : xM) (np : Nat) : Prop := LkM M np ∧ Cond.instanceMethod M.2.1 ∈ gTB ∧ Cond.selects M.2.1.cls M.2.1 M.2.1 ∈ gTB
def LkS (M : xM) (np : Nat) : Prop := LkM M np ∧ Cond.static M.2.1 ∈ gTB
def LkI (M : xM) (np : Nat) : Prop := LkM M np ∧ Cond.instanceMethod M.2.1 ∈ gTB ∧ M.2.1.name = "<init>" ∧ M.2.2.2.2.1 = none
/-- a call's own link -/
def Lk (own : String) (ix : Nat) (M : xM) : Prop := Cond.methodLink own ix M.2.1 ∈ gTB
def LkN (own : String) (ix : Nat) (M : xM) : Prop := Cond.methodLinkNest own ix M.2.1 "DrillArchive" ∈ gNW
theorem gTB_good {w : Cond} (h : w ∈ gTB) : (w.onTables && w.keeps) = true ∨ ∃ ty, w = .arrayClass ty := good_of_word (List.mem_filter.mp h).2
theorem LkM.good {M : xM} {np : Nat} (h : LkM M np) : GoodIn gTB (xW M) := by
  intro w hw
  rcases List.mem_cons.mp hw with rfl | hw
  · exact ⟨h.2.1, gTB_good h.2.1⟩
  · exact ⟨hw, gTB_good hw⟩
theorem xP_blind {D : xD} {av : List Value} {S : List va_W} {sz : Nat} : FrameBlind (xP D av S sz) := by
  intro a U g mk q
  obtain ⟨q0, q1, qP, qK, qD, qN, qX⟩ := q
  exact ⟨q0, q1, qP, va_K.moved (u := U) (U := U.calling g mk a) (Vm.Alike.refl U.vm) qK, qD, gNX.same (u := U) (U := U.calling g mk a) rfl qN, gSX.moved (u := U) (U := U.calling g mk a) (Vm.Alike.refl U.vm) qX⟩
section XC2
variable {l : Launch} {M : xM} {D : xD} {R : Room} {A : Nat → Prop} {Q : Array Value → State → Outcome → State → Prop} {mc ms pc k n : Nat} {lv : List (Nat × Value)} {S : List va_W}
/-- what a call needs of the caller's place -/
theorem x_pre {p : Program} {s : State} {m : MethodId} {args : Array Value} {meth : Method} {c : Code} {H : Heap} {locs : List Loc} {Sc : List va_W} {is : List Nat} {av : List Value} (F : Fx M D A p s m args meth c) (hS : va_S A s.heap H locs) (hP : va_P (xG D) gCL S.flatten H) (hD : va_D A S.flatten) (hc : pk S is Sc) (hn : va_nd is = true) :
    (∀ U : State, U.heap = H → s.WarmedH U.vm → xP D av Sc H.size av.toArray U) ∧ ∀ q, va_A Sc.flatten H.size q → A q := by
  obtain ⟨ho, hx, hb, -, -, hown, hts, -, hin, hK, hN, hX, hA, htb⟩ := id F
  have hsub : ∀ q, va_A Sc.flatten H.size q → A q := by
    intro q h
    rcases h with ⟨k2, e2, h⟩ | h
    · exact (va_D_iff.mp hD).2 _ (hc.sub (List.mem_of_getElem? h))
    · exact hA q (Nat.le_trans hS.1 h)
  refine ⟨fun U hU hW => ⟨rfl, by rw [hU], by rw [hU]; exact va_P_iff.mpr fun q hq => va_P_iff.mp hP q (hc.sub hq), va_K.moved hW.alike hK, va_D_iff.mpr ⟨sg_iff.mpr (hc.sg hn (sg_iff.mp (va_D_iff.mp hD).1)), fun _ _ => trivial⟩, hN.warm hW, ?_⟩, hsub⟩
  rw [hU]
  exact ((hX.kept (H1 := H) (fun a h1 h2 => hS.2.1 a h1 h2)).narrow hsub).moved hW.alike
theorem Ex.cv {Mc : xM} {Rc : Room} {b ix ic jc ci : Nat} {As rest st0 : List Value} {Q0 : Option Value → List va_W → Prop} {Sc Sr : List va_W} {C : va_W} {fs : List Value} (is rs : List Nat) (hct : Ct l Mc D Rc (.ref b :: As) Sc Q0) (hf : xfe M.2.2.2.2.2 pc = some (.invokevirtual ix)) (hlk : Lk M.2.1.cls ix Mc) (hm : LkV Mc As.length)
    (hst : st0 = As.reverse ++ .ref b :: rest) (hc : pk S is Sc) (hr : pk S rs Sr) (hn1 : va_nd is = true) (hn2 : va_nd rs = true) (hdis : ∀ i ∈ rs, i ∉ is) (hic : S[ic]? = some C) (hjc : C[jc]? = some (b, .inr (ci, fs))) (hci : gON[ci]? = some Mc.2.1.cls) (hlt : ci < 13)
    (hR : Rc.frames + 1 ≤ R.frames ∧ 8 + (Mc.2.2.2.1 + 11) + Rc.locals ≤ R.locals) (hrm : (rest.map fun v => v.category).sum ≤ 8) (h1 : k + Rc.cells ≤ R.cells) (h2 : n + Rc.slots ≤ R.slots)
    (kk : ∀ (v : Option Value) (S1 : List va_W), Q0 v S1 → Ex l M D R A Q mc ms (pc + 3) lv (v.toList ++ rest) (Sr ++ S1) (k + Rc.cells) (n + Rc.slots)) : Ex l M D R A Q mc ms pc lv st0 S k n := by
  intro p e s m args below meth c H locs ls F hS hP hD hl
  obtain ⟨ho, hx, hb, hml, -, hown, hts, -, hin, hK, hN, hX, hA, htb⟩ := id F
  have hd := htb _ (xfe_mem _ _ _ hf)
  obtain ⟨hpre, hsub⟩ := x_pre (av := .ref b :: As) F hS hP hD hc hn1
  obtain ⟨q0, hq0, -⟩ := fl_pos S ic jc C _ hic hjc
  cases hr0 : gCL[ci]? with
  | none => exact absurd (List.getElem?_eq_none_iff.mp hr0) (by show ¬ (13 ≤ ci); omega)
  | some r =>
    have hrn : r.1 = Mc.2.1.cls := Option.some.inj ((gNM_at hr0).symm.trans hci)
    obtain ⟨cell, g1, g2, g3⟩ := va_recv hK hP hr0 hq0
    rw [hrn] at g3
    refine x_call (va_runV (C := Mc.2.1.cls) (As := As) (rest := rest) ⟨hx, hb, hml, hown, hts⟩ (hct H.size) ⟨callB_of As.length hts hm.1.good rfl rfl rfl (hts _ hm.1.1) (hts _ hlk) hm.1.2.2 hR, hts _ hm.2.1, hts _ hm.2.2⟩ ⟨xP_blind, ⟨cell, g1, g2, g3⟩, hpre⟩ rfl rfl hl.1 hst (lv_room hrm) hd ⟨h1, h2⟩) hS hsub (fun v S1 H1 locs1 hq hP1 hD1 hk1 hS1 => ?_)
    obtain ⟨hP2, hD2⟩ := seg_join hP hD hc hr hn2 hdis hk1 hsub hP1 hD1
    exact kk v S1 hq p e s m args below meth c H1 locs1 ls F hS1 hP2 hD2 hl
end XC2

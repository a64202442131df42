/-! OWN FRAME 14: the law: the same walk, with the script beside it -/
abbrev xX : Type := Nat × Nat × (Nat → Int32)
/-- what stays the same in the law: the method, and the script at its cell -/
def Fy (X : xX) (M : xM) (D : xD) (A : Nat → Prop) (p : Program) (s : State) (m : MethodId) (args : Array Value) (meth : Method) (c : Code) : Prop := Fx M D A p s m args meth c ∧ va_X X.1 X.2.1 X.2.2 s s.heap ∧ X.1 < s.heap.size ∧ ¬ A X.1
def Ey (X : xX) (l : Launch) (M : xM) (D : xD) (R : Room) (A : Nat → Prop) (Q : Array Value → State → Outcome → State → Prop) (mc ms : Nat) (pc : Nat) (lv : List (Nat × Value)) (st : List Value) (S : List va_W) (k n : Nat) : Prop :=
  ∀ (p : Program) (e : Env) (s : State) (m : MethodId) (args : Array Value) (below : List Frame) (meth : Method) (c : Code) (H : Heap) (locs : List Loc) (ls : Array Slot),
    Fy X M D A p s m args meth c → va_S A s.heap H locs → va_P (xG D) gCL S.flatten H → va_D A S.flatten → lv_has ls M.2.2.2.1 lv →
    W p l e R s m args below meth c H locs k n (MQx below Q args s mc ms A) (F0 m pc ls st)
section YE
variable {X : xX} {l : Launch} {M : xM} {D : xD} {R : Room} {A : Nat → Prop} {Q : Array Value → State → Outcome → State → Prop} {mc ms pc pc' k n : Nat} {lv lv' : List (Nat × Value)} {st st' : List Value} {S S' : List va_W} {C : va_W} {a : Nat} {ce : va_E}
theorem Ey.p (hs : xst M.2.2.2.2.2 M.2.2.2.1 pc lv st = some (pc', lv', st')) (kk : Ey X l M D R A Q mc ms pc' lv' st' S k n) : Ey X l M D R A Q mc ms pc lv st S k n := by
  intro p e s m args below meth c H locs ls F hS hP hD hl
  obtain ⟨-, hx, hb, -, -, -, -, -, -, -, -, -, -, htb⟩ := id F.1
  exact xst_ok hx hb htb hl hs (fun ls' hl' => kk p e s m args below meth c H locs ls' F hS hP hD hl')
theorem Ey.br {P : Prop} (hs : xbr M.2.2.2.2.2 pc st = some (P, pc', st')) (kt : P → Ey X l M D R A Q mc ms pc' lv st' S k n) (kf : ¬ P → Ey X l M D R A Q mc ms (pc + 3) lv st' S k n) : Ey X l M D R A Q mc ms pc lv st S k n := by
  intro p e s m args below meth c H locs ls F hS hP hD hl
  obtain ⟨-, hx, hb, -, -, -, -, -, -, -, -, -, -, htb⟩ := id F.1
  have kt' := fun h => kt h p e s m args below meth c H locs ls F hS hP hD hl
  have kf' := fun h => kf h p e s m args below meth c H locs ls F hS hP hD hl
  unfold xbr at hs
  split at hs
  · rename_i cd off hf
    have hd := htb _ (xfe_mem _ _ _ hf)
    split at hs
    · rename_i ht
      cases cd <;> cases hs
      · exact lv_if_eq hx hb hd ht kt' kf'
      · exact lv_if_ne hx hb hd ht kt' (fun h => kf' (fun q => q h))
      · exact lv_if_lt hx hb hd ht kt' kf'
      · exact lv_if_ge hx hb hd ht kt' kf'
      · exact lv_if_gt hx hb hd ht kt' kf'
      · exact lv_if_le hx hb hd ht kt' kf'
    · cases hs
  · rename_i cd off hf
    have hd := htb _ (xfe_mem _ _ _ hf)
    split at hs
    · rename_i ht
      cases cd <;> cases hs
      · exact lv_icmp_eq hx hb hd ht kt' kf'
      · exact lv_icmp_ne hx hb hd ht kt' (fun h => kf' (fun q => q h))
      · exact lv_icmp_lt hx hb hd ht kt' kf'
      · exact lv_icmp_ge hx hb hd ht kt' kf'
      · exact lv_icmp_gt hx hb hd ht kt' kf'
      · exact lv_icmp_le hx hb hd ht kt' kf'
    · cases hs
  · cases hs
theorem Ey.more {k' n' : Nat} (h1 : k ≤ k') (h2 : n ≤ n') (kk : Ey X l M D R A Q mc ms pc lv st S k' n') : Ey X l M D R A Q mc ms pc lv st S k n := by
  intro p e s m args below meth c H locs ls F hS hP hD hl
  exact W.widen h1 h2 (kk p e s m args below meth c H locs ls F hS hP hD hl)
theorem Ey.lal (i j jx : Nat) {N : Nat} {f : Nat → Int64} {x : Int32} (hi : S[i]? = some C) (hj : C[j]? = some (a, .inl (D.2.2.1 2, N, .inr (.inl f)))) (hf : xfe M.2.2.2.2.2 pc = some .laload) (hx9 : x.toInt = jx) (hN9 : jx < N) (kk : Ey X l M D R A Q mc ms (pc + 1) lv (.long (f jx) :: st) S k n) : Ey X l M D R A Q mc ms pc lv (.int x :: .ref a :: st) S k n := by
  intro p e s m args below meth c H locs ls F hS hP hD hl
  obtain ⟨ho, hx, hb, -, -, hown, hts, -, hin, hK, hN, hX, hA, htb⟩ := id F.1
  have hd := htb _ (xfe_mem _ _ _ hf)
  obtain ⟨q0, hq0, -⟩ := fl_pos S i j C _ hi hj
  refine va_lald hx hb hK hP q0 2 hq0 rfl (vp_in_int hx9 hN9) hd ?_
  rw [clamp_int hx9]
  exact kk p e s m args below meth c H locs ls F hS hP hD hl
theorem Ey.ldc2 {v : Int64} (hg : xcj M pc = some v) (kk : Ey X l M D R A Q mc ms (pc + 3) lv (.long v :: st) S k n) : Ey X l M D R A Q mc ms pc lv st S k n := by
  intro p e s m args below meth c H locs ls F hS hP hD hl
  obtain ⟨ho, hx, hb, -, -, hown, hts, -, hin, hK, hN, hX, hA, htb⟩ := id F.1
  unfold xcj at hg
  split at hg
  · rename_i ix hf
    have hd := htb _ (xfe_mem _ _ _ hf)
    have h1 := List.all_eq_true.mp gCJ_b _ (xf3_mem _ _ _ _ hg)
    simp only [decide_eq_true_eq, gON_D ho] at h1
    exact lv_ldc2 hx hb hown (hts _ h1) hd (kk p e s m args below meth c H locs ls F hS hP hD hl)
  · cases hg
theorem Ey.new {ci N : Nat} (hg : xnw M pc = some ci) (hc : (gCL[ci]?).map (fun r => r.2.2) = some N) (h1 : k + 1 ≤ R.cells) (h2 : n + N ≤ R.slots) (kk : ∀ q : Nat, Ey X l M D R A Q mc ms (pc + 3) lv (.ref q :: st) (S ++ [[(q, .inr (ci, gdf ci))]]) (k + 1) (n + N)) : Ey X l M D R A Q mc ms pc lv st S k n := by
  intro p e s m args below meth c H locs ls F hS hP hD hl
  obtain ⟨ho, hx, hb, -, -, hown, hts, -, hin, hK, hN, hX, hA, htb⟩ := id F.1
  unfold xnw at hg
  split at hg
  · rename_i ix hf
    have hd := htb _ (xfe_mem _ _ _ hf)
    have h3 := List.all_eq_true.mp gKL_b _ (xf3_mem _ _ _ _ hg)
    cases hr : gCL[ci]? with
    | none => rw [hr] at hc; cases hc
    | some r =>
      rw [hr] at hc
      simp only [Option.map_some, Option.some.injEq] at hc
      subst hc
      have hok := gCL_ok r (List.mem_of_getElem? hr)
      simp only [decide_eq_true_eq, gON_D ho, gON_D (gNM_at hr)] at h3
      have hlt : ci < 13 := (List.getElem?_eq_some_iff.mp hr).1
      have hdf := gdf_b ci hlt
      rw [List.getD_eq_getElem?_getD, hr] at hdf
      refine va_new hx hb hts hok.1 (gty r) hok.2.1 hown (hts _ h3) (hts _ hok.2.2.2.1) (hts _ hok.2.2.2.2) hK hP hD hS hA hr hdf h1 h2 hd (fun q H1 hP1 hD1 hS1 => ?_)
      exact kk q p e s m args below meth c H1 locs ls F hS1 (by simpa using hP1) (by simpa using hD1) hl
  · cases hg
theorem Ey.newl {x : Int32} {N : Nat} (hf : xfe M.2.2.2.2.2 pc = some (.newarray .long)) (hx9 : x.toInt = N) (hN9 : N ≤ 1000000) (h1 : k + 1 ≤ R.cells) (h2 : n + N ≤ R.slots) (kk : ∀ q : Nat, Ey X l M D R A Q mc ms (pc + 2) lv (.ref q :: st) (S ++ [[(q, .inl (D.2.2.1 2, N, .inr (.inl (fun _ => 0))))]]) (k + 1) (n + N)) : Ey X l M D R A Q mc ms pc lv (.int x :: st) S k n := by
  intro p e s m args below meth c H locs ls F hS hP hD hl
  obtain ⟨ho, hx, hb, -, -, hown, hts, -, hin, hK, hN, hX, hA, htb⟩ := id F.1
  have hd := htb _ (xfe_mem _ _ _ hf)
  have h3 : Cond.arrayClass (newarray.typeOf .long) ∈ gTB := gAC.2.2
  refine va_newa (atype := .long) hx hb (hts _ h3) rfl hK hP hD hS hA (N' := N) (a0 := (N, .inr (.inl (fun _ => 0)))) (fun _ => rfl) (by rw [Int32.lt_iff_toInt_lt, hx9]; simp) (clamp_int hx9) (by show N * 8 ≤ 536870912; omega) h1 h2 hd (fun q cA H1 hK1 hP1 hD1 hS1 => ?_)
  have e1 : s.vm.findClass ("[" ++ (FieldType.long).toString) = some cA := (hK1.2 6 _ rfl).2
  have e2 : s.vm.findClass ("[" ++ (FieldType.long).toString) = some (D.2.2.1 2) := (hK.2 2 _ rfl).2
  have e3 : cA = D.2.2.1 2 := Option.some.inj (e1.symm.trans e2)
  subst e3
  exact kk q p e s m args below meth c H1 locs ls F hS1 (by simpa using hP1) (by simpa using hD1) hl
theorem Ey.zret {v : Int32} {Q0 : Option Value → List va_W → Prop} (hf : xfe M.2.2.2.2.2 pc = some .ireturn) (hr9 : M.2.2.2.2.1 = some .boolean) (hv : v = 0 ∨ v = 1) (hk : k ≤ mc) (hn : n ≤ ms) (hS9 : S.flatten = S'.flatten) (hq : Q0 (some (.int v)) S') : Ey X l M D R A (xQ D A Q0) mc ms pc lv [.int v] S k n := by
  intro p e s m args below meth c H locs ls F hS hP hD hl
  obtain ⟨ho, hx, hb, -, hr, hown, hts, hlocks, hin, hK, hN, hX, hA, htb⟩ := id F.1
  have hd := htb _ (xfe_mem _ _ _ hf)
  refine W.widen hk hn ?_
  rw [hS9] at hP hD
  exact W.x (W.zret hx hb (hr.trans hr9) (by rcases hv with rfl | rfl <;> decide) (fun t ht hW => ⟨⟨_, S', rfl, hq, by rw [ht]; exact hP, hD⟩, hS.F ht⟩) hS.2.2 hd)
theorem Ey.swO {dflt lo hi : Int} {offs : Array Int} {len t : Nat} {x : Int32} (hd : decode M.2.2.1 pc = .ok (.tableswitch dflt lo hi offs, len)) (h : x.toInt < lo ∨ hi < x.toInt) (ht : (pc : Int) + dflt = (t : Int)) (kk : Ey X l M D R A Q mc ms t lv st S k n) : Ey X l M D R A Q mc ms pc lv (.int x :: st) S k n := by
  intro p e s m args below meth c H locs ls F hS hP hD hl
  obtain ⟨ho, hx, hb, -, -, hown, hts, -, hin, hK, hN, hX, hA, htb⟩ := id F.1
  exact lv_tableOut hx hb hd h ht (kk p e s m args below meth c H locs ls F hS hP hD hl)
theorem Ey.swI {dflt lo hi off : Int} {offs : Array Int} {len t : Nat} {x : Int32} (hd : decode M.2.2.1 pc = .ok (.tableswitch dflt lo hi offs, len)) (h1 : ¬ x.toInt < lo) (h2 : ¬ hi < x.toInt) (ho : offs[(x.toInt - lo).toNat]? = some off) (ht : (pc : Int) + off = (t : Int)) (kk : Ey X l M D R A Q mc ms t lv st S k n) : Ey X l M D R A Q mc ms pc lv (.int x :: st) S k n := by
  intro p e s m args below meth c H locs ls F hS hP hD hl
  obtain ⟨hoo, hx, hb, -, -, hown, hts, -, hin, hK, hN, hX, hA, htb⟩ := id F.1
  exact lv_tableIn hx hb hd h1 h2 ho ht (kk p e s m args below meth c H locs ls F hS hP hD hl)
theorem Ey.cv {Mc : xM} {Rc : Room} {b ix ic jc ci : Nat} {As rest st0 : List Value} {Q0 : Option Value → List va_W → Prop} {Sc Sr : List va_W} {C : va_W} {fs : List Value} (is rs : List Nat) (hct : Ct l Mc D Rc (.ref b :: As) Sc Q0) (hf : xfe M.2.2.2.2.2 pc = some (.invokevirtual ix)) (hlk : Lk M.2.1.cls ix Mc) (hm : LkV Mc As.length)
    (hst : st0 = As.reverse ++ .ref b :: rest) (hc : pk S is Sc) (hr : pk S rs Sr) (hn1 : va_nd is = true) (hn2 : va_nd rs = true) (hdis : ∀ i ∈ rs, i ∉ is) (hic : S[ic]? = some C) (hjc : C[jc]? = some (b, .inr (ci, fs))) (hci : gON[ci]? = some Mc.2.1.cls) (hlt : ci < 13)
    (hR : Rc.frames + 1 ≤ R.frames ∧ 8 + (Mc.2.2.2.1 + 11) + Rc.locals ≤ R.locals) (hrm : (rest.map fun v => v.category).sum ≤ 8) (h1 : k + Rc.cells ≤ R.cells) (h2 : n + Rc.slots ≤ R.slots)
    (kk : ∀ (v : Option Value) (S1 : List va_W), Q0 v S1 → Ey X l M D R A Q mc ms (pc + 3) lv (v.toList ++ rest) (Sr ++ S1) (k + Rc.cells) (n + Rc.slots)) : Ey X l M D R A Q mc ms pc lv st0 S k n := by
  intro p e s m args below meth c H locs ls F hS hP hD hl
  obtain ⟨ho, hx, hb, hml, -, hown, hts, -, hin, hK, hN, hX, hA, htb⟩ := id F.1
  have hd := htb _ (xfe_mem _ _ _ hf)
  obtain ⟨hpre, hsub⟩ := x_pre (av := .ref b :: As) F.1 hS hP hD hc hn1
  obtain ⟨q0, hq0, -⟩ := fl_pos S ic jc C _ hic hjc
  cases hr0 : gCL[ci]? with
  | none => exact absurd (List.getElem?_eq_none_iff.mp hr0) (by show ¬ (13 ≤ ci); omega)
  | some r =>
    have hrn : r.1 = Mc.2.1.cls := Option.some.inj ((gNM_at hr0).symm.trans hci)
    obtain ⟨cell, g1, g2, g3⟩ := va_recv hK hP hr0 hq0
    rw [hrn] at g3
    refine x_call (va_runV (C := Mc.2.1.cls) (As := As) (rest := rest) ⟨hx, hb, hml, hown, hts⟩ (hct H.size) ⟨callB_of As.length hts hm.1.good rfl rfl rfl (hts _ hm.1.1) (hts _ hlk) hm.1.2.2 hR, hts _ hm.2.1, hts _ hm.2.2⟩ ⟨xP_blind, ⟨cell, g1, g2, g3⟩, hpre⟩ rfl rfl hl.1 hst (lv_room hrm) hd ⟨h1, h2⟩) hS hsub (fun v S1 H1 locs1 hq hP1 hD1 hk1 hS1 => ?_)
    obtain ⟨hP2, hD2⟩ := seg_join hP hD hc hr hn2 hdis hk1 hsub hP1 hD1
    exact kk v S1 hq p e s m args below meth c H1 locs1 ls F hS1 hP2 hD2 hl
theorem Ey.ci {Mc : xM} {Rc : Room} {b ix : Nat} {As rest st0 : List Value} {Q0 : Option Value → List va_W → Prop} {Sc Sr : List va_W} (is rs : List Nat) (hct : Ct l Mc D Rc (.ref b :: As) Sc Q0) (hf : xfe M.2.2.2.2.2 pc = some (.invokespecial ix)) (hlk : Lk M.2.1.cls ix Mc) (hm : LkI Mc As.length)
    (hst : st0 = As.reverse ++ .ref b :: rest) (hc : pk S is Sc) (hr : pk S rs Sr) (hn1 : va_nd is = true) (hn2 : va_nd rs = true) (hdis : ∀ i ∈ rs, i ∉ is)
    (hR : Rc.frames + 1 ≤ R.frames ∧ 8 + (Mc.2.2.2.1 + 11) + Rc.locals ≤ R.locals) (hrm : (rest.map fun v => v.category).sum ≤ 8) (h1 : k + Rc.cells ≤ R.cells) (h2 : n + Rc.slots ≤ R.slots)
    (kk : ∀ (v : Option Value) (S1 : List va_W), Q0 v S1 → Ey X l M D R A Q mc ms (pc + 3) lv (v.toList ++ rest) (Sr ++ S1) (k + Rc.cells) (n + Rc.slots)) : Ey X l M D R A Q mc ms pc lv st0 S k n := by
  intro p e s m args below meth c H locs ls F hS hP hD hl
  obtain ⟨ho, hx, hb, hml, -, hown, hts, -, hin, hK, hN, hX, hA, htb⟩ := id F.1
  have hd := htb _ (xfe_mem _ _ _ hf)
  obtain ⟨hpre, hsub⟩ := x_pre (av := (.ref b :: As)) F.1 hS hP hD hc hn1
  have hcb := callB_of (ret := Mc.2.2.2.2.1) As.length hts hm.1.good rfl rfl rfl (hts _ hm.1.1) (hts _ hlk) hm.1.2.2 hR
  rw [hm.2.2.2] at hcb
  refine x_call (va_runI (As := As) (rest := rest) ⟨hx, hb, hml, hown, hts⟩ (hct H.size) ⟨hcb, hm.2.2.1, hts _ hm.2.1⟩ ⟨xP_blind, hpre⟩ rfl rfl hl.1 hst (lv_room hrm) hd ⟨h1, h2⟩) hS hsub (fun v S1 H1 locs1 hq hP1 hD1 hk1 hS1 => ?_)
  obtain ⟨hP2, hD2⟩ := seg_join hP hD hc hr hn2 hdis hk1 hsub hP1 hD1
  exact kk v S1 hq p e s m args below meth c H1 locs1 ls F hS1 hP2 hD2 hl
theorem Ey.sub (is : List Nat) (hp : pk S is S') (hn : va_nd is = true) (kk : Ey X l M D R A Q mc ms pc lv st S' k n) : Ey X l M D R A Q mc ms pc lv st S k n := by
  intro p e s m args below meth c H locs ls F hS hP hD hl
  rw [va_P_iff] at hP
  rw [va_D_iff] at hD
  exact kk p e s m args below meth c H locs ls F hS (va_P_iff.mpr fun q hq => hP q (hp.sub hq)) (va_D_iff.mpr ⟨sg_iff.mpr (hp.sg hn (sg_iff.mp hD.1)), fun q hq => hD.2 q (hp.sub hq)⟩) hl
theorem Ey.seg (h2 : S.flatten = S'.flatten) (kk : Ey X l M D R A Q mc ms pc lv st S' k n) : Ey X l M D R A Q mc ms pc lv st S k n := by
  intro p e s m args below meth c H locs ls F hS hP hD hl
  exact kk p e s m args below meth c H locs ls F hS (h2 ▸ hP) (h2 ▸ hD) hl
theorem Ey.lc (h1 : ∀ q ∈ lv', q ∈ lv) (kk : Ey X l M D R A Q mc ms pc lv' st S k n) : Ey X l M D R A Q mc ms pc lv st S k n := by
  intro p e s m args below meth c H locs ls F hS hP hD hl
  exact kk p e s m args below meth c H locs ls F hS hP hD ⟨hl.1, hl.2.1, fun q hq => hl.2.2 q (h1 q hq)⟩

theorem Ey.csW {Mc : xM} {hh : xH} {Rc : Room} {ix : Nat} {As rest st0 : List Value} {Q0 : Option Value → List va_W → Prop} {Sc Sr : List va_W} (is rs : List Nat) (hct : CtT l Mc (some hh) D Rc As Sc Q0 (fun _ _ => False)) (hf : xfe M.2.2.2.2.2 pc = some (.invokestatic ix)) (hlk : Lk M.2.1.cls ix Mc) (hcw : xcw Mc (some hh) ∈ gTB) (hcs : Cond.static Mc.2.1 ∈ gTB) (hini : Cond.initialized Mc.2.1.cls ∈ gTB) (hpn : plainName Mc.2.1.cls = true ∧ Mc.2.1.cls ≠ "java/lang/invoke/MethodHandle" ∧ Mc.2.1.cls ≠ "java/lang/invoke/VarHandle") (hnp : (parseMethodDescriptor Mc.2.1.desc).map (fun d => d.parameters.length) = some As.length)
    (hst : st0 = As.reverse ++ rest) (hc : pk S is Sc) (hr : pk S rs Sr) (hn1 : va_nd is = true) (hn2 : va_nd rs = true) (hdis : ∀ i ∈ rs, i ∉ is)
    (hR : Rc.frames + 1 ≤ R.frames ∧ 8 + (Mc.2.2.2.1 + 11) + Rc.locals ≤ R.locals) (hrm : (rest.map fun v => v.category).sum ≤ 8) (h1 : k + Rc.cells ≤ R.cells) (h2 : n + Rc.slots ≤ R.slots)
    (kk : ∀ (v : Option Value) (S1 : List va_W), Q0 v S1 → Ey X l M D R A Q mc ms (pc + 3) lv (v.toList ++ rest) (Sr ++ S1) (k + Rc.cells) (n + Rc.slots)) : Ey X l M D R A Q mc ms pc lv st0 S k n := by
  intro p e s m args below meth c H locs ls F hS hP hD hl
  obtain ⟨ho, hx, hb, hml, -, hown, hts, -, hin, hK, hN, hX, hA, htb⟩ := id F.1
  have hd := htb _ (xfe_mem _ _ _ hf)
  obtain ⟨hpre, hsub⟩ := x_pre (av := As) F.1 hS hP hD hc hn1
  intro T hT X
  obtain ⟨mk, methM, cM, hnamed, hmethM, hcM, -, hlM, -, -, -, hsigM⟩ := Cond.codeWith_spec (hts _ hcw)
  have hstatic : methM.isStatic = true := Cond.static_spec hnamed hmethM (hts _ hcs)
  obtain ⟨kP, hkP, -⟩ := className_of_methodNamed hnamed
  have hinitP : kP.init = .initialized := Cond.initialized_spec (findClass_of_methodNamed hnamed) hkP (hts _ hini)
  have hlen : As.length = methM.sig.parameters.length := by
    rw [hsigM] at hnp
    exact (Option.some.inj hnp).symm
  obtain ⟨vm1, X1, st1⟩ := X.invokestatic hx hown (hts _ hlk) hnamed hmethM hstatic hkP hinitP hpn.2 (g := F0 m pc ls st0) rfl (argsL := As) (rest := rest) hlen hst (by rw [hb]; exact hd)
  have hsz : (F0 m pc ls rest).locals.size = c.maxLocals := hl.1.trans hml.symm
  have hal := X1.warmed.alike
  have hini1 : (Cond.initialized Mc.2.1.cls).before As.toArray (T.setVm vm1) = true := word_at (U := T.setVm vm1) X1.warmed (gTB_good hini) (hts _ hini)
  obtain ⟨o, t, a1, a2, a3⟩ := x_callee (U := T.setVm vm1) (g := F0 m pc ls rest) X1 rfl hsz (by rw [hb]; exact hd) (hct H.size) (a := As.toArray) (X1.named hnamed) (callW_pre (U := T.setVm vm1) X1.warmed hts hcw) (methY := methM) (cY := cM) (by rw [hal.method?]; exact hmethM) hcM hini1 hR.1 (by
      have := lv_room (m := m) (pc := pc) (ls := ls) (rest := rest) hrm
      have h8 := hR.2
      rw [← hlM] at h8
      show 2 * (F0 m pc ls rest).monitorRoom + (rest.map fun v => v.category).sum + (cM.maxLocals + 11) + Rc.locals ≤ R.locals
      omega) h1 h2 (xP_blind _ _ _ _ (hpre (T.setVm vm1) hT X1.warmed))
  obtain ⟨t2, b1, b2⟩ := x_back (U := T.setVm vm1) (H := H) (ig9 := 0) (mk := mk) X1 hT hS hsub (by rw [hb]; exact hd) a2 a3 (Q := MQx below Q args s mc ms A)
    (fun v S1 H1 locs1 hq hP1 hD1 hk1 hS1 => by
      obtain ⟨hP2, hD2⟩ := seg_join hP hD hc hr hn2 hdis hk1 hsub hP1 hD1
      exact kk v S1 hq p e s m args below meth c H1 locs1 ls F hS1 hP2 hD2 hl)
    (fun x cc S1 H1 locs1 cell hE => hE.elim)
  exact ⟨t2, st1 t2 (fun acts => by rw [doInvoke_state]; exact a1.trans b1), b2⟩
/-- other rows of the same method -/
theorem Ey.tab {tb tb' : xT} {i0 : Nat} {nm : MethodName} {by0 : ByteArray} {mx : Nat} {rt : Option FieldType} (htb : ∀ q ∈ tb', decode by0 q.1 = .ok (q.2, xlen q.2)) (kk : Ey X l (i0, nm, by0, mx, rt, tb') D R A Q mc ms pc lv st S k n) : Ey X l (i0, nm, by0, mx, rt, tb) D R A Q mc ms pc lv st S k n := by
  intro p e s m args below meth c H locs ls F hS hP hD hl
  obtain ⟨⟨h1, h2, h3, h4, h5, h6, h7, h8, h9, h10, h11, h12, h13, -⟩, hX⟩ := F
  exact kk p e s m args below meth c H locs ls ⟨⟨h1, h2, h3, h4, h5, h6, h7, h8, h9, h10, h11, h12, h13, htb⟩, hX⟩ hS hP hD hl
/-- the script: a place, its length -/
theorem Ey.sld {x : Int32} {j : Nat} (hf : xfe M.2.2.2.2.2 pc = some .iaload) (hx9 : x.toInt = j) (hj : j < X.2.1) (kk : Ey X l M D R A Q mc ms (pc + 1) lv (.int (X.2.2 j) :: st) S k n) : Ey X l M D R A Q mc ms pc lv (.int x :: .ref X.1 :: st) S k n := by
  intro p e s m args below meth c H locs ls F hS hP hD hl
  obtain ⟨ho, hx, hb, -, -, hown, hts, -, hin, hK, hN, hX, hA, htb⟩ := id F.1
  have hd := htb _ (xfe_mem _ _ _ hf)
  refine va_sld hx hb F.2.1 F.2.2.1 F.2.2.2 hS (vp_in_int hx9 hj) hd ?_
  rw [clamp_int hx9]
  exact kk p e s m args below meth c H locs ls F hS hP hD hl
theorem Ey.sle (hf : xfe M.2.2.2.2.2 pc = some .arraylength) (kk : Ey X l M D R A Q mc ms (pc + 1) lv (.int (nI X.2.1) :: st) S k n) : Ey X l M D R A Q mc ms pc lv (.ref X.1 :: st) S k n := by
  intro p e s m args below meth c H locs ls F hS hP hD hl
  obtain ⟨ho, hx, hb, -, -, hown, hts, -, hin, hK, hN, hX, hA, htb⟩ := id F.1
  have hd := htb _ (xfe_mem _ _ _ hf)
  exact va_slen hx hb F.2.1 F.2.2.1 F.2.2.2 hS hd (kk p e s m args below meth c H locs ls F hS hP hD hl)
end YE

/-! OWN FRAME 10: static calls, constructors -/
section XC3
variable {l : Launch} {M : xM} {D : xD} {R : Room} {A : Nat → Prop} {Q : Array Value → State → Outcome → State → Prop} {mc ms pc k n : Nat} {lv : List (Nat × Value)} {S : List va_W}
theorem Ex.cs {Mc : xM} {Rc : Room} {ix : Nat} {As rest st0 : List Value} {Q0 : Option Value → List va_W → Prop} {Sc Sr : List va_W} (is rs : List Nat) (hct : Ct l Mc D Rc As Sc Q0) (hf : xfe M.2.2.2.2.2 pc = some (.invokestatic ix)) (hlk : Lk M.2.1.cls ix Mc) (hm : LkS Mc As.length)
    (hst : st0 = As.reverse ++ rest) (hc : pk S is Sc) (hr : pk S rs Sr) (hn1 : va_nd is = true) (hn2 : va_nd rs = true) (hdis : ∀ i ∈ rs, i ∉ is)
    (hR : Rc.frames + 1 ≤ R.frames ∧ 8 + (Mc.2.2.2.1 + 11) + Rc.locals ≤ R.locals) (hrm : (rest.map fun v => v.category).sum ≤ 8) (h1 : k + Rc.cells ≤ R.cells) (h2 : n + Rc.slots ≤ R.slots)
    (kk : ∀ (v : Option Value) (S1 : List va_W), Q0 v S1 → Ex l M D R A Q mc ms (pc + 3) lv (v.toList ++ rest) (Sr ++ S1) (k + Rc.cells) (n + Rc.slots)) : Ex l M D R A Q mc ms pc lv st0 S k n := by
  intro p e s m args below meth c H locs ls F hS hP hD hl
  obtain ⟨ho, hx, hb, hml, -, hown, hts, -, hin, hK, hN, hX, hA, htb⟩ := id F
  have hd := htb _ (xfe_mem _ _ _ hf)
  obtain ⟨hpre, hsub⟩ := x_pre (av := As) F hS hP hD hc hn1
  have hcb := callB_of (ret := Mc.2.2.2.2.1) As.length hts hm.1.good rfl rfl rfl (hts _ hm.1.1) (hts _ hlk) hm.1.2.2 hR
  refine x_call (va_runS (As := As) (rest := rest) ⟨hx, hb, hml, hown, hts⟩ (hct H.size) ⟨hcb, hts _ hm.2⟩ ⟨xP_blind, hpre⟩ rfl rfl hl.1 hst (lv_room hrm) hd ⟨h1, h2⟩) hS hsub (fun v S1 H1 locs1 hq hP1 hD1 hk1 hS1 => ?_)
  obtain ⟨hP2, hD2⟩ := seg_join hP hD hc hr hn2 hdis hk1 hsub hP1 hD1
  exact kk v S1 hq p e s m args below meth c H1 locs1 ls F hS1 hP2 hD2 hl
theorem Ex.csN {Mc : xM} {Rc : Room} {ix : Nat} {As rest st0 : List Value} {Q0 : Option Value → List va_W → Prop} {Sc Sr : List va_W} (is rs : List Nat) (hct : Ct l Mc D Rc As Sc Q0) (hf : xfe M.2.2.2.2.2 pc = some (.invokestatic ix)) (hlk : LkN M.2.1.cls ix Mc) (hm : LkS Mc As.length)
    (hst : st0 = As.reverse ++ rest) (hc : pk S is Sc) (hr : pk S rs Sr) (hn1 : va_nd is = true) (hn2 : va_nd rs = true) (hdis : ∀ i ∈ rs, i ∉ is)
    (hR : Rc.frames + 1 ≤ R.frames ∧ 8 + (Mc.2.2.2.1 + 11) + Rc.locals ≤ R.locals) (hrm : (rest.map fun v => v.category).sum ≤ 8) (h1 : k + Rc.cells ≤ R.cells) (h2 : n + Rc.slots ≤ R.slots)
    (kk : ∀ (v : Option Value) (S1 : List va_W), Q0 v S1 → Ex l M D R A Q mc ms (pc + 3) lv (v.toList ++ rest) (Sr ++ S1) (k + Rc.cells) (n + Rc.slots)) : Ex l M D R A Q mc ms pc lv st0 S k n := by
  intro p e s m args below meth c H locs ls F hS hP hD hl
  obtain ⟨ho, hx, hb, hml, -, hown, hts, -, hin, hK, hN, hX, hA, htb⟩ := id F
  have hd := htb _ (xfe_mem _ _ _ hf)
  obtain ⟨hpre, hsub⟩ := x_pre (av := As) F hS hP hD hc hn1
  have hcb := va_cnB (bytes := Mc.2.2.1) (maxL := Mc.2.2.2.1) (ret := Mc.2.2.2.2.1) As.length hts hm.1.good rfl rfl rfl (hN.1 _ hlk) (hts _ hm.1.1) hm.1.2.2 hR
  refine x_call (va_runSN (As := As) (rest := rest) ⟨hx, hb, hml, hown, hts⟩ (hct H.size) ⟨hcb, hts _ hm.2, trivial⟩ ⟨xP_blind, hpre⟩ rfl rfl hl.1 hst (lv_room hrm) hd ⟨h1, h2⟩) hS hsub (fun v S1 H1 locs1 hq hP1 hD1 hk1 hS1 => ?_)
  obtain ⟨hP2, hD2⟩ := seg_join hP hD hc hr hn2 hdis hk1 hsub hP1 hD1
  exact kk v S1 hq p e s m args below meth c H1 locs1 ls F hS1 hP2 hD2 hl
theorem Ex.ci {Mc : xM} {Rc : Room} {b ix : Nat} {As rest st0 : List Value} {Q0 : Option Value → List va_W → Prop} {Sc Sr : List va_W} (is rs : List Nat) (hct : Ct l Mc D Rc (.ref b :: As) Sc Q0) (hf : xfe M.2.2.2.2.2 pc = some (.invokespecial ix)) (hlk : Lk M.2.1.cls ix Mc) (hm : LkI Mc As.length)
    (hst : st0 = As.reverse ++ .ref b :: rest) (hc : pk S is Sc) (hr : pk S rs Sr) (hn1 : va_nd is = true) (hn2 : va_nd rs = true) (hdis : ∀ i ∈ rs, i ∉ is)
    (hR : Rc.frames + 1 ≤ R.frames ∧ 8 + (Mc.2.2.2.1 + 11) + Rc.locals ≤ R.locals) (hrm : (rest.map fun v => v.category).sum ≤ 8) (h1 : k + Rc.cells ≤ R.cells) (h2 : n + Rc.slots ≤ R.slots)
    (kk : ∀ (v : Option Value) (S1 : List va_W), Q0 v S1 → Ex l M D R A Q mc ms (pc + 3) lv (v.toList ++ rest) (Sr ++ S1) (k + Rc.cells) (n + Rc.slots)) : Ex l M D R A Q mc ms pc lv st0 S k n := by
  intro p e s m args below meth c H locs ls F hS hP hD hl
  obtain ⟨ho, hx, hb, hml, -, hown, hts, -, hin, hK, hN, hX, hA, htb⟩ := id F
  have hd := htb _ (xfe_mem _ _ _ hf)
  obtain ⟨hpre, hsub⟩ := x_pre (av := (.ref b :: As)) F hS hP hD hc hn1
  have hcb := callB_of (ret := Mc.2.2.2.2.1) As.length hts hm.1.good rfl rfl rfl (hts _ hm.1.1) (hts _ hlk) hm.1.2.2 hR
  rw [hm.2.2.2] at hcb
  refine x_call (va_runI (As := As) (rest := rest) ⟨hx, hb, hml, hown, hts⟩ (hct H.size) ⟨hcb, hm.2.2.1, hts _ hm.2.1⟩ ⟨xP_blind, hpre⟩ rfl rfl hl.1 hst (lv_room hrm) hd ⟨h1, h2⟩) hS hsub (fun v S1 H1 locs1 hq hP1 hD1 hk1 hS1 => ?_)
  obtain ⟨hP2, hD2⟩ := seg_join hP hD hc hr hn2 hdis hk1 hsub hP1 hD1
  exact kk v S1 hq p e s m args below meth c H1 locs1 ls F hS1 hP2 hD2 hl
theorem Ex.ciN {Mc : xM} {Rc : Room} {b ix : Nat} {As rest st0 : List Value} {Q0 : Option Value → List va_W → Prop} {Sc Sr : List va_W} (is rs : List Nat) (hct : Ct l Mc D Rc (.ref b :: As) Sc Q0) (hf : xfe M.2.2.2.2.2 pc = some (.invokespecial ix)) (hlk : LkN M.2.1.cls ix Mc) (hm : LkI Mc As.length)
    (hst : st0 = As.reverse ++ .ref b :: rest) (hc : pk S is Sc) (hr : pk S rs Sr) (hn1 : va_nd is = true) (hn2 : va_nd rs = true) (hdis : ∀ i ∈ rs, i ∉ is)
    (hR : Rc.frames + 1 ≤ R.frames ∧ 8 + (Mc.2.2.2.1 + 11) + Rc.locals ≤ R.locals) (hrm : (rest.map fun v => v.category).sum ≤ 8) (h1 : k + Rc.cells ≤ R.cells) (h2 : n + Rc.slots ≤ R.slots)
    (kk : ∀ (v : Option Value) (S1 : List va_W), Q0 v S1 → Ex l M D R A Q mc ms (pc + 3) lv (v.toList ++ rest) (Sr ++ S1) (k + Rc.cells) (n + Rc.slots)) : Ex l M D R A Q mc ms pc lv st0 S k n := by
  intro p e s m args below meth c H locs ls F hS hP hD hl
  obtain ⟨ho, hx, hb, hml, -, hown, hts, -, hin, hK, hN, hX, hA, htb⟩ := id F
  have hd := htb _ (xfe_mem _ _ _ hf)
  obtain ⟨hpre, hsub⟩ := x_pre (av := (.ref b :: As)) F hS hP hD hc hn1
  have hcb := va_cnB (bytes := Mc.2.2.1) (maxL := Mc.2.2.2.1) (ret := Mc.2.2.2.2.1) As.length hts hm.1.good rfl rfl rfl (hN.1 _ hlk) (hts _ hm.1.1) hm.1.2.2 hR
  rw [hm.2.2.2] at hcb
  refine x_call (va_runIN (As := As) (rest := rest) ⟨hx, hb, hml, hown, hts⟩ (hct H.size) ⟨hcb, hm.2.2.1, hts _ hm.2.1⟩ ⟨xP_blind, hpre⟩ rfl rfl hl.1 hst (lv_room hrm) hd ⟨h1, h2⟩) hS hsub (fun v S1 H1 locs1 hq hP1 hD1 hk1 hS1 => ?_)
  obtain ⟨hP2, hD2⟩ := seg_join hP hD hc hr hn2 hdis hk1 hsub hP1 hD1
  exact kk v S1 hq p e s m args below meth c H1 locs1 ls F hS1 hP2 hD2 hl
/-- Object.<init> -/
theorem gOI : Cond.instanceMethod Lib.objectInit ∈ gTB ∧ Cond.code Lib.objectInit ⟨#[0xb1]⟩ 1 none ∈ gTB := by decide +kernel
theorem Ex.oi {ix a : Nat} {rest : List Value} (hf : xfe M.2.2.2.2.2 pc = some (.invokespecial ix)) (hlk : Cond.methodLink M.2.1.cls ix Lib.objectInit ∈ gTB) (hR : 1 ≤ R.frames) (hR2 : (rest.map fun v => v.category).sum + 12 ≤ R.locals) (kk : Ex l M D R A Q mc ms (pc + 3) lv rest S k n) : Ex l M D R A Q mc ms pc lv (.ref a :: rest) S k n := by
  intro p e s m args below meth c H locs ls F hS hP hD hl
  obtain ⟨ho, hx, hb, hml, -, hown, hts, -, hin, hK, hN, hX, hA, htb⟩ := id F
  have hd := htb _ (xfe_mem _ _ _ hf)
  exact W.objInit hx hb hown (hts _ hlk) (hts _ gOI.1) (hts _ gOI.2) rfl (by rw [hml]; exact hl.1) rfl hd hR (by show 2 * 0 + (rest.map fun v => v.category).sum + 12 ≤ R.locals; omega) (kk p e s m args below meth c H locs ls F hS hP hD hl)
end XC3

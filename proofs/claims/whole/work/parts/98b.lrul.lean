/-! the law: its own rules -/
theorem six {i : Nat} (d : Nat) (h : i + d < 2 ^ 31) : (nI i + nI d).toInt = ((i + d : Nat) : Int) := by
  rw [nI_add]
  exact nI_toInt h
theorem iniL : Cond.initialized "DrillArchiveLaw" ∈ gTB := gw 0 (by decide +kernel) rfl
theorem wkLa_tool : Lk "DrillArchiveLaw" 64 mLa_tool ∧ Cond.static mLa_tool.2.1 ∈ gTB := ⟨gw 635 (by decide +kernel) rfl, gw 636 (by decide +kernel) rfl⟩
theorem wkLa_hole : Lk "DrillArchiveLaw" 74 mLa_hole ∧ Cond.static mLa_hole.2.1 ∈ gTB := ⟨gw 711 (by decide +kernel) rfl, gw 712 (by decide +kernel) rfl⟩
theorem wkLa_slot : Lk "DrillArchiveLaw" 78 mLa_slot ∧ Cond.static mLa_slot.2.1 ∈ gTB := ⟨gw 747 (by decide +kernel) rfl, gw 748 (by decide +kernel) rfl⟩
theorem wkLa_write : Lk "DrillArchiveLaw" 82 mLa_write ∧ Cond.static mLa_write.2.1 ∈ gTB := ⟨gw 755 (by decide +kernel) rfl, gw 756 (by decide +kernel) rfl⟩
theorem wkLa_at : Lk "DrillArchiveLaw" 94 mLa_at ∧ Cond.static mLa_at.2.1 ∈ gTB := ⟨gw 764 (by decide +kernel) rfl, gw 765 (by decide +kernel) rfl⟩
theorem wkLa_order : Lk "DrillArchiveLaw" 97 mLa_order ∧ Cond.static mLa_order.2.1 ∈ gTB := ⟨gw 778 (by decide +kernel) rfl, gw 779 (by decide +kernel) rfl⟩
theorem wkLa_travel : Lk "DrillArchiveLaw" 100 mLa_travel ∧ Cond.static mLa_travel.2.1 ∈ gTB := ⟨gw 786 (by decide +kernel) rfl, gw 787 (by decide +kernel) rfl⟩
theorem wkLa_proved : Lk "DrillArchiveLaw" 104 mLa_proved ∧ Cond.static mLa_proved.2.1 ∈ gTB := ⟨gw 793 (by decide +kernel) rfl, gw 794 (by decide +kernel) rfl⟩
theorem wkLa_file : Lk "DrillArchiveLaw" 107 mLa_file ∧ Cond.static mLa_file.2.1 ∈ gTB := ⟨gw 800 (by decide +kernel) rfl, gw 801 (by decide +kernel) rfl⟩
theorem wkLa_byteOf : Lk "DrillArchiveLaw" 110 mLa_byteOf ∧ Cond.static mLa_byteOf.2.1 ∈ gTB := ⟨gw 810 (by decide +kernel) rfl, gw 811 (by decide +kernel) rfl⟩
theorem wkLa_archive : Lk "DrillArchiveLaw" 113 mLa_archive ∧ Cond.static mLa_archive.2.1 ∈ gTB := ⟨gw 825 (by decide +kernel) rfl, gw 826 (by decide +kernel) rfl⟩
theorem wkLa_sum : Lk "DrillArchiveLaw" 133 mLa_sum ∧ Cond.static mLa_sum.2.1 ∈ gTB := ⟨gw 846 (by decide +kernel) rfl, gw 847 (by decide +kernel) rfl⟩
theorem Ct.flat {l : Launch} {M : xM} {D : xD} {R : Room} {av : List Value} {S S' : List va_W} {Q : Option Value → List va_W → Prop} (e : S.flatten = S'.flatten) (h : Ct l M D R av S Q) : Ct l M D R av S' Q := by
  intro sz
  have h9 := h sz
  unfold xP at h9 ⊢
  rw [e] at h9
  exact h9
theorem CtT.flat {l : Launch} {M : xM} {hh : Option xH} {D : xD} {R : Room} {av : List Value} {S S' : List va_W} {Q : Option Value → List va_W → Prop} {E : Nat → List va_W → Prop} (e : S.flatten = S'.flatten) (h : CtT l M hh D R av S Q E) : CtT l M hh D R av S' Q E := by
  intro sz
  have h9 := h sz
  unfold xP at h9 ⊢
  rw [e] at h9
  exact h9
section LRU
variable {X : xX} {l : Launch} {M : xM} {D : xD} {A : Nat → Prop} {Q : Array Value → State → Outcome → State → Prop} {mc ms pc k n a m o : Nat} {lv : List (Nat × Value)} {st0 rest : List Value} {CA CM CO : va_W}
/-- a call on the archive -/
theorem Ey.xv {Mc : xM} {Rc : Room} {ix : Nat} {As : List Value} {Q0 : Option Value → List va_W → Prop} {SA : List va_W} (hat : ∃ fs, SA.flatten[0]? = some (a, .inr (0, fs))) (hct : Ct l Mc D Rc (.ref a :: As) SA Q0) (hf : xfe M.2.2.2.2.2 pc = some (.invokevirtual ix)) (hlk : Lk M.2.1.cls ix Mc) (hm : LkV Mc As.length) (hst : st0 = As.reverse ++ .ref a :: rest) (hci : gON[0]? = some Mc.2.1.cls) (hR : Rc.frames + 1 ≤ 13 ∧ 8 + (Mc.2.2.2.1 + 11) + Rc.locals ≤ 508) (hrm : (rest.map fun v => v.category).sum ≤ 8) (h1 : k + Rc.cells ≤ 601024) (h2 : n + Rc.slots ≤ 7293034)
    (kk : ∀ (v : Option Value) (S1 : List va_W), Q0 v S1 → Ey X l M D room_1 A Q mc ms (pc + 3) lv (v.toList ++ rest) [S1.flatten, CM, CO] (k + Rc.cells) (n + Rc.slots)) : Ey X l M D room_1 A Q mc ms pc lv st0 [SA.flatten, CM, CO] k n := by
  obtain ⟨fs, hfs⟩ := hat
  refine Ey.cv (Sc := [SA.flatten]) (Sr := [CM, CO]) (ic := 0) (jc := 0) (ci := 0) [0] [1, 2] (Ct.flat (by simp) hct) hf hlk hm hst rfl rfl rfl rfl (by decide) rfl hfs hci (by decide) hR hrm h1 h2 (fun v S1 hq => ?_)
  refine Ey.seg (S' := [CM, CO, S1.flatten]) (by simp) ?_
  exact Ey.sub (S' := [S1.flatten, CM, CO]) [2, 0, 1] rfl rfl (kk v S1 hq)
/-- a call on the reference -/
theorem Ey.mv {Mc : xM} {Rc : Room} {ix : Nat} {As : List Value} {Q0 : Option Value → List va_W → Prop} {SM : List va_W} (hat : ∃ fs, SM.flatten[0]? = some (m, .inr (10, fs))) (hct : Ct l Mc D Rc (.ref m :: As) SM Q0) (hf : xfe M.2.2.2.2.2 pc = some (.invokevirtual ix)) (hlk : Lk M.2.1.cls ix Mc) (hm : LkV Mc As.length) (hst : st0 = As.reverse ++ .ref m :: rest) (hci : gON[10]? = some Mc.2.1.cls) (hR : Rc.frames + 1 ≤ 13 ∧ 8 + (Mc.2.2.2.1 + 11) + Rc.locals ≤ 508) (hrm : (rest.map fun v => v.category).sum ≤ 8) (h1 : k + Rc.cells ≤ 601024) (h2 : n + Rc.slots ≤ 7293034)
    (kk : ∀ (v : Option Value) (S1 : List va_W), Q0 v S1 → Ey X l M D room_1 A Q mc ms (pc + 3) lv (v.toList ++ rest) [CA, S1.flatten, CO] (k + Rc.cells) (n + Rc.slots)) : Ey X l M D room_1 A Q mc ms pc lv st0 [CA, SM.flatten, CO] k n := by
  obtain ⟨fs, hfs⟩ := hat
  refine Ey.cv (Sc := [SM.flatten]) (Sr := [CA, CO]) (ic := 1) (jc := 0) (ci := 10) [1] [0, 2] (Ct.flat (by simp) hct) hf hlk hm hst rfl rfl rfl rfl (by decide) rfl hfs hci (by decide) hR hrm h1 h2 (fun v S1 hq => ?_)
  refine Ey.seg (S' := [CA, CO, S1.flatten]) (by simp) ?_
  exact Ey.sub (S' := [CA, S1.flatten, CO]) [0, 2, 1] rfl rfl (kk v S1 hq)
/-- a call of one of the law's own methods -/
theorem Ey.xw {Mc : xM} {hh : xH} {Rc : Room} {ix : Nat} {As : List Value} {r : AR} {SA : List va_W} {f0 : Nat → Int64} (hct : CtT l Mc (some hh) D Rc As (oA D o f0 :: SA) (WQ D a o r) (fun _ _ => False)) (hf : xfe M.2.2.2.2.2 pc = some (.invokestatic ix)) (hlk : Lk M.2.1.cls ix Mc ∧ Cond.static Mc.2.1 ∈ gTB) (hcw : xcw Mc (some hh) ∈ gTB) (hcl : Mc.2.1.cls = "DrillArchiveLaw") (hnp : (parseMethodDescriptor Mc.2.1.desc).map (fun d => d.parameters.length) = some As.length) (hst : st0 = As.reverse ++ rest) (hR : Rc.frames + 1 ≤ 13 ∧ 8 + (Mc.2.2.2.1 + 11) + Rc.locals ≤ 508) (hrm : (rest.map fun v => v.category).sum ≤ 8) (h1 : k + Rc.cells ≤ 601024) (h2 : n + Rc.slots ≤ 7293034)
    (kk : ∀ (v : Option Value) (S1 : List va_W) (f1 : Nat → Int64), WQ D a o r v (oA D o f1 :: S1) → Ey X l M D room_1 A Q mc ms (pc + 3) lv (v.toList ++ rest) [S1.flatten, CM, oA D o f1] (k + Rc.cells) (n + Rc.slots)) : Ey X l M D room_1 A Q mc ms pc lv st0 [SA.flatten, CM, oA D o f0] k n := by
  refine Ey.csW (Sc := [oA D o f0, SA.flatten]) (Sr := [CM]) [2, 0] [1] (CtT.flat (by simp) hct) hf hlk.1 hcw hlk.2 (by rw [hcl]; exact iniL) (by rw [hcl]; decide) hnp hst rfl rfl rfl rfl (by decide) hR hrm h1 h2 (fun v S1 hq => ?_)
  obtain ⟨S2, f1, rfl, hd, hm⟩ := id hq
  refine Ey.seg (S' := [CM, oA D o f1, S2.flatten]) (by simp) ?_
  exact Ey.sub (S' := [S2.flatten, CM, oA D o f1]) [2, 0, 1] rfl rfl (kk v S2 f1 hq)
end LRU
theorem ct_Mo_thr {l : Launch} {D : xD} {R : Room} {m : Nat} {z : SD} {th : Int32} {S : List va_W} (h : IsMo D m z th S) : Ct l mMo_thrown D R [.ref m] S (fun v S => v = some (.int th) ∧ IsMo D m z th S) := by
  have h9 := id h
  obtain ⟨B, mn, la, ap, bg, wr, wa, wn, fo, st, rf, rt, cu, me, hl, LT, LH, CT, CH, CX, CF, CE, gR, gQ, gL, gW, rfl, -⟩ := h
  refine Ct.of rfl (by decide) tkMo_thrown (Nat.le_of_ble_eq_true rfl) (fun A => ?_)
  refine Ex.p rfl ?_
  refine Ex.gf 0 0 rfl rfl rfl ?_
  exact Ex.iret rfl rfl (Nat.zero_le _) (Nat.zero_le _) rfl ⟨rfl, h9⟩
/-- both sides' answers: the code of the throw, the number -/
theorem ar_i {r : AR} (hv : ∀ y, r.1 = .inr y → ∃ w : Int32, y = .int w) : ∃ kv w : Int32, (∀ {D : xD} {a o : Nat} {v : Option Value} {S1 : List va_W} {f1 : Nat → Int64}, WQ D a o r v (oA D o f1 :: S1) → v = some (.int kv) ∧ IsDa D a r.2 S1 ∧ (kv = 0 → f1 0 = w.toInt64)) ∧ ∀ {D : xD} {m : Nat} {v : Option Value} {S : List va_W}, QM D m (.int 0) r v S → v = some (.int w) ∧ IsMo D m r.2 kv S := by
  obtain ⟨r1, z⟩ := r
  cases r1 with
  | inl k =>
    refine ⟨nI k, 0, ?_, ?_⟩
    · rintro D a o v S1 f1 ⟨S2, f2, e, hd, hv9, hk⟩
      cases e
      refine ⟨hv9, hd, fun e => ?_⟩
      rcases hk with rfl | rfl
      · exact absurd e (by decide)
      · exact absurd e (by decide)
    · rintro D m v S ⟨h1, h2⟩
      exact ⟨h1, h2⟩
  | inr y =>
    obtain ⟨w, rfl⟩ := hv y rfl
    refine ⟨0, w, ?_, ?_⟩
    · rintro D a o v S1 f1 ⟨S2, f2, e, hd, hv9, hk⟩
      cases e
      exact ⟨hv9, hd, fun _ => hk⟩
    · rintro D m v S ⟨h1, h2⟩
      exact ⟨h1, h2⟩
theorem ar_l {r : AR} (hv : ∀ y, r.1 = .inr y → ∃ w : Int64, y = .long w) : ∃ (kv : Int32) (w : Int64), (∀ {D : xD} {a o : Nat} {v : Option Value} {S1 : List va_W} {f1 : Nat → Int64}, WQ D a o r v (oA D o f1 :: S1) → v = some (.int kv) ∧ IsDa D a r.2 S1 ∧ (kv = 0 → f1 0 = w)) ∧ ∀ {D : xD} {m : Nat} {v : Option Value} {S : List va_W}, QM D m (.long 0) r v S → v = some (.long w) ∧ IsMo D m r.2 kv S := by
  obtain ⟨r1, z⟩ := r
  cases r1 with
  | inl k =>
    refine ⟨nI k, 0, ?_, ?_⟩
    · rintro D a o v S1 f1 ⟨S2, f2, e, hd, hv9, hk⟩
      cases e
      refine ⟨hv9, hd, fun e => ?_⟩
      rcases hk with rfl | rfl
      · exact absurd e (by decide)
      · exact absurd e (by decide)
    · rintro D m v S ⟨h1, h2⟩
      exact ⟨h1, h2⟩
  | inr y =>
    obtain ⟨w, rfl⟩ := hv y rfl
    refine ⟨0, w, ?_, ?_⟩
    · rintro D a o v S1 f1 ⟨S2, f2, e, hd, hv9, hk⟩
      cases e
      exact ⟨hv9, hd, fun _ => hk⟩
    · rintro D m v S ⟨h1, h2⟩
      exact ⟨h1, h2⟩
theorem ar_z {r : AR} (hv : ∀ y, r.1 = .inr y → ∃ w : Bool, y = .int (b32 w)) : ∃ (kv : Int32) (w : Bool), (∀ {D : xD} {a o : Nat} {v : Option Value} {S1 : List va_W} {f1 : Nat → Int64}, WQ D a o r v (oA D o f1 :: S1) → v = some (.int kv) ∧ IsDa D a r.2 S1 ∧ (kv = 0 → f1 0 = (b32 w).toInt64)) ∧ ∀ {D : xD} {m : Nat} {v : Option Value} {S : List va_W}, QM D m (.int 0) r v S → v = some (.int (b32 w)) ∧ IsMo D m r.2 kv S := by
  obtain ⟨r1, z⟩ := r
  cases r1 with
  | inl k =>
    refine ⟨nI k, false, ?_, ?_⟩
    · rintro D a o v S1 f1 ⟨S2, f2, e, hd, hv9, hk⟩
      cases e
      refine ⟨hv9, hd, fun e => ?_⟩
      rcases hk with rfl | rfl
      · exact absurd e (by decide)
      · exact absurd e (by decide)
    · rintro D m v S ⟨h1, h2⟩
      exact ⟨h1, h2⟩
  | inr y =>
    obtain ⟨w, rfl⟩ := hv y rfl
    refine ⟨0, w, ?_, ?_⟩
    · rintro D a o v S1 f1 ⟨S2, f2, e, hd, hv9, hk⟩
      cases e
      exact ⟨hv9, hd, fun _ => hk⟩
    · rintro D m v S ⟨h1, h2⟩
      exact ⟨h1, h2⟩

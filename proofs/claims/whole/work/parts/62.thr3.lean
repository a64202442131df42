/-! throwing, calls that may throw, catching -/
section XT3
/-- the words of a throw that are no good words: they come otherwise -/
def thX (cls : String) : List Cond := [.isRef (.static Bundle.tN "UNASSIGNED_STACK" Bundle.steD), .isRef (.static Bundle.tN "SUPPRESSED_SENTINEL" Bundle.listD), .laysStatic Bundle.tN "UNASSIGNED_STACK" Bundle.steD, .laysStatic Bundle.tN "SUPPRESSED_SENTINEL" Bundle.listD, .castable cls cls, .declares (Bundle.initS Bundle.tN), .declares (Bundle.initS "java/lang/RuntimeException"), .declares (Bundle.initS "java/lang/Exception")]
abbrev thN : List String := ["java/lang/RuntimeException", "java/lang/Exception"]
def ThrOK (own : String) (ic : Nat) (cls : String) : Prop := ∀ w ∈ Bundle.ownAtoms own ic cls thN, w ∈ gTB ∨ w ∈ thX cls
theorem ThrOK.of {own : String} {ic : Nat} {cls : String} (ix : List Nat) (hl : (Bundle.ownAtoms own ic cls thN).length ≤ ix.length) (h : ((Bundle.ownAtoms own ic cls thN).zip ix).all (fun q => decide (lw_tbl[q.2]? = some q.1) && goodWord q.1 || decide (q.1 ∈ thX cls)) = true) : ThrOK own ic cls := by
  intro w hw
  obtain ⟨k, hk⟩ := List.mem_iff_getElem?.mp hw
  have hlt : k < ix.length := Nat.lt_of_lt_of_le (List.getElem?_eq_some_iff.mp hk).1 hl
  have hz : ((Bundle.ownAtoms own ic cls thN).zip ix)[k]? = some (w, ix[k]) := by
    rw [List.getElem?_zip_eq_some]
    exact ⟨hk, List.getElem?_eq_getElem hlt⟩
  have := List.all_eq_true.mp h _ (List.mem_of_getElem? hz)
  simp only [Bool.or_eq_true, Bool.and_eq_true, decide_eq_true_eq] at this
  rcases this with ⟨h1, h2⟩ | h1
  · exact Or.inl (List.mem_filter.mpr ⟨List.mem_of_getElem? h1, h2⟩)
  · exact Or.inr h1
theorem thrIA : ThrOK "DrillArchive" 59 "java/lang/IllegalArgumentException" := ThrOK.of [67, 724, 733, 736, 739, 741, 725, 726, 88, 89, 727, 732, 737, 757, 714, 758, 716, 759, 718, 728, 729, 730, 731, 720, 753, 754, 756, 720, 744, 745, 746, 747, 706, 747, 748, 749, 750, 708, 750, 751, 752, 753, 710, 743, 703, 704, 711, 712, 713, 715, 717, 719, 0, 0, 723, 722, 721] (by decide +kernel) (by decide +kernel)
theorem thrIO : ThrOK "DrillArchive" 81 "java/lang/IndexOutOfBoundsException" := ThrOK.of [67, 724, 733, 736, 739, 741, 725, 726, 88, 89, 727, 732, 737, 757, 714, 758, 716, 759, 718, 728, 729, 730, 731, 720, 753, 754, 756, 720, 793, 794, 795, 747, 706, 747, 748, 749, 750, 708, 750, 751, 752, 753, 710, 792, 783, 784, 785, 735, 786, 787, 788, 789, 0, 0, 723, 722, 790] (by decide +kernel) (by decide +kernel)
theorem gl {w : Cond} (i : Nat) (h : lw_tbl[i]? = some w) (hg : goodWord w = true) : w ∈ gTB := List.mem_filter.mpr ⟨List.mem_of_getElem? h, hg⟩
theorem thrD0 : Cond.instanceMethod (Bundle.initS Bundle.tN) ∈ gTB ∧ Cond.code (Bundle.initS Bundle.tN) LibCode.Throwable.InitS.code 2 none ∈ gTB := ⟨gl 753 (by decide +kernel) rfl, gl 754 (by decide +kernel) rfl⟩
theorem thrD1 : Cond.instanceMethod (Bundle.initS "java/lang/RuntimeException") ∈ gTB ∧ Cond.code (Bundle.initS "java/lang/RuntimeException") Bundle.six 2 none ∈ gTB := ⟨gl 747 (by decide +kernel) rfl, gl 748 (by decide +kernel) rfl⟩
theorem thrD2 : Cond.instanceMethod (Bundle.initS "java/lang/Exception") ∈ gTB ∧ Cond.code (Bundle.initS "java/lang/Exception") Bundle.six 2 none ∈ gTB := ⟨gl 750 (by decide +kernel) rfl, gl 751 (by decide +kernel) rfl⟩
theorem declares_of {x : MethodName} {b : ByteArray} {nl : Nat} {r : Option FieldType} {args : Array Value} {s : State} (h1 : (Cond.instanceMethod x).before args s = true) (h2 : (Cond.code x b nl r).before args s = true) : (Cond.declares x).before args s = true := by
  obtain ⟨mm, meth, hn, hm, hst, -⟩ := Cond.instanceMethod_spec h1
  obtain ⟨meth', c, hm', -, -, -, -, -, -, hsig⟩ := Cond.code_spec hn h2
  cases hm.symm.trans hm'
  simp [Cond.before, Cond.holds, Cond.value, hn, hm, hst, hsig]
theorem asg_self (vm : Vm) (c : ClassId) : vm.assignable c c = true := by
  show vm.assignableAux (255 + 1) c c = true
  unfold Vm.assignableAux
  simp
theorem castable_self {C : String} {args : Array Value} {s : State} {c : ClassId} (h : s.vm.findClass C = some c) : (Cond.castable C C).before args s = true := by
  simp [Cond.before, Cond.holds, Cond.value, h, asg_self]
theorem va_LS.word {C n d : String} {A : Nat → Prop} {s : State} {args : Array Value} (h : va_LS C n d A s s.heap) : (Cond.laysStatic C n d).before args s = true := by
  obtain ⟨c, k, i, f, a, cell, h0, h1, h2, h3, h4, h5, h6, h7, h8, h9⟩ := h
  simp [Cond.before, Cond.holds, Cond.value, h0, h1, h2, h3, h4, h5, h6, h7, h8]
variable {l : Launch} {M : xM} {D : xD} {R : Room} {A : Nat → Prop} {mc ms pc k n : Nat} {lv : List (Nat × Value)} {st : List Value} {S : List va_W}
theorem Fx.table {hh : Option xH} {p : Program} {e : Env} {s : State} {m : MethodId} {args : Array Value} {below : List Frame} {meth : Method} {c : Code} {T : State} {locs : List Loc} {cells slots : Nat} (F : Fx M D A p s m args meth c) (hcode : xcw M hh ∈ gTB) (X : Stand p l e R s m args below meth c T locs cells slots) : c.exceptionTable.toList.map (fun h => (h.startPc, h.endPc, h.handlerPc, h.catchType)) = hh.getD [] := by
  obtain ⟨ho, hx, hb, hml, -, hown, hts, hlocks, hin, hK, hN, hX, hA, htb⟩ := id F
  obtain ⟨meth', c', g1, g2, -, -, -, -, g7, -⟩ := xcw_spec hin.2.1 (hts _ hcode)
  cases X.method.symm.trans g1
  cases X.code.symm.trans g2
  exact g7
theorem Ex.thr {ci ic tt : Nat} {X : String} {Q : Option Value → List va_W → Prop} {E : Nat → List va_W → Prop} (hfl : l.flags = pinnedFlags ++ [noTraceFlag]) (hg : xnw M pc = some ci) (hX : gON[ci]? = some X) (hc : (gCL[ci]?).map (fun r => r.2.2) = some 6) (hdup : xfe M.2.2.2.2.2 (pc + 3) = some .dup) (hld : xcs M (pc + 4) = some tt) (hinv : xfe M.2.2.2.2.2 (pc + 6) = some (.invokespecial ic)) (hath : xfe M.2.2.2.2.2 (pc + 9) = some .athrow)
    (how : ThrOK M.2.1.cls ic X) (hfit : Bundle.fit X = true) (hcode : xcw M none ∈ gTB) (h1 : k + 1 ≤ R.cells) (h2 : n + 6 ≤ R.slots) (hmc : k + 1 ≤ mc) (hms : n + 6 ≤ ms) (hrf : 6 ≤ R.frames) (hrl : (st.map fun v => v.category).sum + 82 ≤ R.locals) (hE : E ci S) : Ex l M D R A (xQT D A Q E) mc ms pc lv st S k n := by
  intro p e s m args below meth c H locs ls F hS hP hD hl
  obtain ⟨ho, hx, hb, hml, -, hown, hts, hlocks, hin, hK, hN, hXs, hA, htb⟩ := id F
  have hd3 := htb _ (xfe_mem _ _ _ hdup)
  have hd6 := htb _ (xfe_mem _ _ _ hinv)
  have hd9 := htb _ (xfe_mem _ _ _ hath)
  unfold xnw at hg
  split at hg
  · rename_i ix hf
    have hd := htb _ (xfe_mem _ _ _ hf)
    have h3 := List.all_eq_true.mp gKL_b _ (xf3_mem _ _ _ _ hg)
    cases hr : gCL[ci]? with
    | none => rw [hr] at hc; cases hc
    | some r =>
      rw [hr] at hc
      simp only [Option.map_some, Option.some.injEq] at hc
      have hok := gCL_ok r (List.mem_of_getElem? hr)
      simp only [decide_eq_true_eq, gON_D ho, gON_D (gNM_at hr)] at h3
      have hrX : r.1 = X := Option.some.inj ((gNM_at hr).symm.trans hX)
      have hins := hts _ hok.2.2.2.1
      rw [hc] at hins
      refine W.newc (g := F0 m pc ls st) hx hb hown (hts _ h3) hins (hts _ hok.2.2.2.2) rfl hd h1 h2 (fun cC kC e1 e2 e3 e4 => ?_)
      show W p l e R s m args below meth c _ locs (k + 1) (n + 6) _ (F0 m (pc + 3) ls (.ref H.size :: st))
      refine lv_dup hx hb hd3 rfl ?_
      unfold xcs at hld
      split at hld
      · rename_i ix2 hf2
        have hd4 := htb _ (xfe_mem _ _ _ hf2)
        have h5 := List.all_eq_true.mp gCS_b _ (xf3_mem _ _ _ _ hld)
        obtain ⟨z, hz, h6⟩ := List.any_eq_true.mp h5
        simp only [Bool.and_eq_true, decide_eq_true_eq, gON_D ho] at h6
        obtain ⟨⟨a1, a2⟩, a3⟩ := h6
        have hR := hN.2.2 z hz
        have a2 := Nat.eq_of_beq_eq_true a2
        have a3 := Nat.eq_of_beq_eq_true a3
        rw [a1, a2, a3] at hR
        refine va_ldcS hx hb hown hR hd4 ?_
        intro T hT X0
        have hout : c.exceptionTable.toList = [] := List.map_eq_nil_iff.mp (F.table hcode X0)
        have hfX : s.vm.findClass r.1 = some (D.1 ci) := (hK.1 ci r hr).2.1
        cases hfX.symm.trans e1
        have hcell : T.heap[H.size]? = some (freshCell (D.1 ci) kC) := by rw [hT]; simp
        obtain ⟨U, ce, u1, u2, u3, u4, u5, u6, u7, u8⟩ := x_throw (own := M.2.1.cls) (cls := r.1) (names := thN) (ic := ic) (a := H.size) (msg := D.2.2.2.1 tt) (pc := pc + 6) (ls := ls) (rest := st) X0 hx (Launch.traces_off hfl X0.admits) hown (by rw [hrX]; exact hfit) (by decide)
          (fun w hw => by
            rw [hrX] at hw
            rcases how w hw with q | q
            · exact hts w q
            · simp only [thX, List.mem_cons, List.not_mem_nil, or_false] at q
              rcases q with rfl | rfl | rfl | rfl | rfl | rfl | rfl | rfl
              · exact hXs.2.2.2.1.isRef
              · exact hXs.2.2.2.2.1.isRef
              · exact hXs.2.2.2.2.2.1.word
              · exact hXs.2.2.2.2.2.2.word
              · exact castable_self (hrX ▸ hfX)
              · exact declares_of (hts _ thrD0.1) (hts _ thrD0.2)
              · exact declares_of (hts _ thrD1.1) (hts _ thrD1.2)
              · exact declares_of (hts _ thrD2.1) (hts _ thrD2.2))
          (fun x hx9 cell hc9 => hin.2.2 _ (hS.2.2 x hx9) cell hc9) hfX e2 hcell hS.1 (hl.1.trans hml.symm) (by rw [hb]; exact hd6) (by rw [hb]; exact hd9) hout (by show 2 + 3 < R.frames; omega) (by show _ + (13 * 3 + 43) ≤ R.locals; omega) hlocks
        have hU : ∀ q : Nat, q < H.size → U.heap[q]? = H[q]? := by
          intro q hq
          rw [u6, hT, Array.getElem?_setIfInBounds_ne (by omega), Array.getElem?_push, if_neg (by omega)]
        have hUa : U.heap[H.size]? = some ce := by
          rw [u6, hT, Array.getElem?_setIfInBounds_self]
          simp
        have hUs : U.heap.size = H.size + 1 := by rw [u6, hT]; simp
        refine ⟨U, u1, .threw H.size, u2, u3, ⟨Or.inr ⟨H.size, ci, S, ce, rfl, hE, ?_, hD, hUa, u8, u7⟩, ?_, fun q h1 h2 => ?_⟩, u4, locs, u5.mono hmc hms, hS.2.2⟩
        · rw [va_P_iff] at hP ⊢
          intro q hq
          exact (hP q hq).kept (hU _ (hP q hq).lt)
        · rw [hUs]; exact Nat.le_succ_of_le hS.1
        · rw [hU q (Nat.lt_of_lt_of_le h1 hS.1)]
          exact hS.2.1 q h1 h2
      · cases hld
  · cases hg
end XT3

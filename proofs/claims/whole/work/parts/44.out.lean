/-! TextWriter: its row of characters, rules for what is pushed there -/
theorem capN_mono {c n : Nat} : ∀ {a b : Nat}, a ≤ b → capN c n a ≤ capN c n b := by
  intro a b h
  obtain ⟨k, rfl⟩ := Nat.le.dest h
  rw [capN_add]
  exact capN_ge _ _ _
/-- the writer's row: the places as many characters behind an empty row of c0 places make -/
abbrev IsOut (D : xD) (r c0 : Nat) (xs : List Int32) (C : va_W) : Prop := IsRow D r 2600 (capN c0 0 xs.length) xs C
abbrev sTw (w pl r : Nat) (kp : Bool) (kf kt : Int32) : va_W := [(w, .inr (8, [.ref pl, .ref r, .int (b32 kp), .int kf, .int kt]))]
section OU
variable {l : Launch} {D : xD} {R : Room} {M : xM} {A : Nat → Prop} {Q : Array Value → State → Outcome → State → Prop} {mc ms pc ix r c0 cb bk bn N : Nat} {lv : List (Nat × Value)} {rest : List Value} {S Sr : List va_W} {C : va_W} {xs : List Int32}
theorem Ex.oPart {c v : Int32} (ic : Nat) (rs : List Nat) (hrow : IsOut D r c0 xs C) (hcb : cb ≤ capN c0 0 xs.length) (hS : S[ic]? = some C) (hf : xfe M.2.2.2.2.2 pc = some (.invokevirtual ix)) (hlk : Lk M.2.1.cls ix mRo_pushPart) (hc : pk S [ic] [C]) (hrr : pk S rs Sr) (hn2 : va_nd rs = true) (hdis : ∀ i ∈ rs, i ∉ [ic]) (hrm : (rest.map fun v => v.category).sum ≤ 8) (hv : v.toInt.natAbs ≤ 1000000) (hN : (xs ++ part c v).length ≤ N) (hN2 : N + 9 ≤ 2600)
    (h1 : 4 ≤ R.frames) (h2 : 160 ≤ R.locals) (h3 : bk + (capN c0 0 N - cb) / 8 ≤ R.cells) (h4 : bn + 2 * (capN c0 0 N - cb) ≤ R.slots)
    (kk : ∀ C', IsOut D r c0 (xs ++ part c v) C' → Ex l M D R A Q mc ms (pc + 3) lv rest (Sr ++ [C']) (bk + (capN c0 0 (xs ++ part c v).length - cb) / 8) (bn + 2 * (capN c0 0 (xs ++ part c v).length - cb))) :
    Ex l M D R A Q mc ms pc lv (.int v :: .int c :: .ref r :: rest) S (bk + (capN c0 0 xs.length - cb) / 8) (bn + 2 * (capN c0 0 xs.length - cb)) := by
  have hm := capN_mono (c := c0) (n := 0) hN
  have ha := capN_add xs.length (part c v).length c0 0
  rw [Nat.zero_add, ← List.length_append] at ha
  have hg2 := capN_ge (part c v).length (capN c0 0 xs.length) xs.length
  have hl9 : xs.length ≤ N := by rw [List.length_append] at hN; omega
  obtain ⟨arr, f, eC, -⟩ := id hrow
  have hct := ct_Ro_pushPart (l := l) (R := rm 3 ((capN (capN c0 0 xs.length) xs.length (part c v).length - capN c0 0 xs.length) / 8) (2 * (capN (capN c0 0 xs.length) xs.length (part c v).length - capN c0 0 xs.length))) (c := c) (v := v) hrow (by omega) hv (rm_ok _ _ _)
  rw [← ha] at hct hg2
  refine Ex.cv (Mc := mRo_pushPart) (As := [.int c, .int v]) (rest := rest) (Sr := Sr) (ic := ic) (jc := 0) (ci := 5) [ic] rs hct hf hlk lcRo_pushPart rfl hc hrr rfl hn2 hdis hS (by rw [eC]; rfl) rfl (by decide) ⟨h1, by show 8 + (5 + 11) + 120 ≤ R.locals; omega⟩ hrm (by dsimp only [rm]; omega) (by dsimp only [rm]; omega) ?_
  rintro v S1 ⟨rfl, C', rfl, hC'⟩
  exact Ex.more (by dsimp only [rm]; omega) (by dsimp only [rm]; omega) (kk C' hC')
theorem Ex.oText {t : Nat} (ic : Nat) (rs : List Nat) (hrow : IsOut D r c0 xs C) (hcb : cb ≤ capN c0 0 xs.length) (hS : S[ic]? = some C) (hf : xfe M.2.2.2.2.2 pc = some (.invokevirtual ix)) (hlk : Lk M.2.1.cls ix mRo_pushText) (hc : pk S [ic] [C]) (hrr : pk S rs Sr) (hn2 : va_nd rs = true) (hdis : ∀ i ∈ rs, i ∉ [ic]) (hrm : (rest.map fun v => v.category).sum ≤ 8) (ht : t < gSN) (hN : (xs ++ txt t).length ≤ N) (hN2 : N + 9 ≤ 2600)
    (h1 : 5 ≤ R.frames) (h2 : 200 ≤ R.locals) (h3 : bk + (capN c0 0 N - cb) / 8 ≤ R.cells) (h4 : bn + 2 * (capN c0 0 N - cb) ≤ R.slots)
    (kk : ∀ C', IsOut D r c0 (xs ++ txt t) C' → Ex l M D R A Q mc ms (pc + 3) lv rest (Sr ++ [C']) (bk + (capN c0 0 (xs ++ txt t).length - cb) / 8) (bn + 2 * (capN c0 0 (xs ++ txt t).length - cb))) :
    Ex l M D R A Q mc ms pc lv (.ref (D.2.2.2.1 t) :: .ref r :: rest) S (bk + (capN c0 0 xs.length - cb) / 8) (bn + 2 * (capN c0 0 xs.length - cb)) := by
  have hm := capN_mono (c := c0) (n := 0) hN
  have ha := capN_add xs.length (txt t).length c0 0
  rw [Nat.zero_add, ← List.length_append] at ha
  have hg2 := capN_ge (txt t).length (capN c0 0 xs.length) xs.length
  obtain ⟨arr, f, eC, -⟩ := id hrow
  have hct := ct_Ro_pushText (l := l) (R := rm 4 ((capN (capN c0 0 xs.length) xs.length (txt t).length - capN c0 0 xs.length) / 8) (2 * (capN (capN c0 0 xs.length) xs.length (txt t).length - capN c0 0 xs.length))) hrow ht (by rw [List.length_append] at hN; omega) (rm_ok _ _ _)
  rw [← ha] at hct hg2
  refine Ex.cv (Mc := mRo_pushText) (As := [.ref (D.2.2.2.1 t)]) (rest := rest) (Sr := Sr) (ic := ic) (jc := 0) (ci := 5) [ic] rs hct hf hlk lcRo_pushText rfl hc hrr rfl hn2 hdis hS (by rw [eC]; rfl) rfl (by decide) ⟨h1, by show 8 + (3 + 11) + 160 ≤ R.locals; omega⟩ hrm (by dsimp only [rm]; omega) (by dsimp only [rm]; omega) ?_
  rintro v S1 ⟨rfl, C', rfl, hC'⟩
  exact Ex.more (by dsimp only [rm]; omega) (by dsimp only [rm]; omega) (kk C' hC')
theorem Ex.oPush {x : Int32} (ic : Nat) (rs : List Nat) (hrow : IsOut D r c0 xs C) (hcb : cb ≤ capN c0 0 xs.length) (hS : S[ic]? = some C) (hf : xfe M.2.2.2.2.2 pc = some (.invokevirtual ix)) (hlk : Lk M.2.1.cls ix mRo_push) (hc : pk S [ic] [C]) (hrr : pk S rs Sr) (hn2 : va_nd rs = true) (hdis : ∀ i ∈ rs, i ∉ [ic]) (hrm : (rest.map fun v => v.category).sum ≤ 8) (hN : (xs ++ [x]).length ≤ N) (hN2 : N + 9 ≤ 2600)
    (h1 : 3 ≤ R.frames) (h2 : 120 ≤ R.locals) (h3 : bk + (capN c0 0 N - cb) / 8 ≤ R.cells) (h4 : bn + 2 * (capN c0 0 N - cb) ≤ R.slots)
    (kk : ∀ C', IsOut D r c0 (xs ++ [x]) C' → Ex l M D R A Q mc ms (pc + 3) lv (.int 1 :: rest) (Sr ++ [C']) (bk + (capN c0 0 (xs ++ [x]).length - cb) / 8) (bn + 2 * (capN c0 0 (xs ++ [x]).length - cb))) :
    Ex l M D R A Q mc ms pc lv (.int x :: .ref r :: rest) S (bk + (capN c0 0 xs.length - cb) / 8) (bn + 2 * (capN c0 0 xs.length - cb)) := by
  have hm := capN_mono (c := c0) (n := 0) hN
  have ha : capN c0 0 (xs ++ [x]).length = rcap (capN c0 0 xs.length) xs.length := by
    rw [List.length_append, capN_add, Nat.zero_add]; rfl
  rw [ha] at hm
  refine Ex.push ic rs hrow (by rw [List.length_append] at hN; simp at hN; omega) hS hf hlk hc hrr hn2 hdis hrm hcb h1 h2 (by omega) (by omega) ?_
  intro C' hC'
  rw [← ha] at hC' ⊢
  exact kk C' hC'
/-- what is left to do at the row's end -/
theorem Ex.oEnd {M : xM} {pc bk bn} {st : List Value} {S : List va_W} {xs ys : List Int32} (e : xs = ys) (kk : Ex l M D R A Q mc ms pc lv st S (bk + (capN c0 0 ys.length - cb) / 8) (bn + 2 * (capN c0 0 ys.length - cb))) : Ex l M D R A Q mc ms pc lv st S (bk + (capN c0 0 xs.length - cb) / 8) (bn + 2 * (capN c0 0 xs.length - cb)) := by
  subst e; exact kk
end OU

/-! Row: same, pushes in a row, pushPart -/
/-- the places behind k more numbers -/
def capN (cap n : Nat) : Nat → Nat
  | 0 => cap
  | k + 1 => capN (rcap cap n) (n + 1) k
theorem rcap_ge (cap n : Nat) : cap ≤ rcap cap n := by unfold rcap; split <;> omega
theorem capN_ge : ∀ (k cap n : Nat), cap ≤ capN cap n k
  | 0, _, _ => Nat.le_refl _
  | k + 1, cap, n => Nat.le_trans (rcap_ge cap n) (capN_ge k _ _)
theorem capN_add : ∀ (a b cap n : Nat), capN cap n (a + b) = capN (capN cap n a) (n + a) b
  | 0, b, cap, n => by rw [Nat.zero_add]; rfl
  | a + 1, b, cap, n => by
    rw [show a + 1 + b = (a + b) + 1 by omega]
    show capN (rcap cap n) (n + 1) (a + b) = capN (capN (rcap cap n) (n + 1) a) (n + (a + 1)) b
    rw [capN_add a b, show n + 1 + a = n + (a + 1) by omega]
theorem capN_le : ∀ (k cap n B : Nat), cap ≤ B → 2 * (n + k) ≤ B + 2 → capN cap n k ≤ B
  | 0, _, _, _, h, _ => h
  | k + 1, cap, n, B, h, h2 => by
    refine capN_le k (rcap cap n) (n + 1) B ?_ (by omega)
    unfold rcap
    split <;> omega
section RL
variable {l : Launch} {D : xD} {R : Room}
theorem Ex.push {M : xM} {A : Nat → Prop} {Q : Array Value → State → Outcome → State → Prop} {mc ms pc ix r L cap c0 bk bn : Nat} {lv : List (Nat × Value)} {rest : List Value} {S Sr : List va_W} {C : va_W} {xs : List Int32} {x : Int32} (ic : Nat) (rs : List Nat) (hrow : IsRow D r L cap xs C) (hlt : xs.length < L) (hS : S[ic]? = some C) (hf : xfe M.2.2.2.2.2 pc = some (.invokevirtual ix)) (hlk : Lk M.2.1.cls ix mRo_push) (hc : pk S [ic] [C]) (hrr : pk S rs Sr) (hn2 : va_nd rs = true) (hdis : ∀ i ∈ rs, i ∉ [ic]) (hrm : (rest.map fun v => v.category).sum ≤ 8) (hc0 : c0 ≤ cap)
    (h1 : 3 ≤ R.frames) (h2 : 120 ≤ R.locals) (h3 : bk + (rcap cap xs.length - c0) / 8 ≤ R.cells) (h4 : bn + 2 * (rcap cap xs.length - c0) ≤ R.slots)
    (kk : ∀ C', IsRow D r L (rcap cap xs.length) (xs ++ [x]) C' → Ex l M D R A Q mc ms (pc + 3) lv (.int 1 :: rest) (Sr ++ [C']) (bk + (rcap cap xs.length - c0) / 8) (bn + 2 * (rcap cap xs.length - c0))) :
    Ex l M D R A Q mc ms pc lv (.int x :: .ref r :: rest) S (bk + (cap - c0) / 8) (bn + 2 * (cap - c0)) := by
  have hg := rcap_ge cap xs.length
  obtain ⟨arr, f, eC, -⟩ := id hrow
  have e1 : bk + (cap - c0) / 8 + (rcap cap xs.length - cap) / 8 ≤ bk + (rcap cap xs.length - c0) / 8 := by omega
  have e2 : bn + 2 * (cap - c0) + 2 * (rcap cap xs.length - cap) ≤ bn + 2 * (rcap cap xs.length - c0) := by omega
  refine Ex.cv (Mc := mRo_push) (Rc := rm 2 ((rcap cap xs.length - cap) / 8) (2 * (rcap cap xs.length - cap))) (As := [.int x]) (rest := rest) (Sr := Sr) (ic := ic) (jc := 0) (ci := 5) [ic] rs (ct_push hrow hlt (rm_ok _ _ _)) hf hlk lcRo_push rfl hc hrr rfl hn2 hdis hS (by rw [eC]; rfl) rfl (by decide) ⟨h1, by show 8 + (2 + 11) + 80 ≤ R.locals; omega⟩ hrm (Nat.le_trans e1 h3) (Nat.le_trans e2 h4) ?_
  rintro v S1 ⟨rfl, C', rfl, hC'⟩
  exact Ex.more e1 e2 (kk C' hC')
theorem ct_Ro_same {r q L1 L2 p1 p2 : Nat} {xs ys : List Int32} {C1 C2 : va_W} (h1 : IsRow D r L1 p1 xs C1) (h2 : IsRow D q L2 p2 ys C2) (hr : rmOk R 1 0 0) : Ct l mRo_same D R [.ref r, .ref q] [C1, C2] (fun v S => v = some (.int (b32 (decide (xs = ys)))) ∧ S = [C1, C2]) := by
  obtain ⟨a1, f1, rfl, x1, x2, x3, x4, x5, x6⟩ := id h1
  obtain ⟨a2, f2, rfl, y1, y2, y3, y4, y5, y6⟩ := id h2
  obtain ⟨r1, r2, r3, r4⟩ := hr
  refine Ct.of rfl (by decide) tkRo_same (Nat.le_of_ble_eq_true rfl) (fun A => ?_)
  repeat (first | refine Ex.p rfl ?_ | refine Ex.ldc rfl ?_ | refine Ex.ldc2 rfl ?_ | refine Ex.gf 0 0 rfl rfl rfl ?_ | refine Ex.gf 1 0 rfl rfl rfl ?_)
  refine Ex.br rfl (fun c1 => ?_) (fun c1 => ?_)
  · rw [nI_eq (by omega) (by omega)] at c1
    have loop : ∀ (m i : Nat), xs.length - i < m → i ≤ xs.length → (∀ j, j < i → xs[j]? = ys[j]?) → Ex l mRo_same D R A (xQ D A (fun v S => v = some (.int (b32 (decide (xs = ys)))) ∧ S = [sRow D r a1 p1 f1 L1 xs.length, sRow D q a2 p2 f2 L2 ys.length])) R.cells R.slots 15 [(2, .int (nI i)), (0, .ref r), (1, .ref q)] [] [sRow D r a1 p1 f1 L1 xs.length, sRow D q a2 p2 f2 L2 ys.length] 0 0 := by
      intro m
      induction m with
      | zero => intro i h; omega
      | succ m ih =>
        intro i hm hi hj
        repeat (first | refine Ex.p rfl ?_ | refine Ex.ldc rfl ?_ | refine Ex.ldc2 rfl ?_ | refine Ex.gf 0 0 rfl rfl rfl ?_)
        refine Ex.br rfl (fun c2 => ?_) (fun c2 => ?_)
        · rw [nI_leI (by omega) (by omega)] at c2
          repeat (first | refine Ex.p rfl ?_ | refine Ex.ldc rfl ?_ | refine Ex.ldc2 rfl ?_)
          refine Ex.zret rfl rfl (Or.inr rfl) (Nat.zero_le _) (Nat.zero_le _) rfl ⟨?_, rfl⟩
          have e : xs = ys := by
            refine List.ext_getElem? fun j => ?_
            rcases Nat.lt_or_ge j i with g | g
            · exact hj j g
            · rw [List.getElem?_eq_none (by omega), List.getElem?_eq_none (by omega)]
          rw [decide_eq_true e]; rfl
        · rw [nI_leI (by omega) (by omega)] at c2
          refine Ex.p rfl ?_
          refine Ex.p rfl ?_
          refine Ex.cv (Mc := mRo_get) (Rc := rm 0 0 0) (As := [.int (nI i)]) (rest := []) (Sr := [sRow D q a2 p2 f2 L2 ys.length]) (ic := 0) (jc := 0) (ci := 5) [0] [1] (ct_Ro_get h1) rfl lk_5_49 lcRo_get rfl rfl rfl rfl rfl (by decide) rfl rfl rfl (by decide) ⟨r1, by show 8 + (2 + 11) + 0 ≤ R.locals; omega⟩ (Nat.zero_le _) (Nat.zero_le _) (Nat.zero_le _) ?_
          rintro v S1 ⟨rfl, rfl⟩
          refine Ex.p rfl ?_
          refine Ex.p rfl ?_
          refine Ex.cv (Mc := mRo_get) (Rc := rm 0 0 0) (As := [.int (nI i)]) (rest := [.int (rget xs (nI i))]) (Sr := [sRow D r a1 p1 f1 L1 xs.length]) (ic := 0) (jc := 0) (ci := 5) [0] [1] (ct_Ro_get h2) rfl lk_5_49 lcRo_get rfl rfl rfl rfl rfl (by decide) rfl rfl rfl (by decide) ⟨r1, by show 8 + (2 + 11) + 0 ≤ R.locals; omega⟩ (Nat.le_of_ble_eq_true rfl) (Nat.zero_le _) (Nat.zero_le _) ?_
          rintro v S1 ⟨rfl, rfl⟩
          have g1 : rget xs (nI i) = xs.getD i 0 := by rw [rget, nI_toInt (by omega), if_pos (by omega)]; rfl
          have g2 : rget ys (nI i) = ys.getD i 0 := by rw [rget, nI_toInt (by omega), if_pos (by omega)]; rfl
          rw [g1, g2]
          have k1 : xs[i]? = some (xs.getD i 0) := by rw [List.getD_eq_getElem?_getD, List.getElem?_eq_getElem (show i < xs.length by omega)]; rfl
          have k2 : ys[i]? = some (ys.getD i 0) := by rw [List.getD_eq_getElem?_getD, List.getElem?_eq_getElem (show i < ys.length by omega)]; rfl
          refine Ex.br rfl (fun c3 => ?_) (fun c3 => ?_)
          · refine Ex.p rfl ?_
            refine Ex.p rfl ?_
            rw [i_add1]
            refine ih (i + 1) (by omega) (by omega) (fun j g => ?_)
            by_cases e : j = i
            · subst e; rw [k1, k2, c3]
            · exact hj j (by omega)
          · repeat (first | refine Ex.p rfl ?_ | refine Ex.ldc rfl ?_ | refine Ex.ldc2 rfl ?_)
            refine Ex.zret rfl rfl (Or.inl rfl) (Nat.zero_le _) (Nat.zero_le _) rfl ⟨?_, rfl⟩
            rw [decide_eq_false (fun e => c3 (by rw [e]))]; rfl
    refine Ex.p rfl ?_
    refine Ex.p rfl ?_
    exact loop (xs.length + 1) 0 (by omega) (by omega) (fun j g => by omega)
  · rw [nI_eq (by omega) (by omega)] at c1
    repeat (first | refine Ex.p rfl ?_ | refine Ex.ldc rfl ?_ | refine Ex.ldc2 rfl ?_)
    refine Ex.zret rfl rfl (Or.inl rfl) (Nat.zero_le _) (Nat.zero_le _) rfl ⟨?_, rfl⟩
    rw [decide_eq_false (fun e => c1 (by rw [e]))]; rfl
end RL

/-! the reference reads: number, endLine, must, and how they are called -/
theorem neg64z {v : Nat} {z : Int64} (hz : z = 0) (hv : v < 10000000) : z - (nI v).toInt64 = (- nI v).toInt64 := by
  subst hz
  exact neg64 hv
section MOI
variable {l : Launch} {D : xD} {R : Room} {m : Nat} {B : Nat → Nat} {xs : List Int32} {th mn la ap bg wr fi fe wa wn fo st rf rt cu : Int32} {me hl : Bool} {CX : va_W}
theorem ct_Mo_number {s : Bool × Nat} (iX : IsMX D B xs CX) (hp : s.2 ≤ xs.length) (hr : rmOk R 3 0 0) : Ct l mMo_number D R [.ref m] [sMo m B th mn la (nI xs.length) (nI s.2) bg (wrF s) me fi fe wa wn fo st hl rf rt cu, CX] (fun v S => v = some (.long (nV xs s).toInt64) ∧ S = [sMo m B th mn la (nI xs.length) (nI (nS xs s).2) bg (wrF (nS xs s)) me fi fe wa wn fo st hl rf rt cu, CX]) := by
  obtain ⟨r1, r2, r3, r4⟩ := hr
  have hxl : xs.length ≤ 2000 := by
    obtain ⟨_, -, h, -⟩ := id iX
    exact h
  have hm9 := mS_le hp
  generalize hQ : (fun (v : Option Value) S => v = some (.long (nV xs s).toInt64) ∧ S = [sMo m B th mn la (nI xs.length) (nI (nS xs s).2) bg (wrF (nS xs s)) me fi fe wa wn fo st hl rf rt cu, CX]) = Q
  refine Ct.of rfl (by decide) tkMo_number (Nat.le_of_ble_eq_true rfl) (fun A => ?_)
  have s37 : ∀ bo : Bool, bo = decide (gt xs s.2 = 45) → ∀ lv9 : List (Nat × Value), (∀ q ∈ [(1, Value.int (b32 bo)), (0, .ref m)], q ∈ lv9) → ∀ k8 n8 : Nat, k8 ≤ 0 → n8 ≤ 0 → Ex l mMo_number D R A (xQ D A Q) R.cells R.slots 37 lv9 [] [sMo m B th mn la (nI xs.length) (nI (mS xs s).2) bg (wrF (mS xs s)) me fi fe wa wn fo st hl rf rt cu, CX] k8 n8 := by
    intro bo ebo lv9 hlv k8 n8 hk8 hn8
    refine Ex.more (k' := 0) (n' := 0) hk8 hn8 ?_
    refine Ex.lv hlv ?_
    refine Ex.p rfl ?_
    refine Ex.cv (Mc := mMo_whole) (Rc := rm 2 0 0) (As := []) (rest := []) (Sr := []) (ic := 0) (jc := 0) (ci := 10) [0, 1] [] (ct_Mo_whole iX hm9.2 (rm_ok _ _ _)) rfl lk_10_185 lcMo_whole rfl rfl rfl rfl rfl (by decide) rfl rfl rfl (by decide) ⟨by dsimp only [rm]; omega, by show 8 + (4 + 11) + 80 ≤ R.locals; omega⟩ (Nat.le_of_ble_eq_true rfl) (by first | (dsimp only [rm]; omega) | omega) (by first | (dsimp only [rm]; omega) | omega) ?_
    rintro v9 S1 ⟨rfl, rfl⟩
    refine Ex.p rfl ?_
    refine Ex.p rfl ?_
    cases bo with
    | true =>
      have eg : gt xs s.2 = 45 := of_decide_eq_true ebo.symm
      refine Ex.br rfl (fun c => absurd c (show (1 : Int32) ≠ 0 by decide)) (fun _ => ?_)
      refine Ex.p rfl ?_
      refine Ex.p rfl ?_
      refine Ex.p rfl ?_
      rw [neg64z (v := wV xs (mS xs s)) ?hz wV_lt]
      case hz => rfl
      refine Ex.p rfl ?_
      refine Ex.lret rfl rfl (by first | (dsimp only [rm]; omega) | omega) (by first | (dsimp only [rm]; omega) | omega) rfl ?_
      subst hQ
      exact ⟨by unfold nV; rw [if_pos eg], rfl⟩
    | false =>
      have eg : ¬ gt xs s.2 = 45 := of_decide_eq_false ebo.symm
      refine Ex.br rfl (fun _ => ?_) (fun c => absurd rfl c)
      refine Ex.p rfl ?_
      refine Ex.lret rfl rfl (by first | (dsimp only [rm]; omega) | omega) (by first | (dsimp only [rm]; omega) | omega) rfl ?_
      subst hQ
      exact ⟨by unfold nV; rw [if_neg eg], rfl⟩
  refine Ex.p rfl ?_
  refine Ex.cv (Mc := mMo_now) (Rc := rm 0 0 0) (As := []) (rest := []) (Sr := []) (ic := 0) (jc := 0) (ci := 10) [0, 1] [] (ct_Mo_now iX hp) rfl lk_10_181 lcMo_now rfl rfl rfl rfl rfl (by decide) rfl rfl rfl (by decide) ⟨by dsimp only [rm]; omega, by show 8 + (1 + 11) + 0 ≤ R.locals; omega⟩ (Nat.le_of_ble_eq_true rfl) (by first | (dsimp only [rm]; omega) | omega) (by first | (dsimp only [rm]; omega) | omega) ?_
  rintro v9 S1 ⟨rfl, rfl⟩
  refine Ex.p rfl ?_
  refine Ex.br rfl (fun c => ?_) (fun c => ?_)
  · have c : ¬ gt xs s.2 = 45 := c
    have em : mS xs s = s := if_neg (fun q => c q.2)
    refine Ex.p rfl ?_
    refine Ex.p rfl ?_
    refine Ex.p rfl ?_
    refine Ex.br rfl (fun _ => ?_) (fun c => absurd rfl c)
    rw [em] at s37
    refine s37 false (by rw [decide_eq_false c]) _ (fun q h => ?_) _ _ (by first | (dsimp only [rm]; omega) | omega) (by first | (dsimp only [rm]; omega) | omega)
    simp only [List.mem_cons, List.not_mem_nil, or_false] at h
    rcases h with rfl | rfl <;> first | (simp [xs1, xs2, lv_args, Value.category, b32, nI]; done) | (simp [xs1, xs2, lv_args, Value.category, b32, nI]; decide) | (simp [xs1, xs2, lv_args, Value.category, b32, nI]; exact Or.inr (by decide)) | (simp [xs1, xs2, lv_args, Value.category, b32, nI]; exact Or.inl (by decide))
  · have c : ¬ ¬ gt xs s.2 = 45 := c
    have c := Decidable.not_not.mp c
    refine Ex.p rfl ?_
    refine Ex.p rfl ?_
    refine Ex.p rfl ?_
    refine Ex.p rfl ?_
    refine Ex.br rfl (fun c => absurd c (show (1 : Int32) ≠ 0 by decide)) (fun _ => ?_)
    refine Ex.p rfl ?_
    refine Ex.gf 0 0 rfl rfl rfl ?_
    refine Ex.p rfl ?_
    obtain ⟨b, p⟩ := s
    cases b with
    | false =>
      have em : mS xs (false, p) = (false, p) := if_neg (fun q => by cases q.1)
      refine Ex.br rfl (fun _ => ?_) (fun c => absurd (nI_ne1 (by dsimp only at hp ⊢; omega)) c)
      rw [em] at s37
      refine s37 true (by rw [decide_eq_true c]) _ (fun q h => ?_) _ _ (by first | (dsimp only [rm]; omega) | omega) (by first | (dsimp only [rm]; omega) | omega)
      simp only [List.mem_cons, List.not_mem_nil, or_false] at h
      rcases h with rfl | rfl <;> first | (simp [xs1, xs2, lv_args, Value.category, b32, nI]; done) | (simp [xs1, xs2, lv_args, Value.category, b32, nI]; decide) | (simp [xs1, xs2, lv_args, Value.category, b32, nI]; exact Or.inr (by decide)) | (simp [xs1, xs2, lv_args, Value.category, b32, nI]; exact Or.inl (by decide))
    | true =>
      have em : mS xs (true, p) = (true, p + 1) := if_pos ⟨rfl, c⟩
      refine Ex.br rfl (fun c => absurd rfl c) (fun _ => ?_)
      refine Ex.p rfl ?_
      refine Ex.p rfl ?_
      refine Ex.gf 0 0 rfl rfl rfl ?_
      refine Ex.p rfl ?_
      refine Ex.p rfl ?_
      rw [i_add1]
      refine Ex.pf 0 0 rfl rfl rfl rfl rfl rfl ?_
      rw [em] at s37
      refine s37 true (by rw [decide_eq_true c]) _ (fun q h => ?_) _ _ (by first | (dsimp only [rm]; omega) | omega) (by first | (dsimp only [rm]; omega) | omega)
      simp only [List.mem_cons, List.not_mem_nil, or_false] at h
      rcases h with rfl | rfl <;> first | (simp [xs1, xs2, lv_args, Value.category, b32, nI]; done) | (simp [xs1, xs2, lv_args, Value.category, b32, nI]; decide) | (simp [xs1, xs2, lv_args, Value.category, b32, nI]; exact Or.inr (by decide)) | (simp [xs1, xs2, lv_args, Value.category, b32, nI]; exact Or.inl (by decide))
theorem ct_Mo_endLine {s : Bool × Nat} {b0 : Nat} (iX : IsMX D B xs CX) (hp : s.2 ≤ xs.length) (hb : b0 ≤ xs.length) (hr : rmOk R 2 0 0) : Ct l mMo_endLine D R [.ref m] [sMo m B th mn la (nI xs.length) (nI s.2) (nI b0) (wrF s) me fi fe wa wn fo st hl rf rt cu, CX] (fun v S => v = some (.int (b32 ((eX xs 10 s).1 && me))) ∧ S = [sMo m B th mn la (nI xs.length) (nI (eX xs 10 s).2) (nI b0) (wrE (eX xs 10 s) me b0) me fi fe wa wn fo st hl rf rt cu, CX]) := by
  obtain ⟨r1, r2, r3, r4⟩ := hr
  have hxl : xs.length ≤ 2000 := by
    obtain ⟨_, -, h, -⟩ := id iX
    exact h
  refine Ct.of rfl (by decide) tkMo_endLine (Nat.le_of_ble_eq_true rfl) (fun A => ?_)
  refine Ex.p rfl ?_
  refine Ex.p rfl ?_
  refine Ex.cv (Mc := mMo_expect) (Rc := rm 1 0 0) (As := [.int 10]) (rest := []) (Sr := []) (ic := 0) (jc := 0) (ci := 10) [0, 1] [] (ct_Mo_expect iX hp (rm_ok _ _ _)) rfl lk_10_195 lcMo_expect rfl rfl rfl rfl rfl (by decide) rfl rfl rfl (by decide) ⟨by dsimp only [rm]; omega, by show 8 + (2 + 11) + 40 ≤ R.locals; omega⟩ (Nat.le_of_ble_eq_true rfl) (by first | (dsimp only [rm]; omega) | omega) (by first | (dsimp only [rm]; omega) | omega) ?_
  rintro v9 S1 ⟨rfl, rfl⟩
  have hle := eX_le (u := 10) (by decide) hp
  generalize eX xs 10 s = t at hle
  obtain ⟨b, p⟩ := t
  refine Ex.p rfl ?_
  refine Ex.gf 0 0 rfl rfl rfl ?_
  refine Ex.p rfl ?_
  cases b with
  | false =>
    refine Ex.br rfl (fun _ => ?_) (fun c => absurd (nI_ne1 (by dsimp only at hle ⊢; omega)) c)
    refine Ex.p rfl ?_
    refine Ex.gf 0 0 rfl rfl rfl ?_
    refine Ex.p rfl ?_
    refine Ex.br rfl (fun _ => ?_) (fun c => absurd (nI_ne1 (by dsimp only at hle ⊢; omega)) c)
    refine Ex.p rfl ?_
    exact Ex.zret rfl rfl (Or.inl rfl) (by first | (dsimp only [rm]; omega) | omega) (by first | (dsimp only [rm]; omega) | omega) rfl ⟨rfl, rfl⟩
  | true =>
    refine Ex.br rfl (fun c => absurd rfl c) (fun _ => ?_)
    refine Ex.p rfl ?_
    refine Ex.gf 0 0 rfl rfl rfl ?_
    cases me with
    | true =>
      refine Ex.br rfl (fun _ => ?_) (fun c => absurd (show (1 : Int32) ≠ 0 by decide) c)
      refine Ex.p rfl ?_
      refine Ex.gf 0 0 rfl rfl rfl ?_
      refine Ex.p rfl ?_
      refine Ex.br rfl (fun c => absurd rfl c) (fun _ => ?_)
      refine Ex.p rfl ?_
      refine Ex.p rfl ?_
      exact Ex.zret rfl rfl (Or.inr rfl) (by first | (dsimp only [rm]; omega) | omega) (by first | (dsimp only [rm]; omega) | omega) rfl ⟨rfl, rfl⟩
    | false =>
      refine Ex.br rfl (fun c => absurd rfl c) (fun _ => ?_)
      refine Ex.p rfl ?_
      refine Ex.p rfl ?_
      refine Ex.gf 0 0 rfl rfl rfl ?_
      refine Ex.pf 0 0 rfl rfl rfl rfl rfl rfl ?_
      refine Ex.p rfl ?_
      refine Ex.gf 0 0 rfl rfl rfl ?_
      refine Ex.p rfl ?_
      refine Ex.br rfl (fun _ => ?_) (fun c => absurd (nI_ne1 (by omega)) c)
      refine Ex.p rfl ?_
      exact Ex.zret rfl rfl (Or.inl rfl) (by first | (dsimp only [rm]; omega) | omega) (by first | (dsimp only [rm]; omega) | omega) rfl ⟨rfl, rfl⟩
theorem ct_Mo_must {ln : Int32} {g : Bool} : Ct l mMo_must D R [.ref m, .int (b32 g)] [sMo m B th mn la ln ap bg wr me fi fe wa wn fo st hl rf rt cu] (fun v S => v = none ∧ S = [sMo m B th mn la ln ap bg wr (me && g) fi fe wa wn fo st hl rf rt cu]) := by
  refine Ct.of rfl (by decide) tkMo_must (Nat.le_of_ble_eq_true rfl) (fun A => ?_)
  refine Ex.p rfl ?_
  refine Ex.p rfl ?_
  refine Ex.gf 0 0 rfl rfl rfl ?_
  cases me with
  | false =>
    refine Ex.br rfl (fun _ => ?_) (fun c => absurd rfl c)
    refine Ex.p rfl ?_
    refine Ex.pf 0 0 rfl rfl rfl rfl rfl rfl ?_
    exact Ex.vret rfl rfl (Nat.zero_le _) (Nat.zero_le _) rfl ⟨rfl, rfl⟩
  | true =>
    refine Ex.br rfl (fun c => absurd c (show (1 : Int32) ≠ 0 by decide)) (fun _ => ?_)
    refine Ex.p rfl ?_
    cases g with
    | false =>
      refine Ex.br rfl (fun _ => ?_) (fun c => absurd rfl c)
      refine Ex.p rfl ?_
      refine Ex.pf 0 0 rfl rfl rfl rfl rfl rfl ?_
      exact Ex.vret rfl rfl (Nat.zero_le _) (Nat.zero_le _) rfl ⟨rfl, rfl⟩
    | true =>
      refine Ex.br rfl (fun c => absurd c (show (1 : Int32) ≠ 0 by decide)) (fun _ => ?_)
      refine Ex.p rfl ?_
      refine Ex.p rfl ?_
      refine Ex.pf 0 0 rfl rfl rfl rfl rfl rfl ?_
      exact Ex.vret rfl rfl (Nat.zero_le _) (Nat.zero_le _) rfl ⟨rfl, rfl⟩
end MOI
section MOJ
variable {l : Launch} {M : xM} {D : xD} {R : Room} {A : Nat → Prop} {Q : Array Value → State → Outcome → State → Prop} {mc ms pc k n : Nat} {lv : List (Nat × Value)} {rest : List Value} {m : Nat} {B : Nat → Nat} {xs : List Int32} {th mn la ln ap bg wr fi fe wa wn fo st rf rt cu : Int32} {me hl : Bool} {CT CH CX : va_W} {s : Bool × Nat}
theorem Ex.xpc {u : Int32} (iX : IsMX D B xs CX) (hp : s.2 ≤ xs.length) (hM : M.2.1.cls = "DrillArchiveModel") (hf : xfe M.2.2.2.2.2 pc = some (.invokevirtual 195)) (r1 : 2 ≤ R.frames) (r2 : 80 ≤ R.locals) (hk : k ≤ R.cells) (hn : n ≤ R.slots) (hrm : (rest.map fun v => v.category).sum ≤ 8) (kk : Ex l M D R A Q mc ms (pc + 3) lv rest [sMo m B th mn la (nI xs.length) (nI (eX xs u s).2) bg (wrF (eX xs u s)) me fi fe wa wn fo st hl rf rt cu, CT, CH, CX] k n) : Ex l M D R A Q mc ms pc lv (.int u :: .ref m :: rest) [sMo m B th mn la (nI xs.length) (nI s.2) bg (wrF s) me fi fe wa wn fo st hl rf rt cu, CT, CH, CX] k n := by
  refine Ex.cv (Mc := mMo_expect) (Rc := rm 1 0 0) (As := [.int u]) (rest := rest) (Sr := [CT, CH]) (ic := 0) (jc := 0) (ci := 10) [0, 3] [1, 2] (ct_Mo_expect iX hp (rm_ok _ _ _)) hf (by rw [hM]; exact lk_10_195) lcMo_expect rfl rfl rfl rfl rfl (by decide) rfl rfl rfl (by decide) ⟨by dsimp only [rm]; omega, by show 8 + (2 + 11) + 40 ≤ R.locals; omega⟩ hrm (by first | (dsimp only [rm]; omega) | omega) (by first | (dsimp only [rm]; omega) | omega) ?_
  rintro v S1 ⟨rfl, rfl⟩
  exact Ex.sub (S' := [_, CT, CH, CX]) [2, 0, 1, 3] rfl rfl kk
theorem Ex.who (iX : IsMX D B xs CX) (hp : s.2 ≤ xs.length) (hM : M.2.1.cls = "DrillArchiveModel") (hf : xfe M.2.2.2.2.2 pc = some (.invokevirtual 185)) (r1 : 3 ≤ R.frames) (r2 : 120 ≤ R.locals) (hk : k ≤ R.cells) (hn : n ≤ R.slots) (hrm : (rest.map fun v => v.category).sum ≤ 8) (kk : Ex l M D R A Q mc ms (pc + 3) lv (.long (nI (wV xs s)).toInt64 :: rest) [sMo m B th mn la (nI xs.length) (nI (wS xs s).2) bg (wrF (wS xs s)) me fi fe wa wn fo st hl rf rt cu, CT, CH, CX] k n) : Ex l M D R A Q mc ms pc lv (.ref m :: rest) [sMo m B th mn la (nI xs.length) (nI s.2) bg (wrF s) me fi fe wa wn fo st hl rf rt cu, CT, CH, CX] k n := by
  refine Ex.cv (Mc := mMo_whole) (Rc := rm 2 0 0) (As := []) (rest := rest) (Sr := [CT, CH]) (ic := 0) (jc := 0) (ci := 10) [0, 3] [1, 2] (ct_Mo_whole iX hp (rm_ok _ _ _)) hf (by rw [hM]; exact lk_10_185) lcMo_whole rfl rfl rfl rfl rfl (by decide) rfl rfl rfl (by decide) ⟨by dsimp only [rm]; omega, by show 8 + (4 + 11) + 80 ≤ R.locals; omega⟩ hrm (by first | (dsimp only [rm]; omega) | omega) (by first | (dsimp only [rm]; omega) | omega) ?_
  rintro v S1 ⟨rfl, rfl⟩
  exact Ex.sub (S' := [_, CT, CH, CX]) [2, 0, 1, 3] rfl rfl kk
theorem Ex.num (iX : IsMX D B xs CX) (hp : s.2 ≤ xs.length) (hM : M.2.1.cls = "DrillArchiveModel") (hf : xfe M.2.2.2.2.2 pc = some (.invokevirtual 230)) (r1 : 4 ≤ R.frames) (r2 : 160 ≤ R.locals) (hk : k ≤ R.cells) (hn : n ≤ R.slots) (hrm : (rest.map fun v => v.category).sum ≤ 8) (kk : Ex l M D R A Q mc ms (pc + 3) lv (.long (nV xs s).toInt64 :: rest) [sMo m B th mn la (nI xs.length) (nI (nS xs s).2) bg (wrF (nS xs s)) me fi fe wa wn fo st hl rf rt cu, CT, CH, CX] k n) : Ex l M D R A Q mc ms pc lv (.ref m :: rest) [sMo m B th mn la (nI xs.length) (nI s.2) bg (wrF s) me fi fe wa wn fo st hl rf rt cu, CT, CH, CX] k n := by
  refine Ex.cv (Mc := mMo_number) (Rc := rm 3 0 0) (As := []) (rest := rest) (Sr := [CT, CH]) (ic := 0) (jc := 0) (ci := 10) [0, 3] [1, 2] (ct_Mo_number iX hp (rm_ok _ _ _)) hf (by rw [hM]; exact lk_10_230) lcMo_number rfl rfl rfl rfl rfl (by decide) rfl rfl rfl (by decide) ⟨by dsimp only [rm]; omega, by show 8 + (4 + 11) + 120 ≤ R.locals; omega⟩ hrm (by first | (dsimp only [rm]; omega) | omega) (by first | (dsimp only [rm]; omega) | omega) ?_
  rintro v S1 ⟨rfl, rfl⟩
  exact Ex.sub (S' := [_, CT, CH, CX]) [2, 0, 1, 3] rfl rfl kk
theorem Ex.now {p : Nat} (iX : IsMX D B xs CX) (hp : p ≤ xs.length) (hM : M.2.1.cls = "DrillArchiveModel") (hf : xfe M.2.2.2.2.2 pc = some (.invokevirtual 181)) (r1 : 1 ≤ R.frames) (r2 : 40 ≤ R.locals) (hk : k ≤ R.cells) (hn : n ≤ R.slots) (hrm : (rest.map fun v => v.category).sum ≤ 8) (kk : Ex l M D R A Q mc ms (pc + 3) lv (.int (gt xs p) :: rest) [sMo m B th mn la (nI xs.length) (nI p) bg wr me fi fe wa wn fo st hl rf rt cu, CT, CH, CX] k n) : Ex l M D R A Q mc ms pc lv (.ref m :: rest) [sMo m B th mn la (nI xs.length) (nI p) bg wr me fi fe wa wn fo st hl rf rt cu, CT, CH, CX] k n := by
  refine Ex.cv (Mc := mMo_now) (Rc := rm 0 0 0) (As := []) (rest := rest) (Sr := [CT, CH]) (ic := 0) (jc := 0) (ci := 10) [0, 3] [1, 2] (ct_Mo_now iX hp) hf (by rw [hM]; exact lk_10_181) lcMo_now rfl rfl rfl rfl rfl (by decide) rfl rfl rfl (by decide) ⟨by dsimp only [rm]; omega, by show 8 + (1 + 11) + 0 ≤ R.locals; omega⟩ hrm (by first | (dsimp only [rm]; omega) | omega) (by first | (dsimp only [rm]; omega) | omega) ?_
  rintro v S1 ⟨rfl, rfl⟩
  exact Ex.sub (S' := [_, CT, CH, CX]) [2, 0, 1, 3] rfl rfl kk
theorem Ex.endl {b0 : Nat} (iX : IsMX D B xs CX) (hp : s.2 ≤ xs.length) (hb : b0 ≤ xs.length) (hM : M.2.1.cls = "DrillArchiveModel") (hf : xfe M.2.2.2.2.2 pc = some (.invokevirtual 209)) (r1 : 3 ≤ R.frames) (r2 : 120 ≤ R.locals) (hk : k ≤ R.cells) (hn : n ≤ R.slots) (hrm : (rest.map fun v => v.category).sum ≤ 8) (kk : Ex l M D R A Q mc ms (pc + 3) lv (.int (b32 ((eX xs 10 s).1 && me)) :: rest) [sMo m B th mn la (nI xs.length) (nI (eX xs 10 s).2) (nI b0) (wrE (eX xs 10 s) me b0) me fi fe wa wn fo st hl rf rt cu, CT, CH, CX] k n) : Ex l M D R A Q mc ms pc lv (.ref m :: rest) [sMo m B th mn la (nI xs.length) (nI s.2) (nI b0) (wrF s) me fi fe wa wn fo st hl rf rt cu, CT, CH, CX] k n := by
  refine Ex.cv (Mc := mMo_endLine) (Rc := rm 2 0 0) (As := []) (rest := rest) (Sr := [CT, CH]) (ic := 0) (jc := 0) (ci := 10) [0, 3] [1, 2] (ct_Mo_endLine iX hp hb (rm_ok _ _ _)) hf (by rw [hM]; exact lk_10_209) lcMo_endLine rfl rfl rfl rfl rfl (by decide) rfl rfl rfl (by decide) ⟨by dsimp only [rm]; omega, by show 8 + (1 + 11) + 80 ≤ R.locals; omega⟩ hrm (by first | (dsimp only [rm]; omega) | omega) (by first | (dsimp only [rm]; omega) | omega) ?_
  rintro v S1 ⟨rfl, rfl⟩
  exact Ex.sub (S' := [_, CT, CH, CX]) [2, 0, 1, 3] rfl rfl kk
theorem Ex.must {g : Bool} (hM : M.2.1.cls = "DrillArchiveModel") (hf : xfe M.2.2.2.2.2 pc = some (.invokevirtual 205)) (r1 : 1 ≤ R.frames) (r2 : 40 ≤ R.locals) (hk : k ≤ R.cells) (hn : n ≤ R.slots) (hrm : (rest.map fun v => v.category).sum ≤ 8) (kk : Ex l M D R A Q mc ms (pc + 3) lv rest [sMo m B th mn la ln ap bg wr (me && g) fi fe wa wn fo st hl rf rt cu, CT, CH, CX] k n) : Ex l M D R A Q mc ms pc lv (.int (b32 g) :: .ref m :: rest) [sMo m B th mn la ln ap bg wr me fi fe wa wn fo st hl rf rt cu, CT, CH, CX] k n := by
  refine Ex.cv (Mc := mMo_must) (Rc := rm 0 0 0) (As := [.int (b32 g)]) (rest := rest) (Sr := [CT, CH, CX]) (ic := 0) (jc := 0) (ci := 10) [0] [1, 2, 3] ct_Mo_must hf (by rw [hM]; exact lk_10_205) lcMo_must rfl rfl rfl rfl rfl (by decide) rfl rfl rfl (by decide) ⟨by dsimp only [rm]; omega, by show 8 + (2 + 11) + 0 ≤ R.locals; omega⟩ hrm (by first | (dsimp only [rm]; omega) | omega) (by first | (dsimp only [rm]; omega) | omega) ?_
  rintro v S1 ⟨rfl, rfl⟩
  exact Ex.sub (S' := [_, CT, CH, CX]) [3, 0, 1, 2] rfl rfl kk
end MOJ

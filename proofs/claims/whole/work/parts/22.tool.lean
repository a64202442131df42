/-! Tool: its numbers, two rows -/
def IsTool (D : xD) (a : Nat) (dm : Int32) (pl : Bool) (hs os : List Int32) (len : Int64) (pn : Bool) (ch co : Nat) (C : va_W) : Prop :=
  ∃ (rh ro : Nat) (Ch Co : va_W), C = (a, .inr (9, [.int dm, .int (b32 pl), .ref rh, .ref ro, .long len, .int (b32 pn)])) :: (Ch ++ Co) ∧ IsRow D rh 60 ch hs Ch ∧ IsRow D ro 60 co os Co
theorem b32_nar (b : Bool) : narrow .boolean (.int (b32 b)) = .int (b32 b) := by cases b <;> rfl
theorem b32_fit (b : Bool) : fits .boolean (.int (b32 b)) = true := by cases b <;> rfl
theorem Ct.imp {l : Launch} {M : xM} {D : xD} {R : Room} {av : List Value} {S : List va_W} {Q Q' : Option Value → List va_W → Prop} (h : Ct l M D R av S Q) (hq : ∀ v S, Q v S → Q' v S) : Ct l M D R av S Q' := by
  intro sz p e ha hc hk s m args below hf happ hP hK
  obtain ⟨n, o, h1, h2, h3, ⟨⟨v, S1, e1, e2, e3, e4⟩, hF⟩, hL⟩ := h sz p e ha hc hk s m args below hf happ hP hK
  exact ⟨n, o, h1, h2, h3, ⟨⟨v, S1, e1, hq _ _ e2, e3, e4⟩, hF⟩, hL⟩
/-- what a push may make -/
theorem ct_push {l : Launch} {D : xD} {R : Room} {r L cap : Nat} {xs : List Int32} {C : va_W} {x : Int32} (h : IsRow D r L cap xs C) (hlt : xs.length < L) (hr : rmOk R 2 ((rcap cap xs.length - cap) / 8) (2 * (rcap cap xs.length - cap))) :
    Ct l mRo_push D R [.ref r, .int x] [C] (fun v S => v = some (.int 1) ∧ ∃ C', S = [C'] ∧ IsRow D r L (rcap cap xs.length) (xs ++ [x]) C') := by
  have h9 := id h
  obtain ⟨arr, f, e0, h1, h2, h3, h4, h5, h6⟩ := h9
  refine Ct.imp (ct_Ro_push (l := l) (R := R) (x := x) h hr.1 (by have := hr.2.1; omega) ?_) ?_
  · by_cases q : xs.length < cap
    · exact Or.inr (Or.inl q)
    · have := hr.2.2
      rw [rcap, if_neg q] at this
      exact Or.inr (Or.inr ⟨by omega, by omega⟩)
  · intro v S e2
    rcases e2 with ⟨-, q1, q2⟩ | ⟨q, -⟩
    · exact ⟨q1, q2⟩
    · omega
section TO
variable {l : Launch} {D : xD} {R : Room}
theorem ct_To_init {a : Nat} {dm : Int32} {pl : Bool} (hr : rmOk R 2 4 22) : Ct l mTo_init D R [.ref a, .int dm, .int (b32 pl)] [[(a, .inr (9, gdf 9))]] (fun v S => v = none ∧ ∃ C, S = [C] ∧ IsTool D a dm pl [] [] 0 false 8 8 C) := by
  obtain ⟨r1, r2, r3, r4⟩ := hr
  refine Ct.of rfl (by decide) tkTo_init (Nat.le_of_ble_eq_true rfl) (fun A => ?_)
  refine Ex.p rfl ?_
  refine Ex.oi rfl lk_9_3 (by omega) (by simp; omega) ?_
  refine Ex.p rfl ?_
  refine Ex.new (ci := 5) (N := 3) rfl rfl (by omega) (by omega) (fun q => ?_)
  refine Ex.p rfl ?_
  refine Ex.p rfl ?_
  refine Ex.ci (Mc := mRo_init) (Rc := rm 1 1 8) (As := [.int (nI 60)]) (rest := [.ref q, .ref a]) (Sr := [[(a, .inr (9, gdf 9))]]) [1] [0] (ct_Ro_init (by decide) (Nat.le_refl _) (by decide) (Nat.le_refl _) (Nat.le_refl _)) rfl lk_9_11 lcRo_init rfl rfl rfl rfl rfl (by decide) ⟨r1, by show 8 + (2 + 11) + 40 ≤ R.locals; omega⟩ (Nat.le_of_ble_eq_true rfl) (by show 0 + 1 + 1 ≤ R.cells; omega) (by show 0 + 3 + 8 ≤ R.slots; omega) ?_
  rintro v S1 ⟨rfl, C1, rfl, hC1⟩
  refine Ex.pfF 0 0 rfl rfl rfl rfl rfl rfl rfl rfl ?_
  refine Ex.p rfl ?_
  refine Ex.new (ci := 5) (N := 3) rfl rfl (by show 0 + 1 + 1 + 1 ≤ R.cells; omega) (by show 0 + 3 + 8 + 3 ≤ R.slots; omega) (fun q2 => ?_)
  refine Ex.p rfl ?_
  refine Ex.p rfl ?_
  refine Ex.ci (Mc := mRo_init) (Rc := rm 1 1 8) (As := [.int (nI 60)]) (rest := [.ref q2, .ref a]) (Sr := [[(a, .inr (9, [.int 0, .int 0, .ref q, .null, .long 0, .int 0]))], C1]) [2] [0, 1] (ct_Ro_init (by decide) (Nat.le_refl _) (by decide) (Nat.le_refl _) (Nat.le_refl _)) rfl lk_9_11 lcRo_init rfl rfl rfl rfl rfl (by decide) ⟨r1, by show 8 + (2 + 11) + 40 ≤ R.locals; omega⟩ (Nat.le_of_ble_eq_true rfl) (by show 0 + 1 + 1 + 1 + 1 ≤ R.cells; omega) (by show 0 + 3 + 8 + 3 + 8 ≤ R.slots; omega) ?_
  rintro v S1 ⟨rfl, C2, rfl, hC2⟩
  refine Ex.pfF 0 0 rfl rfl rfl rfl rfl rfl rfl rfl ?_
  refine Ex.p rfl ?_
  refine Ex.p rfl ?_
  refine Ex.pfF 0 0 rfl rfl rfl rfl rfl rfl rfl rfl ?_
  refine Ex.p rfl ?_
  refine Ex.p rfl ?_
  refine Ex.pfF 0 0 rfl rfl rfl rfl rfl rfl (b32_nar pl) (b32_fit pl) ?_
  refine Ex.vret (S' := [(a, .inr (9, [.int dm, .int (b32 pl), .ref q, .ref q2, .long 0, .int 0])) :: (C1 ++ C2)]) rfl rfl (by show 0 + 1 + 1 + 1 + 1 ≤ R.cells; omega) (by show 0 + 3 + 8 + 3 + 8 ≤ R.slots; omega) ?_ ⟨rfl, _, rfl, q, q2, C1, C2, rfl, hC1, hC2⟩
  simp
theorem ct_To_addHit {a ch co : Nat} {dm x : Int32} {pl pn : Bool} {hs os : List Int32} {len : Int64} {C : va_W} (h : IsTool D a dm pl hs os len pn ch co C) (hlt : hs.length < 60) (hr : rmOk R 3 ((rcap ch hs.length - ch) / 8) (2 * (rcap ch hs.length - ch))) : Ct l mTo_addHit D R [.ref a, .int x] [C] (fun v S => v = none ∧ ∃ C', S = [C'] ∧ IsTool D a dm pl (hs ++ [x]) os len false (rcap ch hs.length) co C') := by
  obtain ⟨rh, ro, Ch, Co, rfl, hh, ho⟩ := h
  obtain ⟨r1, r2, r3, r4⟩ := hr
  refine Ct.of rfl (by decide) tkTo_addHit (Nat.le_of_ble_eq_true rfl) (fun A => ?_)
  refine Ex.seg (S' := [[(a, .inr (9, [.int dm, .int (b32 pl), .ref rh, .ref ro, .long len, .int (b32 pn)]))], Ch, Co]) (by simp) ?_
  repeat (first | refine Ex.p rfl ?_ | refine Ex.ldc rfl ?_ | refine Ex.ldc2 rfl ?_ | refine Ex.gf 0 0 rfl rfl rfl ?_)
  obtain ⟨arr, f, eC, -⟩ := id hh
  refine Ex.cv (Mc := mRo_push) (Rc := rm 2 ((rcap ch hs.length - ch) / 8) (2 * (rcap ch hs.length - ch))) (As := [.int x]) (rest := []) (Sr := [[(a, .inr (9, [.int dm, .int (b32 pl), .ref rh, .ref ro, .long len, .int (b32 pn)]))], Co]) (ic := 1) (jc := 0) (ci := 5) [1] [0, 2] (ct_push hh hlt (rm_ok _ _ _)) rfl lk_9_31 lcRo_push rfl rfl rfl rfl rfl (by decide) rfl (by rw [eC]; rfl) rfl (by decide) ⟨r1, by show 8 + (2 + 11) + 80 ≤ R.locals; omega⟩ (Nat.zero_le _) (by dsimp only [rm]; omega) (by dsimp only [rm]; omega) ?_
  rintro v S1 ⟨rfl, C1, rfl, hC1⟩
  refine Ex.p rfl ?_
  refine Ex.p rfl ?_
  refine Ex.p rfl ?_
  refine Ex.pf 0 0 rfl rfl rfl rfl rfl rfl ?_
  refine Ex.sub (S' := [[(a, .inr (9, [.int dm, .int (b32 pl), .ref rh, .ref ro, .long len, .int 0]))], C1, Co]) [0, 2, 1] rfl rfl ?_
  refine Ex.vret (S' := [(a, .inr (9, [.int dm, .int (b32 pl), .ref rh, .ref ro, .long len, .int 0])) :: (C1 ++ Co)]) rfl rfl (by dsimp only [rm]; omega) (by dsimp only [rm]; omega) ?_ ⟨rfl, _, rfl, rh, ro, C1, Co, rfl, hC1, ho⟩
  simp
theorem ct_To_beginPlan {a ch co : Nat} {dm : Int32} {pl pn : Bool} {hs os : List Int32} {len : Int64} {C : va_W} (h : IsTool D a dm pl hs os len pn ch co C) (hr : rmOk R 1 0 0) : Ct l mTo_beginPlan D R [.ref a] [C] (fun v S => v = none ∧ ∃ C', S = [C'] ∧ IsTool D a dm pl hs [] 0 true ch co C') := by
  obtain ⟨rh, ro, Ch, Co, rfl, hh, ho⟩ := h
  obtain ⟨r1, r2, r3, r4⟩ := hr
  refine Ct.of rfl (by decide) tkTo_beginPlan (Nat.le_of_ble_eq_true rfl) (fun A => ?_)
  refine Ex.seg (S' := [[(a, .inr (9, [.int dm, .int (b32 pl), .ref rh, .ref ro, .long len, .int (b32 pn)]))], Ch, Co]) (by simp) ?_
  repeat (first | refine Ex.p rfl ?_ | refine Ex.ldc rfl ?_ | refine Ex.ldc2 rfl ?_ | refine Ex.gf 0 0 rfl rfl rfl ?_)
  obtain ⟨arr, f, eC, -⟩ := id ho
  refine Ex.cv (Mc := mRo_empty) (Rc := rm 0 0 0) (As := []) (rest := []) (Sr := [[(a, .inr (9, [.int dm, .int (b32 pl), .ref rh, .ref ro, .long len, .int (b32 pn)]))], Ch]) (ic := 2) (jc := 0) (ci := 5) [2] [0, 1] (ct_Ro_empty ho) rfl lk_9_38 lcRo_empty rfl rfl rfl rfl rfl (by decide) rfl (by rw [eC]; rfl) rfl (by decide) ⟨r1, by show 8 + (1 + 11) + 0 ≤ R.locals; omega⟩ (Nat.zero_le _) (Nat.zero_le _) (Nat.zero_le _) ?_
  rintro v S1 ⟨rfl, C1, rfl, hC1⟩
  refine Ex.p rfl ?_
  refine Ex.p rfl ?_
  refine Ex.pf 0 0 rfl rfl rfl rfl rfl rfl ?_
  refine Ex.p rfl ?_
  refine Ex.p rfl ?_
  refine Ex.pf 0 0 rfl rfl rfl rfl rfl rfl ?_
  refine Ex.vret (S' := [(a, .inr (9, [.int dm, .int (b32 pl), .ref rh, .ref ro, .long 0, .int 1])) :: (Ch ++ C1)]) rfl rfl (Nat.zero_le _) (Nat.zero_le _) ?_ ⟨rfl, _, rfl, rh, ro, Ch, C1, rfl, hh, hC1⟩
  simp [b32]
theorem ct_To_planNext {a ch co : Nat} {dm x w : Int32} {pl pn : Bool} {hs os : List Int32} {len : Int64} {C : va_W} (h : IsTool D a dm pl hs os len pn ch co C) (hlt : os.length < 60) (hr : rmOk R 3 ((rcap co os.length - co) / 8) (2 * (rcap co os.length - co))) : Ct l mTo_planNext D R [.ref a, .int x, .int w] [C] (fun v S => v = none ∧ ∃ C', S = [C'] ∧ IsTool D a dm pl hs (os ++ [x]) (len + w.toInt64) pn ch (rcap co os.length) C') := by
  obtain ⟨rh, ro, Ch, Co, rfl, hh, ho⟩ := h
  obtain ⟨r1, r2, r3, r4⟩ := hr
  refine Ct.of rfl (by decide) tkTo_planNext (Nat.le_of_ble_eq_true rfl) (fun A => ?_)
  refine Ex.seg (S' := [[(a, .inr (9, [.int dm, .int (b32 pl), .ref rh, .ref ro, .long len, .int (b32 pn)]))], Ch, Co]) (by simp) ?_
  repeat (first | refine Ex.p rfl ?_ | refine Ex.ldc rfl ?_ | refine Ex.ldc2 rfl ?_ | refine Ex.gf 0 0 rfl rfl rfl ?_)
  obtain ⟨arr, f, eC, -⟩ := id ho
  refine Ex.cv (Mc := mRo_push) (Rc := rm 2 ((rcap co os.length - co) / 8) (2 * (rcap co os.length - co))) (As := [.int x]) (rest := []) (Sr := [[(a, .inr (9, [.int dm, .int (b32 pl), .ref rh, .ref ro, .long len, .int (b32 pn)]))], Ch]) (ic := 2) (jc := 0) (ci := 5) [2] [0, 1] (ct_push ho hlt (rm_ok _ _ _)) rfl lk_9_31 lcRo_push rfl rfl rfl rfl rfl (by decide) rfl (by rw [eC]; rfl) rfl (by decide) ⟨r1, by show 8 + (2 + 11) + 80 ≤ R.locals; omega⟩ (Nat.zero_le _) (by dsimp only [rm]; omega) (by dsimp only [rm]; omega) ?_
  rintro v S1 ⟨rfl, C1, rfl, hC1⟩
  refine Ex.p rfl ?_
  refine Ex.p rfl ?_
  refine Ex.p rfl ?_
  repeat (first | refine Ex.p rfl ?_ | refine Ex.ldc rfl ?_ | refine Ex.ldc2 rfl ?_ | refine Ex.gf 0 0 rfl rfl rfl ?_)
  refine Ex.pf 0 0 rfl rfl rfl rfl rfl rfl ?_
  refine Ex.vret (S' := [(a, .inr (9, [.int dm, .int (b32 pl), .ref rh, .ref ro, .long (len + w.toInt64), .int (b32 pn)])) :: (Ch ++ C1)]) rfl rfl (by dsimp only [rm]; omega) (by dsimp only [rm]; omega) ?_ ⟨rfl, _, rfl, rh, ro, Ch, C1, rfl, hh, hC1⟩
  simp
end TO

/-! the law: its loop, from its entry -/
theorem stp {k k' u v w : Nat} (h : k ≤ u + v * w) (h' : k' ≤ k + v) : k' ≤ u + v * (w + 1) := by
  rw [Nat.mul_add, Nat.mul_one]
  omega
theorem law_loop {X : xX} {l : Launch} {D : xD} {A : Nat → Prop} {a m o : Nat} (hfl : l.flags = pinnedFlags ++ [noTraceFlag]) (hL : X.2.1 ≤ 5120) : ∀ (fu cc : Nat) (z : SD) (th : Int32) (SA SM : List va_W) (f : Nat → Int64) (k n : Nat), X.2.1 - 10 * cc < fu → 10 * cc ≤ X.2.1 → IsDa D a z SA → IsMo D m z th SM → ZN z → k ≤ 42 + 1000 * cc → n ≤ 15700 + 14000 * cc → ∀ lv9 : List (Nat × Value), (∀ q ∈ [(4, Value.int (nI (10 * cc))), (3, .ref o), (2, .ref m), (1, .ref a), (0, .ref X.1)], q ∈ lv9) → Ey X l (mL tbL_head) D room_1 A (xQ D A lawQ) 601024 7293034 23 lv9 [] [SA.flatten, SM.flatten, oA D o f] k n := by
  intro fu
  induction fu with
  | zero => intro cc z th SA SM f k n h; omega
  | succ fu ih =>
    intro cc z th SA SM f k n hfu hcc hA hM hz hk hn lv9 hlv
    refine Ey.lc hlv ?_
    refine Ey.p rfl ?_
    refine Ey.p rfl ?_
    refine Ey.sle rfl ?_
    refine Ey.p rfl ?_
    refine Ey.p rfl ?_
    have e10 : (nI X.2.1 - nI 10).toInt = (X.2.1 : Int) - 10 := by
      rw [Int32.toInt_sub, nI_toInt (by omega), nI_toInt (by omega)]
      exact Int.bmod_eq_of_le (by omega) (by omega)
    refine Ey.br rfl (fun c => ?_) (fun c => ?_)
    · refine Ey.p rfl ?_
      exact Ey.zret rfl rfl (Or.inr rfl) (by omega) (by omega) rfl rfl
    · have c : ¬ (nI X.2.1 - nI 10) < nI (10 * cc) := c
      rw [Int32.lt_iff_toInt_lt, e10, nI_toInt (by omega)] at c
      have hi : 10 * cc + 10 ≤ X.2.1 := by omega
      have tail : LTail X l D A a m o (10 * cc) k n := by
        intro z' th' SA' SM' f' k' n' hA' hM' hz' hk' hn' lv8 hlv8
        refine Ey.tab (tb' := tbL_head) tkL_head ?_
        refine Ey.lc hlv8 ?_
        refine Ey.p rfl ?_
        refine Ey.p rfl ?_
        rw [show nI (10 * cc) + Int32.ofInt 10 = nI (10 * (cc + 1)) from (nI_add (10 * cc) 10).trans (by rw [Nat.mul_add])]
        have hk2 : k' ≤ 42 + 1000 * (cc + 1) := stp hk hk'
        have hn2 : n' ≤ 15700 + 14000 * (cc + 1) := stp hn hn'
        refine ih (cc + 1) z' th' SA' SM' f' k' n' (by omega) (by omega) hA' hM' hz' hk2 hn2 _ (fun q h => ?_)
        simp only [List.mem_cons, List.not_mem_nil, or_false] at h
        rcases h with rfl | rfl | rfl | rfl | rfl <;> simp [xs1, xs2, lv_args, Value.category]
      refine Ey.p rfl ?_
      refine Ey.p rfl ?_
      refine Ey.sld rfl (nI_toInt (by omega)) (by omega) ?_
      refine Ey.p rfl ?_
      refine Ey.p rfl ?_
      generalize X.2.2 (10 * cc) &&& (Int8.ofInt 31).toInt32 = x9
      by_cases hx : x9.toInt < 0 ∨ 18 < x9.toInt
      · refine Ey.swO dkL_sw hx (t := 1348) rfl ?_
        refine Ey.tab (tb' := []) (fun q h => absurd h List.not_mem_nil) (tail z th SA SM f k n hA hM hz (by omega) (by omega) _ (fun q h => h))
      · have h1 : ¬ x9.toInt < 0 := fun q => hx (Or.inl q)
        have h2 : ¬ 18 < x9.toInt := fun q => hx (Or.inr q)
        obtain ⟨j, hj⟩ : ∃ j : Nat, x9.toInt = j := ⟨x9.toInt.toNat, by omega⟩
        have hj18 : j ≤ 18 := by omega
        rcases (show j = 0 ∨ j = 1 ∨ j = 2 ∨ j = 3 ∨ j = 4 ∨ j = 5 ∨ j = 6 ∨ j = 7 ∨ j = 8 ∨ j = 9 ∨ j = 10 ∨ j = 11 ∨ j = 12 ∨ j = 13 ∨ j = 14 ∨ j = 15 ∨ j = 16 ∨ j = 17 ∨ j = 18 by omega) with rfl | rfl | rfl | rfl | rfl | rfl | rfl | rfl | rfl | rfl | rfl | rfl | rfl | rfl | rfl | rfl | rfl | rfl | rfl
        · exact Ey.swI dkL_sw h1 h2 (off := 92) (t := 132) (by rw [hj]; rfl) rfl (Ey.tab (tb' := tbL_tool) tkL_tool (law_tool hfl hA hM hz hi hL (by omega) (by omega) tail))
        · exact Ey.swI dkL_sw h1 h2 (off := 208) (t := 248) (by rw [hj]; rfl) rfl (Ey.tab (tb' := tbL_hole) tkL_hole (law_hole hfl hA hM hz hi hL (by omega) (by omega) tail))
        · exact Ey.swI dkL_sw h1 h2 (off := 380) (t := 420) (by rw [hj]; rfl) rfl (Ey.tab (tb' := tbL_slot) tkL_slot (law_slot hfl hA hM hz hi hL (by omega) (by omega) tail))
        · exact Ey.swI dkL_sw h1 h2 (off := 620) (t := 660) (by rw [hj]; rfl) rfl (Ey.tab (tb' := tbL_write) tkL_write (law_write hfl hA hM hz hi hL (by omega) (by omega) tail))
        · exact Ey.swI dkL_sw h1 h2 (off := 688) (t := 728) (by rw [hj]; rfl) rfl (Ey.tab (tb' := tbL_unit) tkL_unit (law_unit hfl hA hM hz hi hL (by omega) (by omega) tail))
        · exact Ey.swI dkL_sw h1 h2 (off := 713) (t := 753) (by rw [hj]; rfl) rfl (Ey.tab (tb' := tbL_read) tkL_read (law_read hfl hA hM hz hi hL (by omega) (by omega) tail))
        · exact Ey.swI dkL_sw h1 h2 (off := 726) (t := 766) (by rw [hj]; rfl) rfl (Ey.tab (tb' := tbL_at) tkL_at (law_at hfl hA hM hz hi hL (by omega) (by omega) tail))
        · exact Ey.swI dkL_sw h1 h2 (off := 793) (t := 833) (by rw [hj]; rfl) rfl (Ey.tab (tb' := tbL_order) tkL_order (law_order hfl hA hM hz hi hL (by omega) (by omega) tail))
        · exact Ey.swI dkL_sw h1 h2 (off := 861) (t := 901) (by rw [hj]; rfl) rfl (Ey.tab (tb' := tbL_travel) tkL_travel (law_travel hfl hA hM hz hi hL (by omega) (by omega) tail))
        · exact Ey.swI dkL_sw h1 h2 (off := 916) (t := 956) (by rw [hj]; rfl) rfl (Ey.tab (tb' := tbL_proved) tkL_proved (law_proved hfl hA hM hz hi hL (by omega) (by omega) tail))
        · exact Ey.swI dkL_sw h1 h2 (off := 979) (t := 1019) (by rw [hj]; rfl) rfl (Ey.tab (tb' := tbL_file) tkL_file (law_file hfl hA hM hz hi hL (by omega) (by omega) tail))
        · exact Ey.swI dkL_sw h1 h2 (off := 1035) (t := 1075) (by rw [hj]; rfl) rfl (Ey.tab (tb' := tbL_byteOf) tkL_byteOf (law_byteOf hfl hA hM hz hi hL (by omega) (by omega) tail))
        · exact Ey.swI dkL_sw h1 h2 (off := 1110) (t := 1150) (by rw [hj]; rfl) rfl (Ey.tab (tb' := tbL_archive) tkL_archive (law_archive hfl hA hM hz hi hL (by omega) (by omega) tail))
        · exact Ey.swI dkL_sw h1 h2 (off := 1166) (t := 1206) (by rw [hj]; rfl) rfl (Ey.tab (tb' := tbL_feed) tkL_feed (law_feed hfl hA hM hz hi hL (by omega) (by omega) tail))
        · exact Ey.swI dkL_sw h1 h2 (off := 1191) (t := 1231) (by rw [hj]; rfl) rfl (Ey.tab (tb' := tbL_open) tkL_open (law_open hfl hA hM hz hi hL (by omega) (by omega) tail))
        · exact Ey.swI dkL_sw h1 h2 (off := 1204) (t := 1244) (by rw [hj]; rfl) rfl (Ey.tab (tb' := tbL_agrees) tkL_agrees (law_agrees hfl hA hM hz hi hL (by omega) (by omega) tail))
        · exact Ey.swI dkL_sw h1 h2 (off := 1217) (t := 1257) (by rw [hj]; rfl) rfl (Ey.tab (tb' := tbL_told) tkL_told (law_told hfl hA hM hz hi hL (by omega) (by omega) tail))
        · exact Ey.swI dkL_sw h1 h2 (off := 1242) (t := 1282) (by rw [hj]; rfl) rfl (Ey.tab (tb' := tbL_sum) tkL_sum (law_sum hfl hA hM hz hi hL (by omega) (by omega) tail))
        · exact Ey.swI dkL_sw h1 h2 (off := 1297) (t := 1337) (by rw [hj]; rfl) rfl (Ey.tab (tb' := tbL_clear) tkL_clear (law_clear hfl hA hM hz hi hL (by omega) (by omega) tail))
theorem law_start {X : xX} {l : Launch} {D : xD} {A : Nat → Prop} (hfl : l.flags = pinnedFlags ++ [noTraceFlag]) (hL : X.2.1 ≤ 5120) : Ey X l (mL tbL_head) D room_1 A (xQ D A lawQ) 601024 7293034 0 [(0, .ref X.1)] [] [] 0 0 := by
  refine Ey.new (ci := 0) (N := 6) rfl rfl (by decide) (by decide) (fun a => ?_)
  refine Ey.p rfl ?_
  refine Ey.ci (Mc := mDa_init) (Rc := rm 3 18 2376) (As := []) (rest := [.ref a]) (Sc := [[(a, .inr (0, gdf 0))]]) (Sr := []) [0] [] (ct_Da_init (rm_ok _ _ _)) rfl lk_13_58 lcDa_init rfl rfl rfl rfl rfl (by decide) ⟨Nat.le_of_ble_eq_true rfl, Nat.le_of_ble_eq_true rfl⟩ (Nat.le_of_ble_eq_true rfl) (by decide) (by decide) (fun v SA hq => ?_)
  obtain ⟨rfl, hA⟩ := hq
  refine Ey.seg (S' := [SA.flatten]) (by simp) ?_
  refine Ey.p rfl ?_
  refine Ey.new (ci := 10) (N := 39) rfl rfl (by decide) (by decide) (fun m => ?_)
  refine Ey.p rfl ?_
  refine Ey.ci (Mc := mMo_init) (Rc := rm 1 21 13188) (As := []) (rest := [.ref m]) (Sc := [[(m, .inr (10, gdf 10))]]) (Sr := [SA.flatten]) [1] [0] (ct_Mo_init (rm_ok _ _ _)) rfl lk_13_61 lcMo_init rfl rfl rfl rfl rfl (by decide) ⟨Nat.le_of_ble_eq_true rfl, Nat.le_of_ble_eq_true rfl⟩ (Nat.le_of_ble_eq_true rfl) (by decide) (by decide) (fun v SM hq => ?_)
  obtain ⟨rfl, hM⟩ := hq
  refine Ey.seg (S' := [SA.flatten, SM.flatten]) (by simp) ?_
  refine Ey.p rfl ?_
  refine Ey.p rfl ?_
  refine Ey.newl (N := 1) rfl rfl (by decide) (by decide) (by decide) (fun o => ?_)
  refine Ey.p rfl ?_
  refine Ey.p rfl ?_
  refine Ey.p rfl ?_
  refine law_loop (a := a) (m := m) (o := o) hfl hL (X.2.1 + 1) 0 _ _ SA SM _ _ _ (by omega) (by omega) hA hM ZN.nil (by decide) (by decide) _ (fun q h => ?_)
  simp only [List.mem_cons, List.not_mem_nil, or_false] at h
  rcases h with rfl | rfl | rfl | rfl | rfl <;> first | (simp [xs1, xs2, lv_args, Value.category, b32, nI]; done) | (simp [xs1, xs2, lv_args, Value.category, b32, nI]; decide) | (simp [xs1, xs2, lv_args, Value.category, b32, nI]; exact Or.inr (by decide)) | (simp [xs1, xs2, lv_args, Value.category, b32, nI]; exact Or.inl (by decide))

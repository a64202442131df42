/-! the law: cases -/
theorem law_hole {X : xX} {l : Launch} {D : xD} {A : Nat → Prop} {a m o i : Nat} {z : SD} {th : Int32} {SA SM : List va_W} {f0 : Nat → Int64} {k n : Nat} (hfl : l.flags = pinnedFlags ++ [noTraceFlag]) (hA : IsDa D a z SA) (hM : IsMo D m z th SM) (hz : ZN z) (hi : i + 10 ≤ X.2.1) (hL : X.2.1 ≤ 5120) (hk : k + 1000 ≤ 601024) (hn : n + 14000 ≤ 7293034) (tail : LTail X l D A a m o i k n) : Ey X l (mL tbL_hole) D room_1 A (xQ D A lawQ) 601024 7293034 248 [(4, Value.int (nI i)), (3, .ref o), (2, .ref m), (1, .ref a), (0, .ref X.1)] [] [SA.flatten, SM.flatten, oA D o f0] k n := by
  refine Ey.p rfl ?_
  refine Ey.p rfl ?_
  refine Ey.p rfl ?_
  refine Ey.p rfl ?_
  refine Ey.p rfl ?_
  refine Ey.sld rfl (six 1 (by omega)) (by omega) ?_
  refine Ey.p rfl ?_
  refine Ey.p rfl ?_
  refine Ey.p rfl ?_
  refine Ey.p rfl ?_
  refine Ey.sld rfl (six 2 (by omega)) (by omega) ?_
  refine Ey.p rfl ?_
  refine Ey.p rfl ?_
  refine Ey.p rfl ?_
  refine Ey.p rfl ?_
  refine Ey.p rfl ?_
  refine Ey.p rfl ?_
  refine Ey.p rfl ?_
  refine Ey.sld rfl (six 3 (by omega)) (by omega) ?_
  refine Ey.p rfl ?_
  refine Ey.ldc2 rfl ?_
  refine Ey.p rfl ?_
  refine Ey.p rfl ?_
  refine Ey.p rfl ?_
  refine Ey.p rfl ?_
  refine Ey.p rfl ?_
  refine Ey.p rfl ?_
  refine Ey.sld rfl (six 4 (by omega)) (by omega) ?_
  refine Ey.p rfl ?_
  refine Ey.p rfl ?_
  refine Ey.p rfl ?_
  refine Ey.p rfl ?_
  refine Ey.p rfl ?_
  refine Ey.p rfl ?_
  refine Ey.p rfl ?_
  refine Ey.sld rfl (six 5 (by omega)) (by omega) ?_
  refine Ey.p rfl ?_
  refine Ey.ldc2 rfl ?_
  refine Ey.p rfl ?_
  refine Ey.p rfl ?_
  refine Ey.p rfl ?_
  refine Ey.p rfl ?_
  refine Ey.p rfl ?_
  refine Ey.p rfl ?_
  refine Ey.sld rfl (six 6 (by omega)) (by omega) ?_
  refine Ey.p rfl ?_
  refine Ey.p rfl ?_
  refine Ey.p rfl ?_
  refine Ey.p rfl ?_
  refine Ey.sld rfl (six 7 (by omega)) (by omega) ?_
  refine Ey.p rfl ?_
  refine Ey.xw (Rc := rm 8 9 133) (ct_La_hole hfl hA (rm_ok _ _ _)) rfl wkLa_hole lwLa_hole rfl (show (parseMethodDescriptor mLa_hole.2.1.desc).map (fun d => d.parameters.length) = some 7 by decide +kernel) rfl ⟨Nat.le_of_ble_eq_true rfl, Nat.le_of_ble_eq_true rfl⟩ (Nat.le_of_ble_eq_true rfl) (by dsimp only [rm]; omega) (by dsimp only [rm]; omega) (fun v S1 f1 hq => ?_)
  obtain ⟨kv, w, rfl, hA1, hf1, hQ⟩ := ar_iq hq (fun y hy => aHole_v hy)
  refine Ey.p rfl ?_
  refine Ey.p rfl ?_
  refine Ey.p rfl ?_
  refine Ey.p rfl ?_
  refine Ey.p rfl ?_
  refine Ey.p rfl ?_
  refine Ey.sld rfl (six 1 (by omega)) (by omega) ?_
  refine Ey.p rfl ?_
  refine Ey.p rfl ?_
  refine Ey.p rfl ?_
  refine Ey.p rfl ?_
  refine Ey.sld rfl (six 2 (by omega)) (by omega) ?_
  refine Ey.p rfl ?_
  refine Ey.p rfl ?_
  refine Ey.p rfl ?_
  refine Ey.p rfl ?_
  refine Ey.p rfl ?_
  refine Ey.p rfl ?_
  refine Ey.p rfl ?_
  refine Ey.sld rfl (six 3 (by omega)) (by omega) ?_
  refine Ey.p rfl ?_
  refine Ey.ldc2 rfl ?_
  refine Ey.p rfl ?_
  refine Ey.p rfl ?_
  refine Ey.p rfl ?_
  refine Ey.p rfl ?_
  refine Ey.p rfl ?_
  refine Ey.p rfl ?_
  refine Ey.sld rfl (six 4 (by omega)) (by omega) ?_
  refine Ey.p rfl ?_
  refine Ey.p rfl ?_
  refine Ey.p rfl ?_
  refine Ey.p rfl ?_
  refine Ey.p rfl ?_
  refine Ey.p rfl ?_
  refine Ey.p rfl ?_
  refine Ey.sld rfl (six 5 (by omega)) (by omega) ?_
  refine Ey.p rfl ?_
  refine Ey.ldc2 rfl ?_
  refine Ey.p rfl ?_
  refine Ey.p rfl ?_
  refine Ey.p rfl ?_
  refine Ey.p rfl ?_
  refine Ey.p rfl ?_
  refine Ey.p rfl ?_
  refine Ey.sld rfl (six 6 (by omega)) (by omega) ?_
  refine Ey.p rfl ?_
  refine Ey.p rfl ?_
  refine Ey.p rfl ?_
  refine Ey.p rfl ?_
  refine Ey.sld rfl (six 7 (by omega)) (by omega) ?_
  refine Ey.mv (Rc := rm 1 0 0) (mo_at hM) (ct_Mo_hole hM (rm_ok _ _ _)) rfl lk_13_77 lcMo_hole rfl rfl ⟨Nat.le_of_ble_eq_true rfl, Nat.le_of_ble_eq_true rfl⟩ (Nat.le_of_ble_eq_true rfl) (by dsimp only [rm]; omega) (by dsimp only [rm]; omega) (fun v S2 hq2 => ?_)
  obtain ⟨rfl, hM1⟩ := hQ hq2
  refine Ey.p rfl ?_
  refine Ey.p rfl ?_
  refine Ey.mv (Rc := rm 0 0 0) (mo_at hM1) (ct_Mo_thr hM1) rfl lk_13_70 lcMo_thrown rfl rfl ⟨Nat.le_of_ble_eq_true rfl, Nat.le_of_ble_eq_true rfl⟩ (Nat.le_of_ble_eq_true rfl) (by dsimp only [rm]; omega) (by dsimp only [rm]; omega) (fun v S3 hq3 => ?_)
  obtain ⟨rfl, hM2⟩ := hq3
  refine Ey.p rfl ?_
  refine Ey.br rfl (fun _ => ?_) (fun c => absurd rfl c)
  refine Ey.p rfl ?_
  refine Ey.br rfl (fun c => ?_) (fun c => ?_)
  · refine Ey.p rfl ?_
    refine Ey.tab (tb' := []) (fun q h => absurd h List.not_mem_nil) (tail _ _ _ _ _ _ _ hA1 hM2 hz.hole (by dsimp only [rm]; omega) (by dsimp only [rm]; omega) _ (fun q h => ?_))
    simp only [List.mem_cons, List.not_mem_nil, or_false] at h
    rcases h with rfl | rfl | rfl | rfl | rfl <;> simp [xs1, xs2, lv_args, Value.category]
  · have c : ¬ ¬ kv = 0 := c
    have c := Decidable.not_not.mp c
    refine Ey.p rfl ?_
    refine Ey.p rfl ?_
    refine Ey.lal 2 0 0 rfl rfl rfl rfl (by decide) ?_
    rw [hf1 c]
    refine Ey.p rfl ?_
    refine Ey.p rfl ?_
    refine Ey.p rfl ?_
    refine Ey.br rfl (fun _ => ?_) (fun c2 => absurd (lg_self _) c2)
    refine Ey.p rfl ?_
    refine Ey.tab (tb' := []) (fun q h => absurd h List.not_mem_nil) (tail _ _ _ _ _ _ _ hA1 hM2 hz.hole (by dsimp only [rm]; omega) (by dsimp only [rm]; omega) _ (fun q h => ?_))
    simp only [List.mem_cons, List.not_mem_nil, or_false] at h
    rcases h with rfl | rfl | rfl | rfl | rfl <;> simp [xs1, xs2, lv_args, Value.category]
theorem law_slot {X : xX} {l : Launch} {D : xD} {A : Nat → Prop} {a m o i : Nat} {z : SD} {th : Int32} {SA SM : List va_W} {f0 : Nat → Int64} {k n : Nat} (hfl : l.flags = pinnedFlags ++ [noTraceFlag]) (hA : IsDa D a z SA) (hM : IsMo D m z th SM) (hz : ZN z) (hi : i + 10 ≤ X.2.1) (hL : X.2.1 ≤ 5120) (hk : k + 1000 ≤ 601024) (hn : n + 14000 ≤ 7293034) (tail : LTail X l D A a m o i k n) : Ey X l (mL tbL_slot) D room_1 A (xQ D A lawQ) 601024 7293034 420 [(4, Value.int (nI i)), (3, .ref o), (2, .ref m), (1, .ref a), (0, .ref X.1)] [] [SA.flatten, SM.flatten, oA D o f0] k n := by
  refine Ey.p rfl ?_
  refine Ey.p rfl ?_
  refine Ey.p rfl ?_
  refine Ey.p rfl ?_
  refine Ey.p rfl ?_
  refine Ey.sld rfl (six 1 (by omega)) (by omega) ?_
  refine Ey.p rfl ?_
  refine Ey.p rfl ?_
  refine Ey.p rfl ?_
  refine Ey.p rfl ?_
  refine Ey.sld rfl (six 2 (by omega)) (by omega) ?_
  refine Ey.p rfl ?_
  refine Ey.p rfl ?_
  refine Ey.p rfl ?_
  refine Ey.p rfl ?_
  refine Ey.p rfl ?_
  refine Ey.p rfl ?_
  refine Ey.p rfl ?_
  refine Ey.sld rfl (six 3 (by omega)) (by omega) ?_
  refine Ey.p rfl ?_
  refine Ey.ldc2 rfl ?_
  refine Ey.p rfl ?_
  refine Ey.p rfl ?_
  refine Ey.p rfl ?_
  refine Ey.p rfl ?_
  refine Ey.p rfl ?_
  refine Ey.p rfl ?_
  refine Ey.sld rfl (six 4 (by omega)) (by omega) ?_
  refine Ey.p rfl ?_
  refine Ey.p rfl ?_
  refine Ey.p rfl ?_
  refine Ey.p rfl ?_
  refine Ey.p rfl ?_
  refine Ey.p rfl ?_
  refine Ey.p rfl ?_
  refine Ey.sld rfl (six 5 (by omega)) (by omega) ?_
  refine Ey.p rfl ?_
  refine Ey.ldc2 rfl ?_
  refine Ey.p rfl ?_
  refine Ey.p rfl ?_
  refine Ey.p rfl ?_
  refine Ey.p rfl ?_
  refine Ey.p rfl ?_
  refine Ey.p rfl ?_
  refine Ey.sld rfl (six 6 (by omega)) (by omega) ?_
  refine Ey.p rfl ?_
  refine Ey.p rfl ?_
  refine Ey.p rfl ?_
  refine Ey.p rfl ?_
  refine Ey.p rfl ?_
  refine Ey.p rfl ?_
  refine Ey.p rfl ?_
  refine Ey.sld rfl (six 7 (by omega)) (by omega) ?_
  refine Ey.p rfl ?_
  refine Ey.ldc2 rfl ?_
  refine Ey.p rfl ?_
  refine Ey.p rfl ?_
  refine Ey.p rfl ?_
  refine Ey.p rfl ?_
  refine Ey.p rfl ?_
  refine Ey.p rfl ?_
  refine Ey.sld rfl (six 8 (by omega)) (by omega) ?_
  refine Ey.p rfl ?_
  refine Ey.p rfl ?_
  refine Ey.p rfl ?_
  refine Ey.p rfl ?_
  refine Ey.p rfl ?_
  refine Ey.p rfl ?_
  refine Ey.p rfl ?_
  refine Ey.sld rfl (six 9 (by omega)) (by omega) ?_
  refine Ey.p rfl ?_
  refine Ey.ldc2 rfl ?_
  refine Ey.p rfl ?_
  refine Ey.p rfl ?_
  refine Ey.p rfl ?_
  refine Ey.xw (Rc := rm 8 9 133) (ct_La_slot hfl hA (rm_ok _ _ _)) rfl wkLa_slot lwLa_slot rfl (show (parseMethodDescriptor mLa_slot.2.1.desc).map (fun d => d.parameters.length) = some 7 by decide +kernel) rfl ⟨Nat.le_of_ble_eq_true rfl, Nat.le_of_ble_eq_true rfl⟩ (Nat.le_of_ble_eq_true rfl) (by dsimp only [rm]; omega) (by dsimp only [rm]; omega) (fun v S1 f1 hq => ?_)
  obtain ⟨kv, w, rfl, hA1, hf1, hQ⟩ := ar_iq hq (fun y hy => aSlot_v hy)
  refine Ey.p rfl ?_
  refine Ey.p rfl ?_
  refine Ey.p rfl ?_
  refine Ey.p rfl ?_
  refine Ey.p rfl ?_
  refine Ey.p rfl ?_
  refine Ey.sld rfl (six 1 (by omega)) (by omega) ?_
  refine Ey.p rfl ?_
  refine Ey.p rfl ?_
  refine Ey.p rfl ?_
  refine Ey.p rfl ?_
  refine Ey.sld rfl (six 2 (by omega)) (by omega) ?_
  refine Ey.p rfl ?_
  refine Ey.p rfl ?_
  refine Ey.p rfl ?_
  refine Ey.p rfl ?_
  refine Ey.p rfl ?_
  refine Ey.p rfl ?_
  refine Ey.p rfl ?_
  refine Ey.sld rfl (six 3 (by omega)) (by omega) ?_
  refine Ey.p rfl ?_
  refine Ey.ldc2 rfl ?_
  refine Ey.p rfl ?_
  refine Ey.p rfl ?_
  refine Ey.p rfl ?_
  refine Ey.p rfl ?_
  refine Ey.p rfl ?_
  refine Ey.p rfl ?_
  refine Ey.sld rfl (six 4 (by omega)) (by omega) ?_
  refine Ey.p rfl ?_
  refine Ey.p rfl ?_
  refine Ey.p rfl ?_
  refine Ey.p rfl ?_
  refine Ey.p rfl ?_
  refine Ey.p rfl ?_
  refine Ey.p rfl ?_
  refine Ey.sld rfl (six 5 (by omega)) (by omega) ?_
  refine Ey.p rfl ?_
  refine Ey.ldc2 rfl ?_
  refine Ey.p rfl ?_
  refine Ey.p rfl ?_
  refine Ey.p rfl ?_
  refine Ey.p rfl ?_
  refine Ey.p rfl ?_
  refine Ey.p rfl ?_
  refine Ey.sld rfl (six 6 (by omega)) (by omega) ?_
  refine Ey.p rfl ?_
  refine Ey.p rfl ?_
  refine Ey.p rfl ?_
  refine Ey.p rfl ?_
  refine Ey.p rfl ?_
  refine Ey.p rfl ?_
  refine Ey.p rfl ?_
  refine Ey.sld rfl (six 7 (by omega)) (by omega) ?_
  refine Ey.p rfl ?_
  refine Ey.ldc2 rfl ?_
  refine Ey.p rfl ?_
  refine Ey.p rfl ?_
  refine Ey.p rfl ?_
  refine Ey.p rfl ?_
  refine Ey.p rfl ?_
  refine Ey.p rfl ?_
  refine Ey.sld rfl (six 8 (by omega)) (by omega) ?_
  refine Ey.p rfl ?_
  refine Ey.p rfl ?_
  refine Ey.p rfl ?_
  refine Ey.p rfl ?_
  refine Ey.p rfl ?_
  refine Ey.p rfl ?_
  refine Ey.p rfl ?_
  refine Ey.sld rfl (six 9 (by omega)) (by omega) ?_
  refine Ey.p rfl ?_
  refine Ey.ldc2 rfl ?_
  refine Ey.p rfl ?_
  refine Ey.p rfl ?_
  refine Ey.mv (Rc := rm 1 0 0) (mo_at hM) (ct_Mo_slot hM (rm_ok _ _ _)) rfl lk_13_81 lcMo_slot rfl rfl ⟨Nat.le_of_ble_eq_true rfl, Nat.le_of_ble_eq_true rfl⟩ (Nat.le_of_ble_eq_true rfl) (by dsimp only [rm]; omega) (by dsimp only [rm]; omega) (fun v S2 hq2 => ?_)
  obtain ⟨rfl, hM1⟩ := hQ hq2
  refine Ey.p rfl ?_
  refine Ey.p rfl ?_
  refine Ey.mv (Rc := rm 0 0 0) (mo_at hM1) (ct_Mo_thr hM1) rfl lk_13_70 lcMo_thrown rfl rfl ⟨Nat.le_of_ble_eq_true rfl, Nat.le_of_ble_eq_true rfl⟩ (Nat.le_of_ble_eq_true rfl) (by dsimp only [rm]; omega) (by dsimp only [rm]; omega) (fun v S3 hq3 => ?_)
  obtain ⟨rfl, hM2⟩ := hq3
  refine Ey.p rfl ?_
  refine Ey.br rfl (fun _ => ?_) (fun c => absurd rfl c)
  refine Ey.p rfl ?_
  refine Ey.br rfl (fun c => ?_) (fun c => ?_)
  · refine Ey.p rfl ?_
    refine Ey.tab (tb' := []) (fun q h => absurd h List.not_mem_nil) (tail _ _ _ _ _ _ _ hA1 hM2 hz.slot (by dsimp only [rm]; omega) (by dsimp only [rm]; omega) _ (fun q h => ?_))
    simp only [List.mem_cons, List.not_mem_nil, or_false] at h
    rcases h with rfl | rfl | rfl | rfl | rfl <;> simp [xs1, xs2, lv_args, Value.category]
  · have c : ¬ ¬ kv = 0 := c
    have c := Decidable.not_not.mp c
    refine Ey.p rfl ?_
    refine Ey.p rfl ?_
    refine Ey.lal 2 0 0 rfl rfl rfl rfl (by decide) ?_
    rw [hf1 c]
    refine Ey.p rfl ?_
    refine Ey.p rfl ?_
    refine Ey.p rfl ?_
    refine Ey.br rfl (fun _ => ?_) (fun c2 => absurd (lg_self _) c2)
    refine Ey.p rfl ?_
    refine Ey.tab (tb' := []) (fun q h => absurd h List.not_mem_nil) (tail _ _ _ _ _ _ _ hA1 hM2 hz.slot (by dsimp only [rm]; omega) (by dsimp only [rm]; omega) _ (fun q h => ?_))
    simp only [List.mem_cons, List.not_mem_nil, or_false] at h
    rcases h with rfl | rfl | rfl | rfl | rfl <;> simp [xs1, xs2, lv_args, Value.category]

/-! the law: cases -/
theorem law_write {X : xX} {l : Launch} {D : xD} {A : Nat → Prop} {a m o i : Nat} {z : SD} {th : Int32} {SA SM : List va_W} {f0 : Nat → Int64} {k n : Nat} (hfl : l.flags = pinnedFlags ++ [noTraceFlag]) (hA : IsDa D a z SA) (hM : IsMo D m z th SM) (hz : ZN z) (hi : i + 10 ≤ X.2.1) (hL : X.2.1 ≤ 5120) (hk : k + 1000 ≤ 601024) (hn : n + 14000 ≤ 7293034) (tail : LTail X l D A a m o i k n) : Ey X l (mL tbL_write) D room_1 A (xQ D A lawQ) 601024 7293034 660 [(4, Value.int (nI i)), (3, .ref o), (2, .ref m), (1, .ref a), (0, .ref X.1)] [] [SA.flatten, SM.flatten, oA D o f0] k n := by
  refine Ey.p rfl ?_
  refine Ey.p rfl ?_
  refine Ey.p rfl ?_
  refine Ey.p rfl ?_
  refine Ey.p rfl ?_
  refine Ey.sld rfl (six 1 (by omega)) (by omega) ?_
  refine Ey.p rfl ?_
  refine Ey.p rfl ?_
  refine Ey.p rfl ?_
  refine Ey.p rfl ?_
  refine Ey.sld rfl (six 2 (by omega)) (by omega) ?_
  refine Ey.p rfl ?_
  refine Ey.xw (Rc := rm 9 786 12580) (ct_La_write hfl hA (rm_ok _ _ _)) rfl wkLa_write lwLa_write rfl (show (parseMethodDescriptor mLa_write.2.1.desc).map (fun d => d.parameters.length) = some 4 by decide +kernel) rfl ⟨Nat.le_of_ble_eq_true rfl, Nat.le_of_ble_eq_true rfl⟩ (Nat.le_of_ble_eq_true rfl) (by dsimp only [rm]; omega) (by dsimp only [rm]; omega) (fun v S1 f1 hq => ?_)
  obtain ⟨kv, w, rfl, hA1, hf1, hQ⟩ := ar_iq hq (fun y hy => aWrite_v hy)
  refine Ey.p rfl ?_
  refine Ey.p rfl ?_
  refine Ey.p rfl ?_
  refine Ey.p rfl ?_
  refine Ey.p rfl ?_
  refine Ey.p rfl ?_
  refine Ey.sld rfl (six 1 (by omega)) (by omega) ?_
  refine Ey.p rfl ?_
  refine Ey.p rfl ?_
  refine Ey.p rfl ?_
  refine Ey.p rfl ?_
  refine Ey.sld rfl (six 2 (by omega)) (by omega) ?_
  refine Ey.mv (Rc := rm 6 0 0) (mo_at hM) (ct_Mo_write hM (da_ok hA).1 (da_ok hA).2 (rm_ok _ _ _)) rfl lk_13_85 lcMo_write rfl rfl ⟨Nat.le_of_ble_eq_true rfl, Nat.le_of_ble_eq_true rfl⟩ (Nat.le_of_ble_eq_true rfl) (by dsimp only [rm]; omega) (by dsimp only [rm]; omega) (fun v S2 hq2 => ?_)
  obtain ⟨rfl, hM1⟩ := hQ hq2
  refine Ey.p rfl ?_
  refine Ey.p rfl ?_
  refine Ey.mv (Rc := rm 0 0 0) (mo_at hM1) (ct_Mo_thr hM1) rfl lk_13_70 lcMo_thrown rfl rfl ⟨Nat.le_of_ble_eq_true rfl, Nat.le_of_ble_eq_true rfl⟩ (Nat.le_of_ble_eq_true rfl) (by dsimp only [rm]; omega) (by dsimp only [rm]; omega) (fun v S3 hq3 => ?_)
  obtain ⟨rfl, hM2⟩ := hq3
  refine Ey.p rfl ?_
  refine Ey.br rfl (fun _ => ?_) (fun c => absurd rfl c)
  refine Ey.p rfl ?_
  refine Ey.br rfl (fun c => ?_) (fun c => ?_)
  · refine Ey.p rfl ?_
    refine Ey.tab (tb' := []) (fun q h => absurd h List.not_mem_nil) (tail _ _ _ _ _ _ _ hA1 hM2 hz.write (by dsimp only [rm]; omega) (by dsimp only [rm]; omega) _ (fun q h => ?_))
    simp only [List.mem_cons, List.not_mem_nil, or_false] at h
    rcases h with rfl | rfl | rfl | rfl | rfl <;> simp [xs1, xs2, lv_args, Value.category]
  · have c : ¬ ¬ kv = 0 := c
    have c := Decidable.not_not.mp c
    refine Ey.p rfl ?_
    refine Ey.p rfl ?_
    refine Ey.lal 2 0 0 rfl rfl rfl rfl (by decide) ?_
    rw [hf1 c]
    refine Ey.p rfl ?_
    refine Ey.p rfl ?_
    refine Ey.p rfl ?_
    refine Ey.br rfl (fun _ => ?_) (fun c2 => absurd (lg_self _) c2)
    refine Ey.p rfl ?_
    refine Ey.tab (tb' := []) (fun q h => absurd h List.not_mem_nil) (tail _ _ _ _ _ _ _ hA1 hM2 hz.write (by dsimp only [rm]; omega) (by dsimp only [rm]; omega) _ (fun q h => ?_))
    simp only [List.mem_cons, List.not_mem_nil, or_false] at h
    rcases h with rfl | rfl | rfl | rfl | rfl <;> simp [xs1, xs2, lv_args, Value.category]
theorem law_at {X : xX} {l : Launch} {D : xD} {A : Nat → Prop} {a m o i : Nat} {z : SD} {th : Int32} {SA SM : List va_W} {f0 : Nat → Int64} {k n : Nat} (hfl : l.flags = pinnedFlags ++ [noTraceFlag]) (hA : IsDa D a z SA) (hM : IsMo D m z th SM) (hz : ZN z) (hi : i + 10 ≤ X.2.1) (hL : X.2.1 ≤ 5120) (hk : k + 1000 ≤ 601024) (hn : n + 14000 ≤ 7293034) (tail : LTail X l D A a m o i k n) : Ey X l (mL tbL_at) D room_1 A (xQ D A lawQ) 601024 7293034 766 [(4, Value.int (nI i)), (3, .ref o), (2, .ref m), (1, .ref a), (0, .ref X.1)] [] [SA.flatten, SM.flatten, oA D o f0] k n := by
  refine Ey.p rfl ?_
  refine Ey.p rfl ?_
  refine Ey.p rfl ?_
  refine Ey.p rfl ?_
  refine Ey.p rfl ?_
  refine Ey.sld rfl (six 1 (by omega)) (by omega) ?_
  refine Ey.p rfl ?_
  refine Ey.p rfl ?_
  refine Ey.p rfl ?_
  refine Ey.p rfl ?_
  refine Ey.sld rfl (six 2 (by omega)) (by omega) ?_
  refine Ey.p rfl ?_
  refine Ey.xw (Rc := rm 7 1 6) (ct_La_at hfl hA (rm_ok _ _ _)) rfl wkLa_at lwLa_at rfl (show (parseMethodDescriptor mLa_at.2.1.desc).map (fun d => d.parameters.length) = some 4 by decide +kernel) rfl ⟨Nat.le_of_ble_eq_true rfl, Nat.le_of_ble_eq_true rfl⟩ (Nat.le_of_ble_eq_true rfl) (by dsimp only [rm]; omega) (by dsimp only [rm]; omega) (fun v S1 f1 hq => ?_)
  obtain ⟨kv, w, rfl, hA1, hf1, hQ⟩ := ar_lq hq (fun y hy => aAt_v hy)
  refine Ey.p rfl ?_
  refine Ey.p rfl ?_
  refine Ey.p rfl ?_
  refine Ey.p rfl ?_
  refine Ey.p rfl ?_
  refine Ey.p rfl ?_
  refine Ey.sld rfl (six 1 (by omega)) (by omega) ?_
  refine Ey.p rfl ?_
  refine Ey.p rfl ?_
  refine Ey.p rfl ?_
  refine Ey.p rfl ?_
  refine Ey.sld rfl (six 2 (by omega)) (by omega) ?_
  refine Ey.mv (Rc := rm 0 0 0) (mo_at hM) (ct_Mo_at hM) rfl lk_13_96 lcMo_at rfl rfl ⟨Nat.le_of_ble_eq_true rfl, Nat.le_of_ble_eq_true rfl⟩ (Nat.le_of_ble_eq_true rfl) (by dsimp only [rm]; omega) (by dsimp only [rm]; omega) (fun v S2 hq2 => ?_)
  obtain ⟨rfl, hM1⟩ := hQ hq2
  refine Ey.p rfl ?_
  refine Ey.p rfl ?_
  refine Ey.mv (Rc := rm 0 0 0) (mo_at hM1) (ct_Mo_thr hM1) rfl lk_13_70 lcMo_thrown rfl rfl ⟨Nat.le_of_ble_eq_true rfl, Nat.le_of_ble_eq_true rfl⟩ (Nat.le_of_ble_eq_true rfl) (by dsimp only [rm]; omega) (by dsimp only [rm]; omega) (fun v S3 hq3 => ?_)
  obtain ⟨rfl, hM2⟩ := hq3
  refine Ey.p rfl ?_
  refine Ey.br rfl (fun _ => ?_) (fun c => absurd rfl c)
  refine Ey.p rfl ?_
  refine Ey.br rfl (fun c => ?_) (fun c => ?_)
  · refine Ey.p rfl ?_
    refine Ey.tab (tb' := []) (fun q h => absurd h List.not_mem_nil) (tail _ _ _ _ _ _ _ hA1 hM2 hz.at (by dsimp only [rm]; omega) (by dsimp only [rm]; omega) _ (fun q h => ?_))
    simp only [List.mem_cons, List.not_mem_nil, or_false] at h
    rcases h with rfl | rfl | rfl | rfl | rfl <;> simp [xs1, xs2, lv_args, Value.category]
  · have c : ¬ ¬ kv = 0 := c
    have c := Decidable.not_not.mp c
    refine Ey.p rfl ?_
    refine Ey.p rfl ?_
    refine Ey.lal 2 0 0 rfl rfl rfl rfl (by decide) ?_
    rw [hf1 c]
    refine Ey.p rfl ?_
    refine Ey.p rfl ?_
    refine Ey.br rfl (fun _ => ?_) (fun c2 => absurd (lg_self _) c2)
    refine Ey.p rfl ?_
    refine Ey.tab (tb' := []) (fun q h => absurd h List.not_mem_nil) (tail _ _ _ _ _ _ _ hA1 hM2 hz.at (by dsimp only [rm]; omega) (by dsimp only [rm]; omega) _ (fun q h => ?_))
    simp only [List.mem_cons, List.not_mem_nil, or_false] at h
    rcases h with rfl | rfl | rfl | rfl | rfl <;> simp [xs1, xs2, lv_args, Value.category]
theorem law_order {X : xX} {l : Launch} {D : xD} {A : Nat → Prop} {a m o i : Nat} {z : SD} {th : Int32} {SA SM : List va_W} {f0 : Nat → Int64} {k n : Nat} (hfl : l.flags = pinnedFlags ++ [noTraceFlag]) (hA : IsDa D a z SA) (hM : IsMo D m z th SM) (hz : ZN z) (hi : i + 10 ≤ X.2.1) (hL : X.2.1 ≤ 5120) (hk : k + 1000 ≤ 601024) (hn : n + 14000 ≤ 7293034) (tail : LTail X l D A a m o i k n) : Ey X l (mL tbL_order) D room_1 A (xQ D A lawQ) 601024 7293034 833 [(4, Value.int (nI i)), (3, .ref o), (2, .ref m), (1, .ref a), (0, .ref X.1)] [] [SA.flatten, SM.flatten, oA D o f0] k n := by
  refine Ey.p rfl ?_
  refine Ey.p rfl ?_
  refine Ey.p rfl ?_
  refine Ey.p rfl ?_
  refine Ey.p rfl ?_
  refine Ey.sld rfl (six 1 (by omega)) (by omega) ?_
  refine Ey.p rfl ?_
  refine Ey.p rfl ?_
  refine Ey.p rfl ?_
  refine Ey.p rfl ?_
  refine Ey.sld rfl (six 2 (by omega)) (by omega) ?_
  refine Ey.p rfl ?_
  refine Ey.xw (Rc := rm 8 16 246) (ct_La_order hfl hA (rm_ok _ _ _)) rfl wkLa_order lwLa_order rfl (show (parseMethodDescriptor mLa_order.2.1.desc).map (fun d => d.parameters.length) = some 4 by decide +kernel) rfl ⟨Nat.le_of_ble_eq_true rfl, Nat.le_of_ble_eq_true rfl⟩ (Nat.le_of_ble_eq_true rfl) (by dsimp only [rm]; omega) (by dsimp only [rm]; omega) (fun v S1 f1 hq => ?_)
  obtain ⟨kv, w, rfl, hA1, hf1, hQ⟩ := ar_iq hq (fun y hy => aOrder_v hy)
  refine Ey.p rfl ?_
  refine Ey.p rfl ?_
  refine Ey.p rfl ?_
  refine Ey.p rfl ?_
  refine Ey.p rfl ?_
  refine Ey.p rfl ?_
  refine Ey.sld rfl (six 1 (by omega)) (by omega) ?_
  refine Ey.p rfl ?_
  refine Ey.p rfl ?_
  refine Ey.p rfl ?_
  refine Ey.p rfl ?_
  refine Ey.sld rfl (six 2 (by omega)) (by omega) ?_
  refine Ey.mv (Rc := rm 5 0 0) (mo_at hM) (ct_Mo_order hM (da_ok hA).2 (rm_ok _ _ _)) rfl lk_13_99 lcMo_order rfl rfl ⟨Nat.le_of_ble_eq_true rfl, Nat.le_of_ble_eq_true rfl⟩ (Nat.le_of_ble_eq_true rfl) (by dsimp only [rm]; omega) (by dsimp only [rm]; omega) (fun v S2 hq2 => ?_)
  obtain ⟨rfl, hM1⟩ := hQ hq2
  refine Ey.p rfl ?_
  refine Ey.p rfl ?_
  refine Ey.mv (Rc := rm 0 0 0) (mo_at hM1) (ct_Mo_thr hM1) rfl lk_13_70 lcMo_thrown rfl rfl ⟨Nat.le_of_ble_eq_true rfl, Nat.le_of_ble_eq_true rfl⟩ (Nat.le_of_ble_eq_true rfl) (by dsimp only [rm]; omega) (by dsimp only [rm]; omega) (fun v S3 hq3 => ?_)
  obtain ⟨rfl, hM2⟩ := hq3
  refine Ey.p rfl ?_
  refine Ey.br rfl (fun _ => ?_) (fun c => absurd rfl c)
  refine Ey.p rfl ?_
  refine Ey.br rfl (fun c => ?_) (fun c => ?_)
  · refine Ey.p rfl ?_
    refine Ey.tab (tb' := []) (fun q h => absurd h List.not_mem_nil) (tail _ _ _ _ _ _ _ hA1 hM2 hz.order (by dsimp only [rm]; omega) (by dsimp only [rm]; omega) _ (fun q h => ?_))
    simp only [List.mem_cons, List.not_mem_nil, or_false] at h
    rcases h with rfl | rfl | rfl | rfl | rfl <;> simp [xs1, xs2, lv_args, Value.category]
  · have c : ¬ ¬ kv = 0 := c
    have c := Decidable.not_not.mp c
    refine Ey.p rfl ?_
    refine Ey.p rfl ?_
    refine Ey.lal 2 0 0 rfl rfl rfl rfl (by decide) ?_
    rw [hf1 c]
    refine Ey.p rfl ?_
    refine Ey.p rfl ?_
    refine Ey.p rfl ?_
    refine Ey.br rfl (fun _ => ?_) (fun c2 => absurd (lg_self _) c2)
    refine Ey.p rfl ?_
    refine Ey.tab (tb' := []) (fun q h => absurd h List.not_mem_nil) (tail _ _ _ _ _ _ _ hA1 hM2 hz.order (by dsimp only [rm]; omega) (by dsimp only [rm]; omega) _ (fun q h => ?_))
    simp only [List.mem_cons, List.not_mem_nil, or_false] at h
    rcases h with rfl | rfl | rfl | rfl | rfl <;> simp [xs1, xs2, lv_args, Value.category]
theorem law_travel {X : xX} {l : Launch} {D : xD} {A : Nat → Prop} {a m o i : Nat} {z : SD} {th : Int32} {SA SM : List va_W} {f0 : Nat → Int64} {k n : Nat} (hfl : l.flags = pinnedFlags ++ [noTraceFlag]) (hA : IsDa D a z SA) (hM : IsMo D m z th SM) (hz : ZN z) (hi : i + 10 ≤ X.2.1) (hL : X.2.1 ≤ 5120) (hk : k + 1000 ≤ 601024) (hn : n + 14000 ≤ 7293034) (tail : LTail X l D A a m o i k n) : Ey X l (mL tbL_travel) D room_1 A (xQ D A lawQ) 601024 7293034 901 [(4, Value.int (nI i)), (3, .ref o), (2, .ref m), (1, .ref a), (0, .ref X.1)] [] [SA.flatten, SM.flatten, oA D o f0] k n := by
  refine Ey.p rfl ?_
  refine Ey.p rfl ?_
  refine Ey.p rfl ?_
  refine Ey.p rfl ?_
  refine Ey.p rfl ?_
  refine Ey.sld rfl (six 1 (by omega)) (by omega) ?_
  refine Ey.p rfl ?_
  refine Ey.xw (Rc := rm 8 16 246) (ct_La_travel hfl hA (rm_ok _ _ _)) rfl wkLa_travel lwLa_travel rfl (show (parseMethodDescriptor mLa_travel.2.1.desc).map (fun d => d.parameters.length) = some 3 by decide +kernel) rfl ⟨Nat.le_of_ble_eq_true rfl, Nat.le_of_ble_eq_true rfl⟩ (Nat.le_of_ble_eq_true rfl) (by dsimp only [rm]; omega) (by dsimp only [rm]; omega) (fun v S1 f1 hq => ?_)
  obtain ⟨kv, w, rfl, hA1, hf1, hQ⟩ := ar_lq hq (fun y hy => aTravel_v hy)
  refine Ey.p rfl ?_
  refine Ey.p rfl ?_
  refine Ey.p rfl ?_
  refine Ey.p rfl ?_
  refine Ey.p rfl ?_
  refine Ey.p rfl ?_
  refine Ey.sld rfl (six 1 (by omega)) (by omega) ?_
  refine Ey.mv (Rc := rm 5 0 0) (mo_at hM) (ct_Mo_travel hM (da_ok hA).2 (rm_ok _ _ _)) rfl lk_13_103 lcMo_travel rfl rfl ⟨Nat.le_of_ble_eq_true rfl, Nat.le_of_ble_eq_true rfl⟩ (Nat.le_of_ble_eq_true rfl) (by dsimp only [rm]; omega) (by dsimp only [rm]; omega) (fun v S2 hq2 => ?_)
  obtain ⟨rfl, hM1⟩ := hQ hq2
  refine Ey.p rfl ?_
  refine Ey.p rfl ?_
  refine Ey.mv (Rc := rm 0 0 0) (mo_at hM1) (ct_Mo_thr hM1) rfl lk_13_70 lcMo_thrown rfl rfl ⟨Nat.le_of_ble_eq_true rfl, Nat.le_of_ble_eq_true rfl⟩ (Nat.le_of_ble_eq_true rfl) (by dsimp only [rm]; omega) (by dsimp only [rm]; omega) (fun v S3 hq3 => ?_)
  obtain ⟨rfl, hM2⟩ := hq3
  refine Ey.p rfl ?_
  refine Ey.br rfl (fun _ => ?_) (fun c => absurd rfl c)
  refine Ey.p rfl ?_
  refine Ey.br rfl (fun c => ?_) (fun c => ?_)
  · refine Ey.p rfl ?_
    refine Ey.tab (tb' := []) (fun q h => absurd h List.not_mem_nil) (tail _ _ _ _ _ _ _ hA1 hM2 hz.travel (by dsimp only [rm]; omega) (by dsimp only [rm]; omega) _ (fun q h => ?_))
    simp only [List.mem_cons, List.not_mem_nil, or_false] at h
    rcases h with rfl | rfl | rfl | rfl | rfl <;> simp [xs1, xs2, lv_args, Value.category]
  · have c : ¬ ¬ kv = 0 := c
    have c := Decidable.not_not.mp c
    refine Ey.p rfl ?_
    refine Ey.p rfl ?_
    refine Ey.lal 2 0 0 rfl rfl rfl rfl (by decide) ?_
    rw [hf1 c]
    refine Ey.p rfl ?_
    refine Ey.p rfl ?_
    refine Ey.br rfl (fun _ => ?_) (fun c2 => absurd (lg_self _) c2)
    refine Ey.p rfl ?_
    refine Ey.tab (tb' := []) (fun q h => absurd h List.not_mem_nil) (tail _ _ _ _ _ _ _ hA1 hM2 hz.travel (by dsimp only [rm]; omega) (by dsimp only [rm]; omega) _ (fun q h => ?_))
    simp only [List.mem_cons, List.not_mem_nil, or_false] at h
    rcases h with rfl | rfl | rfl | rfl | rfl <;> simp [xs1, xs2, lv_args, Value.category]
theorem law_proved {X : xX} {l : Launch} {D : xD} {A : Nat → Prop} {a m o i : Nat} {z : SD} {th : Int32} {SA SM : List va_W} {f0 : Nat → Int64} {k n : Nat} (hfl : l.flags = pinnedFlags ++ [noTraceFlag]) (hA : IsDa D a z SA) (hM : IsMo D m z th SM) (hz : ZN z) (hi : i + 10 ≤ X.2.1) (hL : X.2.1 ≤ 5120) (hk : k + 1000 ≤ 601024) (hn : n + 14000 ≤ 7293034) (tail : LTail X l D A a m o i k n) : Ey X l (mL tbL_proved) D room_1 A (xQ D A lawQ) 601024 7293034 956 [(4, Value.int (nI i)), (3, .ref o), (2, .ref m), (1, .ref a), (0, .ref X.1)] [] [SA.flatten, SM.flatten, oA D o f0] k n := by
  refine Ey.p rfl ?_
  refine Ey.p rfl ?_
  refine Ey.p rfl ?_
  refine Ey.p rfl ?_
  refine Ey.p rfl ?_
  refine Ey.sld rfl (six 1 (by omega)) (by omega) ?_
  refine Ey.p rfl ?_
  refine Ey.xw (Rc := rm 8 1 6) (ct_La_proved hfl hA (rm_ok _ _ _)) rfl wkLa_proved lwLa_proved rfl (show (parseMethodDescriptor mLa_proved.2.1.desc).map (fun d => d.parameters.length) = some 3 by decide +kernel) rfl ⟨Nat.le_of_ble_eq_true rfl, Nat.le_of_ble_eq_true rfl⟩ (Nat.le_of_ble_eq_true rfl) (by dsimp only [rm]; omega) (by dsimp only [rm]; omega) (fun v S1 f1 hq => ?_)
  obtain ⟨kv, w, rfl, hA1, hf1, hQ⟩ := ar_zq hq (fun y hy => aProved_v hy)
  refine Ey.p rfl ?_
  refine Ey.p rfl ?_
  refine Ey.p rfl ?_
  refine Ey.p rfl ?_
  refine Ey.p rfl ?_
  refine Ey.p rfl ?_
  refine Ey.sld rfl (six 1 (by omega)) (by omega) ?_
  refine Ey.mv (Rc := rm 1 0 0) (mo_at hM) (ct_Mo_proved hM (rm_ok _ _ _)) rfl lk_13_106 lcMo_proved rfl rfl ⟨Nat.le_of_ble_eq_true rfl, Nat.le_of_ble_eq_true rfl⟩ (Nat.le_of_ble_eq_true rfl) (by dsimp only [rm]; omega) (by dsimp only [rm]; omega) (fun v S2 hq2 => ?_)
  obtain ⟨rfl, hM1⟩ := hQ hq2
  refine Ey.p rfl ?_
  refine Ey.p rfl ?_
  refine Ey.mv (Rc := rm 0 0 0) (mo_at hM1) (ct_Mo_thr hM1) rfl lk_13_70 lcMo_thrown rfl rfl ⟨Nat.le_of_ble_eq_true rfl, Nat.le_of_ble_eq_true rfl⟩ (Nat.le_of_ble_eq_true rfl) (by dsimp only [rm]; omega) (by dsimp only [rm]; omega) (fun v S3 hq3 => ?_)
  obtain ⟨rfl, hM2⟩ := hq3
  refine Ey.p rfl ?_
  refine Ey.br rfl (fun _ => ?_) (fun c => absurd rfl c)
  refine Ey.p rfl ?_
  refine Ey.br rfl (fun c => ?_) (fun c => ?_)
  · refine Ey.p rfl ?_
    refine Ey.tab (tb' := []) (fun q h => absurd h List.not_mem_nil) (tail _ _ _ _ _ _ _ hA1 hM2 hz.proved (by dsimp only [rm]; omega) (by dsimp only [rm]; omega) _ (fun q h => ?_))
    simp only [List.mem_cons, List.not_mem_nil, or_false] at h
    rcases h with rfl | rfl | rfl | rfl | rfl <;> simp [xs1, xs2, lv_args, Value.category]
  · have c : ¬ ¬ kv = 0 := c
    have c := Decidable.not_not.mp c
    refine Ey.p rfl ?_
    refine Ey.p rfl ?_
    refine Ey.lal 2 0 0 rfl rfl rfl rfl (by decide) ?_
    rw [hf1 c]
    refine Ey.p rfl ?_
    cases w with
    | true =>
      refine Ey.br rfl (fun c => absurd c (show (1 : Int32) ≠ 0 by decide)) (fun _ => ?_)
      refine Ey.p rfl ?_
      refine Ey.p rfl ?_
      refine Ey.p rfl ?_
      refine Ey.br rfl (fun _ => ?_) (fun c2 => absurd lgz_t c2)
      refine Ey.p rfl ?_
      refine Ey.tab (tb' := []) (fun q h => absurd h List.not_mem_nil) (tail _ _ _ _ _ _ _ hA1 hM2 hz.proved (by dsimp only [rm]; omega) (by dsimp only [rm]; omega) _ (fun q h => ?_))
      simp only [List.mem_cons, List.not_mem_nil, or_false] at h
      rcases h with rfl | rfl | rfl | rfl | rfl <;> simp [xs1, xs2, lv_args, Value.category]
    | false =>
      refine Ey.br rfl (fun _ => ?_) (fun c => absurd rfl c)
      refine Ey.p rfl ?_
      refine Ey.p rfl ?_
      refine Ey.br rfl (fun _ => ?_) (fun c2 => absurd lgz_f c2)
      refine Ey.p rfl ?_
      refine Ey.tab (tb' := []) (fun q h => absurd h List.not_mem_nil) (tail _ _ _ _ _ _ _ hA1 hM2 hz.proved (by dsimp only [rm]; omega) (by dsimp only [rm]; omega) _ (fun q h => ?_))
      simp only [List.mem_cons, List.not_mem_nil, or_false] at h
      rcases h with rfl | rfl | rfl | rfl | rfl <;> simp [xs1, xs2, lv_args, Value.category]

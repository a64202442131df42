/-! the law: cases -/
theorem law_file {X : xX} {l : Launch} {D : xD} {A : Nat → Prop} {a m o i : Nat} {z : SD} {th : Int32} {SA SM : List va_W} {f0 : Nat → Int64} {k n : Nat} (hfl : l.flags = pinnedFlags ++ [noTraceFlag]) (hA : IsDa D a z SA) (hM : IsMo D m z th SM) (hz : ZN z) (hi : i + 10 ≤ X.2.1) (hL : X.2.1 ≤ 5120) (hk : k + 1000 ≤ 601024) (hn : n + 14000 ≤ 7293034) (tail : LTail X l D A a m o i k n) : Ey X l (mL tbL_file) D room_1 A (xQ D A lawQ) 601024 7293034 1019 [(4, Value.int (nI i)), (3, .ref o), (2, .ref m), (1, .ref a), (0, .ref X.1)] [] [SA.flatten, SM.flatten, oA D o f0] k n := by
  refine Ey.p rfl ?_
  refine Ey.p rfl ?_
  refine Ey.p rfl ?_
  refine Ey.p rfl ?_
  refine Ey.p rfl ?_
  refine Ey.sld rfl (six 1 (by omega)) (by omega) ?_
  refine Ey.p rfl ?_
  refine Ey.xw (Rc := rm 7 3 14) (ct_La_file hfl hA (rm_ok _ _ _)) rfl wkLa_file lwLa_file rfl (show (parseMethodDescriptor mLa_file.2.1.desc).map (fun d => d.parameters.length) = some 3 by decide +kernel) rfl ⟨Nat.le_of_ble_eq_true rfl, Nat.le_of_ble_eq_true rfl⟩ (Nat.le_of_ble_eq_true rfl) (by dsimp only [rm]; omega) (by dsimp only [rm]; omega) (fun v S1 f1 hq => ?_)
  obtain ⟨kv, w, rfl, hA1, hf1, hQ⟩ := ar_iq hq (fun y hy => aFile_v hy)
  refine Ey.p rfl ?_
  refine Ey.p rfl ?_
  refine Ey.p rfl ?_
  refine Ey.p rfl ?_
  refine Ey.p rfl ?_
  refine Ey.p rfl ?_
  refine Ey.sld rfl (six 1 (by omega)) (by omega) ?_
  refine Ey.mv (Rc := rm 1 0 0) (mo_at hM) (ct_Mo_file hM (hz.room (mo_8 hM)) (rm_ok _ _ _)) rfl lk_13_109 lcMo_file rfl rfl ⟨Nat.le_of_ble_eq_true rfl, Nat.le_of_ble_eq_true rfl⟩ (Nat.le_of_ble_eq_true rfl) (by dsimp only [rm]; omega) (by dsimp only [rm]; omega) (fun v S2 hq2 => ?_)
  obtain ⟨rfl, hM1⟩ := hQ hq2
  refine Ey.p rfl ?_
  refine Ey.p rfl ?_
  refine Ey.mv (Rc := rm 0 0 0) (mo_at hM1) (ct_Mo_thr hM1) rfl lk_13_70 lcMo_thrown rfl rfl ⟨Nat.le_of_ble_eq_true rfl, Nat.le_of_ble_eq_true rfl⟩ (Nat.le_of_ble_eq_true rfl) (by dsimp only [rm]; omega) (by dsimp only [rm]; omega) (fun v S3 hq3 => ?_)
  obtain ⟨rfl, hM2⟩ := hq3
  refine Ey.p rfl ?_
  refine Ey.br rfl (fun _ => ?_) (fun c => absurd rfl c)
  refine Ey.p rfl ?_
  refine Ey.br rfl (fun c => ?_) (fun c => ?_)
  · refine Ey.p rfl ?_
    refine Ey.tab (tb' := []) (fun q h => absurd h List.not_mem_nil) (tail _ _ _ _ _ _ _ hA1 hM2 hz.file (by dsimp only [rm]; omega) (by dsimp only [rm]; omega) _ (fun q h => ?_))
    simp only [List.mem_cons, List.not_mem_nil, or_false] at h
    rcases h with rfl | rfl | rfl | rfl | rfl <;> simp [xs1, xs2, lv_args, Value.category]
  · have c : ¬ ¬ kv = 0 := c
    have c := Decidable.not_not.mp c
    refine Ey.p rfl ?_
    refine Ey.p rfl ?_
    refine Ey.lal 2 0 0 rfl rfl rfl rfl (by decide) ?_
    rw [hf1 c]
    refine Ey.p rfl ?_
    refine Ey.p rfl ?_
    refine Ey.p rfl ?_
    refine Ey.br rfl (fun _ => ?_) (fun c2 => absurd (lg_self _) c2)
    refine Ey.p rfl ?_
    refine Ey.tab (tb' := []) (fun q h => absurd h List.not_mem_nil) (tail _ _ _ _ _ _ _ hA1 hM2 hz.file (by dsimp only [rm]; omega) (by dsimp only [rm]; omega) _ (fun q h => ?_))
    simp only [List.mem_cons, List.not_mem_nil, or_false] at h
    rcases h with rfl | rfl | rfl | rfl | rfl <;> simp [xs1, xs2, lv_args, Value.category]
theorem law_byteOf {X : xX} {l : Launch} {D : xD} {A : Nat → Prop} {a m o i : Nat} {z : SD} {th : Int32} {SA SM : List va_W} {f0 : Nat → Int64} {k n : Nat} (hfl : l.flags = pinnedFlags ++ [noTraceFlag]) (hA : IsDa D a z SA) (hM : IsMo D m z th SM) (hz : ZN z) (hi : i + 10 ≤ X.2.1) (hL : X.2.1 ≤ 5120) (hk : k + 1000 ≤ 601024) (hn : n + 14000 ≤ 7293034) (tail : LTail X l D A a m o i k n) : Ey X l (mL tbL_byteOf) D room_1 A (xQ D A lawQ) 601024 7293034 1075 [(4, Value.int (nI i)), (3, .ref o), (2, .ref m), (1, .ref a), (0, .ref X.1)] [] [SA.flatten, SM.flatten, oA D o f0] k n := by
  refine Ey.p rfl ?_
  refine Ey.p rfl ?_
  refine Ey.p rfl ?_
  refine Ey.p rfl ?_
  refine Ey.p rfl ?_
  refine Ey.sld rfl (six 1 (by omega)) (by omega) ?_
  refine Ey.p rfl ?_
  refine Ey.p rfl ?_
  refine Ey.p rfl ?_
  refine Ey.p rfl ?_
  refine Ey.sld rfl (six 2 (by omega)) (by omega) ?_
  refine Ey.p rfl ?_
  refine Ey.xw (Rc := rm 8 76 1206) (ct_La_byteOf hfl hA (rm_ok _ _ _)) rfl wkLa_byteOf lwLa_byteOf rfl (show (parseMethodDescriptor mLa_byteOf.2.1.desc).map (fun d => d.parameters.length) = some 4 by decide +kernel) rfl ⟨Nat.le_of_ble_eq_true rfl, Nat.le_of_ble_eq_true rfl⟩ (Nat.le_of_ble_eq_true rfl) (by dsimp only [rm]; omega) (by dsimp only [rm]; omega) (fun v S1 f1 hq => ?_)
  obtain ⟨kv, w, rfl, hA1, hf1, hQ⟩ := ar_zq hq (fun y hy => aByte_v hy)
  refine Ey.p rfl ?_
  refine Ey.p rfl ?_
  refine Ey.p rfl ?_
  refine Ey.p rfl ?_
  refine Ey.p rfl ?_
  refine Ey.p rfl ?_
  refine Ey.sld rfl (six 1 (by omega)) (by omega) ?_
  refine Ey.p rfl ?_
  refine Ey.p rfl ?_
  refine Ey.p rfl ?_
  refine Ey.p rfl ?_
  refine Ey.sld rfl (six 2 (by omega)) (by omega) ?_
  refine Ey.mv (Rc := rm 1 0 0) (mo_at hM) (ct_Mo_byteOf hM (rm_ok _ _ _)) rfl lk_13_112 lcMo_byteOf rfl rfl ⟨Nat.le_of_ble_eq_true rfl, Nat.le_of_ble_eq_true rfl⟩ (Nat.le_of_ble_eq_true rfl) (by dsimp only [rm]; omega) (by dsimp only [rm]; omega) (fun v S2 hq2 => ?_)
  obtain ⟨rfl, hM1⟩ := hQ hq2
  refine Ey.p rfl ?_
  refine Ey.p rfl ?_
  refine Ey.mv (Rc := rm 0 0 0) (mo_at hM1) (ct_Mo_thr hM1) rfl lk_13_70 lcMo_thrown rfl rfl ⟨Nat.le_of_ble_eq_true rfl, Nat.le_of_ble_eq_true rfl⟩ (Nat.le_of_ble_eq_true rfl) (by dsimp only [rm]; omega) (by dsimp only [rm]; omega) (fun v S3 hq3 => ?_)
  obtain ⟨rfl, hM2⟩ := hq3
  refine Ey.p rfl ?_
  refine Ey.br rfl (fun _ => ?_) (fun c => absurd rfl c)
  refine Ey.p rfl ?_
  refine Ey.br rfl (fun c => ?_) (fun c => ?_)
  · refine Ey.p rfl ?_
    refine Ey.tab (tb' := []) (fun q h => absurd h List.not_mem_nil) (tail _ _ _ _ _ _ _ hA1 hM2 hz.byte (by dsimp only [rm]; omega) (by dsimp only [rm]; omega) _ (fun q h => ?_))
    simp only [List.mem_cons, List.not_mem_nil, or_false] at h
    rcases h with rfl | rfl | rfl | rfl | rfl <;> simp [xs1, xs2, lv_args, Value.category]
  · have c : ¬ ¬ kv = 0 := c
    have c := Decidable.not_not.mp c
    refine Ey.p rfl ?_
    refine Ey.p rfl ?_
    refine Ey.lal 2 0 0 rfl rfl rfl rfl (by decide) ?_
    rw [hf1 c]
    refine Ey.p rfl ?_
    cases w with
    | true =>
      refine Ey.br rfl (fun c => absurd c (show (1 : Int32) ≠ 0 by decide)) (fun _ => ?_)
      refine Ey.p rfl ?_
      refine Ey.p rfl ?_
      refine Ey.p rfl ?_
      refine Ey.br rfl (fun _ => ?_) (fun c2 => absurd lgz_t c2)
      refine Ey.p rfl ?_
      refine Ey.tab (tb' := []) (fun q h => absurd h List.not_mem_nil) (tail _ _ _ _ _ _ _ hA1 hM2 hz.byte (by dsimp only [rm]; omega) (by dsimp only [rm]; omega) _ (fun q h => ?_))
      simp only [List.mem_cons, List.not_mem_nil, or_false] at h
      rcases h with rfl | rfl | rfl | rfl | rfl <;> simp [xs1, xs2, lv_args, Value.category]
    | false =>
      refine Ey.br rfl (fun _ => ?_) (fun c => absurd rfl c)
      refine Ey.p rfl ?_
      refine Ey.p rfl ?_
      refine Ey.br rfl (fun _ => ?_) (fun c2 => absurd lgz_f c2)
      refine Ey.p rfl ?_
      refine Ey.tab (tb' := []) (fun q h => absurd h List.not_mem_nil) (tail _ _ _ _ _ _ _ hA1 hM2 hz.byte (by dsimp only [rm]; omega) (by dsimp only [rm]; omega) _ (fun q h => ?_))
      simp only [List.mem_cons, List.not_mem_nil, or_false] at h
      rcases h with rfl | rfl | rfl | rfl | rfl <;> simp [xs1, xs2, lv_args, Value.category]
theorem law_archive {X : xX} {l : Launch} {D : xD} {A : Nat → Prop} {a m o i : Nat} {z : SD} {th : Int32} {SA SM : List va_W} {f0 : Nat → Int64} {k n : Nat} (hfl : l.flags = pinnedFlags ++ [noTraceFlag]) (hA : IsDa D a z SA) (hM : IsMo D m z th SM) (hz : ZN z) (hi : i + 10 ≤ X.2.1) (hL : X.2.1 ≤ 5120) (hk : k + 1000 ≤ 601024) (hn : n + 14000 ≤ 7293034) (tail : LTail X l D A a m o i k n) : Ey X l (mL tbL_archive) D room_1 A (xQ D A lawQ) 601024 7293034 1150 [(4, Value.int (nI i)), (3, .ref o), (2, .ref m), (1, .ref a), (0, .ref X.1)] [] [SA.flatten, SM.flatten, oA D o f0] k n := by
  refine Ey.p rfl ?_
  refine Ey.p rfl ?_
  refine Ey.p rfl ?_
  refine Ey.p rfl ?_
  refine Ey.p rfl ?_
  refine Ey.sld rfl (six 1 (by omega)) (by omega) ?_
  refine Ey.p rfl ?_
  refine Ey.xw (Rc := rm 7 1 6) (ct_La_archive hfl hA (rm_ok _ _ _)) rfl wkLa_archive lwLa_archive rfl (show (parseMethodDescriptor mLa_archive.2.1.desc).map (fun d => d.parameters.length) = some 3 by decide +kernel) rfl ⟨Nat.le_of_ble_eq_true rfl, Nat.le_of_ble_eq_true rfl⟩ (Nat.le_of_ble_eq_true rfl) (by dsimp only [rm]; omega) (by dsimp only [rm]; omega) (fun v S1 f1 hq => ?_)
  obtain ⟨kv, w, rfl, hA1, hf1, hQ⟩ := ar_iq hq (fun y hy => aArch_v hy)
  refine Ey.p rfl ?_
  refine Ey.p rfl ?_
  refine Ey.p rfl ?_
  refine Ey.p rfl ?_
  refine Ey.p rfl ?_
  refine Ey.p rfl ?_
  refine Ey.sld rfl (six 1 (by omega)) (by omega) ?_
  refine Ey.mv (Rc := rm 1 0 0) (mo_at hM) (ct_Mo_archive hM (rm_ok _ _ _)) rfl lk_13_115 lcMo_archive rfl rfl ⟨Nat.le_of_ble_eq_true rfl, Nat.le_of_ble_eq_true rfl⟩ (Nat.le_of_ble_eq_true rfl) (by dsimp only [rm]; omega) (by dsimp only [rm]; omega) (fun v S2 hq2 => ?_)
  obtain ⟨rfl, hM1⟩ := hQ hq2
  refine Ey.p rfl ?_
  refine Ey.p rfl ?_
  refine Ey.mv (Rc := rm 0 0 0) (mo_at hM1) (ct_Mo_thr hM1) rfl lk_13_70 lcMo_thrown rfl rfl ⟨Nat.le_of_ble_eq_true rfl, Nat.le_of_ble_eq_true rfl⟩ (Nat.le_of_ble_eq_true rfl) (by dsimp only [rm]; omega) (by dsimp only [rm]; omega) (fun v S3 hq3 => ?_)
  obtain ⟨rfl, hM2⟩ := hq3
  refine Ey.p rfl ?_
  refine Ey.br rfl (fun _ => ?_) (fun c => absurd rfl c)
  refine Ey.p rfl ?_
  refine Ey.br rfl (fun c => ?_) (fun c => ?_)
  · refine Ey.p rfl ?_
    refine Ey.tab (tb' := []) (fun q h => absurd h List.not_mem_nil) (tail _ _ _ _ _ _ _ hA1 hM2 hz.archive (by dsimp only [rm]; omega) (by dsimp only [rm]; omega) _ (fun q h => ?_))
    simp only [List.mem_cons, List.not_mem_nil, or_false] at h
    rcases h with rfl | rfl | rfl | rfl | rfl <;> simp [xs1, xs2, lv_args, Value.category]
  · have c : ¬ ¬ kv = 0 := c
    have c := Decidable.not_not.mp c
    refine Ey.p rfl ?_
    refine Ey.p rfl ?_
    refine Ey.lal 2 0 0 rfl rfl rfl rfl (by decide) ?_
    rw [hf1 c]
    refine Ey.p rfl ?_
    refine Ey.p rfl ?_
    refine Ey.p rfl ?_
    refine Ey.br rfl (fun _ => ?_) (fun c2 => absurd (lg_self _) c2)
    refine Ey.p rfl ?_
    refine Ey.tab (tb' := []) (fun q h => absurd h List.not_mem_nil) (tail _ _ _ _ _ _ _ hA1 hM2 hz.archive (by dsimp only [rm]; omega) (by dsimp only [rm]; omega) _ (fun q h => ?_))
    simp only [List.mem_cons, List.not_mem_nil, or_false] at h
    rcases h with rfl | rfl | rfl | rfl | rfl <;> simp [xs1, xs2, lv_args, Value.category]
theorem law_sum {X : xX} {l : Launch} {D : xD} {A : Nat → Prop} {a m o i : Nat} {z : SD} {th : Int32} {SA SM : List va_W} {f0 : Nat → Int64} {k n : Nat} (hfl : l.flags = pinnedFlags ++ [noTraceFlag]) (hA : IsDa D a z SA) (hM : IsMo D m z th SM) (hz : ZN z) (hi : i + 10 ≤ X.2.1) (hL : X.2.1 ≤ 5120) (hk : k + 1000 ≤ 601024) (hn : n + 14000 ≤ 7293034) (tail : LTail X l D A a m o i k n) : Ey X l (mL tbL_sum) D room_1 A (xQ D A lawQ) 601024 7293034 1282 [(4, Value.int (nI i)), (3, .ref o), (2, .ref m), (1, .ref a), (0, .ref X.1)] [] [SA.flatten, SM.flatten, oA D o f0] k n := by
  refine Ey.p rfl ?_
  refine Ey.p rfl ?_
  refine Ey.p rfl ?_
  refine Ey.p rfl ?_
  refine Ey.p rfl ?_
  refine Ey.sld rfl (six 1 (by omega)) (by omega) ?_
  refine Ey.p rfl ?_
  refine Ey.xw (Rc := rm 8 1 6) (ct_La_sum hfl hA (rm_ok _ _ _)) rfl wkLa_sum lwLa_sum rfl (show (parseMethodDescriptor mLa_sum.2.1.desc).map (fun d => d.parameters.length) = some 3 by decide +kernel) rfl ⟨Nat.le_of_ble_eq_true rfl, Nat.le_of_ble_eq_true rfl⟩ (Nat.le_of_ble_eq_true rfl) (by dsimp only [rm]; omega) (by dsimp only [rm]; omega) (fun v S1 f1 hq => ?_)
  obtain ⟨kv, w, rfl, hA1, hf1, hQ⟩ := ar_lq hq (fun y hy => aSum_v hy)
  refine Ey.p rfl ?_
  refine Ey.p rfl ?_
  refine Ey.p rfl ?_
  refine Ey.p rfl ?_
  refine Ey.p rfl ?_
  refine Ey.p rfl ?_
  refine Ey.sld rfl (six 1 (by omega)) (by omega) ?_
  refine Ey.mv (Rc := rm 1 0 0) (mo_at hM) (ct_Mo_sum hM (rm_ok _ _ _)) rfl lk_13_135 lcMo_sum rfl rfl ⟨Nat.le_of_ble_eq_true rfl, Nat.le_of_ble_eq_true rfl⟩ (Nat.le_of_ble_eq_true rfl) (by dsimp only [rm]; omega) (by dsimp only [rm]; omega) (fun v S2 hq2 => ?_)
  obtain ⟨rfl, hM1⟩ := hQ hq2
  refine Ey.p rfl ?_
  refine Ey.p rfl ?_
  refine Ey.mv (Rc := rm 0 0 0) (mo_at hM1) (ct_Mo_thr hM1) rfl lk_13_70 lcMo_thrown rfl rfl ⟨Nat.le_of_ble_eq_true rfl, Nat.le_of_ble_eq_true rfl⟩ (Nat.le_of_ble_eq_true rfl) (by dsimp only [rm]; omega) (by dsimp only [rm]; omega) (fun v S3 hq3 => ?_)
  obtain ⟨rfl, hM2⟩ := hq3
  refine Ey.p rfl ?_
  refine Ey.br rfl (fun _ => ?_) (fun c => absurd rfl c)
  refine Ey.p rfl ?_
  refine Ey.br rfl (fun c => ?_) (fun c => ?_)
  · refine Ey.p rfl ?_
    refine Ey.tab (tb' := []) (fun q h => absurd h List.not_mem_nil) (tail _ _ _ _ _ _ _ hA1 hM2 hz.sum (by dsimp only [rm]; omega) (by dsimp only [rm]; omega) _ (fun q h => ?_))
    simp only [List.mem_cons, List.not_mem_nil, or_false] at h
    rcases h with rfl | rfl | rfl | rfl | rfl <;> simp [xs1, xs2, lv_args, Value.category]
  · have c : ¬ ¬ kv = 0 := c
    have c := Decidable.not_not.mp c
    refine Ey.p rfl ?_
    refine Ey.p rfl ?_
    refine Ey.lal 2 0 0 rfl rfl rfl rfl (by decide) ?_
    rw [hf1 c]
    refine Ey.p rfl ?_
    refine Ey.p rfl ?_
    refine Ey.br rfl (fun _ => ?_) (fun c2 => absurd (lg_self _) c2)
    refine Ey.p rfl ?_
    refine Ey.tab (tb' := []) (fun q h => absurd h List.not_mem_nil) (tail _ _ _ _ _ _ _ hA1 hM2 hz.sum (by dsimp only [rm]; omega) (by dsimp only [rm]; omega) _ (fun q h => ?_))
    simp only [List.mem_cons, List.not_mem_nil, or_false] at h
    rcases h with rfl | rfl | rfl | rfl | rfl <;> simp [xs1, xs2, lv_args, Value.category]
theorem law_tool {X : xX} {l : Launch} {D : xD} {A : Nat → Prop} {a m o i : Nat} {z : SD} {th : Int32} {SA SM : List va_W} {f0 : Nat → Int64} {k n : Nat} (hfl : l.flags = pinnedFlags ++ [noTraceFlag]) (hA : IsDa D a z SA) (hM : IsMo D m z th SM) (hz : ZN z) (hi : i + 10 ≤ X.2.1) (hL : X.2.1 ≤ 5120) (hk : k + 1000 ≤ 601024) (hn : n + 14000 ≤ 7293034) (tail : LTail X l D A a m o i k n) : Ey X l (mL tbL_tool) D room_1 A (xQ D A lawQ) 601024 7293034 132 [(4, Value.int (nI i)), (3, .ref o), (2, .ref m), (1, .ref a), (0, .ref X.1)] [] [SA.flatten, SM.flatten, oA D o f0] k n := by
  by_cases c0 : X.2.2 (i + 3) = 0
  · refine Ey.p rfl ?_
    refine Ey.p rfl ?_
    refine Ey.p rfl ?_
    refine Ey.p rfl ?_
    refine Ey.p rfl ?_
    refine Ey.sld rfl (six 1 (by omega)) (by omega) ?_
    refine Ey.p rfl ?_
    refine Ey.p rfl ?_
    refine Ey.p rfl ?_
    refine Ey.p rfl ?_
    refine Ey.p rfl ?_
    refine Ey.p rfl ?_
    refine Ey.p rfl ?_
    refine Ey.sld rfl (six 2 (by omega)) (by omega) ?_
    refine Ey.p rfl ?_
    refine Ey.ldc2 rfl ?_
    refine Ey.p rfl ?_
    refine Ey.p rfl ?_
    refine Ey.p rfl ?_
    refine Ey.p rfl ?_
    refine Ey.p rfl ?_
    refine Ey.p rfl ?_
    refine Ey.sld rfl (six 3 (by omega)) (by omega) ?_
    refine Ey.br rfl (fun _ => ?_) (fun c => absurd c0 c)
    refine Ey.p rfl ?_
    refine Ey.p rfl ?_
    refine Ey.xw (Rc := rm 7 5 28) (ct_La_tool (p := false) hfl hA (rm_ok _ _ _)) rfl wkLa_tool lwLa_tool rfl (show (parseMethodDescriptor mLa_tool.2.1.desc).map (fun d => d.parameters.length) = some 4 by decide +kernel) rfl ⟨Nat.le_of_ble_eq_true rfl, Nat.le_of_ble_eq_true rfl⟩ (Nat.le_of_ble_eq_true rfl) (by dsimp only [rm]; omega) (by dsimp only [rm]; omega) (fun v S1 f1 hq => ?_)
    obtain ⟨kv, w, rfl, hA1, hf1, hQ⟩ := ar_iq hq (fun y hy => aTool_v hy)
    refine Ey.p rfl ?_
    refine Ey.p rfl ?_
    refine Ey.p rfl ?_
    refine Ey.p rfl ?_
    refine Ey.p rfl ?_
    refine Ey.p rfl ?_
    refine Ey.sld rfl (six 1 (by omega)) (by omega) ?_
    refine Ey.p rfl ?_
    refine Ey.p rfl ?_
    refine Ey.p rfl ?_
    refine Ey.p rfl ?_
    refine Ey.p rfl ?_
    refine Ey.p rfl ?_
    refine Ey.p rfl ?_
    refine Ey.sld rfl (six 2 (by omega)) (by omega) ?_
    refine Ey.p rfl ?_
    refine Ey.ldc2 rfl ?_
    refine Ey.p rfl ?_
    refine Ey.p rfl ?_
    refine Ey.p rfl ?_
    refine Ey.p rfl ?_
    refine Ey.p rfl ?_
    refine Ey.p rfl ?_
    refine Ey.sld rfl (six 3 (by omega)) (by omega) ?_
    refine Ey.br rfl (fun _ => ?_) (fun c => absurd c0 c)
    refine Ey.p rfl ?_
    refine Ey.mv (Rc := rm 1 0 0) (mo_at hM) (ct_Mo_tool (p := false) hM (rm_ok _ _ _)) rfl lk_13_69 lcMo_tool rfl rfl ⟨Nat.le_of_ble_eq_true rfl, Nat.le_of_ble_eq_true rfl⟩ (Nat.le_of_ble_eq_true rfl) (by dsimp only [rm]; omega) (by dsimp only [rm]; omega) (fun v S2 hq2 => ?_)
    obtain ⟨rfl, hM1⟩ := hQ hq2
    refine Ey.p rfl ?_
    refine Ey.p rfl ?_
    refine Ey.mv (Rc := rm 0 0 0) (mo_at hM1) (ct_Mo_thr hM1) rfl lk_13_70 lcMo_thrown rfl rfl ⟨Nat.le_of_ble_eq_true rfl, Nat.le_of_ble_eq_true rfl⟩ (Nat.le_of_ble_eq_true rfl) (by dsimp only [rm]; omega) (by dsimp only [rm]; omega) (fun v S3 hq3 => ?_)
    obtain ⟨rfl, hM2⟩ := hq3
    refine Ey.p rfl ?_
    refine Ey.br rfl (fun _ => ?_) (fun c => absurd rfl c)
    refine Ey.p rfl ?_
    refine Ey.br rfl (fun c => ?_) (fun c => ?_)
    · refine Ey.p rfl ?_
      refine Ey.tab (tb' := []) (fun q h => absurd h List.not_mem_nil) (tail _ _ _ _ _ _ _ hA1 hM2 hz.tool (by dsimp only [rm]; omega) (by dsimp only [rm]; omega) _ (fun q h => ?_))
      simp only [List.mem_cons, List.not_mem_nil, or_false] at h
      rcases h with rfl | rfl | rfl | rfl | rfl <;> simp [xs1, xs2, lv_args, Value.category]
    · have c : ¬ ¬ kv = 0 := c
      have c := Decidable.not_not.mp c
      refine Ey.p rfl ?_
      refine Ey.p rfl ?_
      refine Ey.lal 2 0 0 rfl rfl rfl rfl (by decide) ?_
      rw [hf1 c]
      refine Ey.p rfl ?_
      refine Ey.p rfl ?_
      refine Ey.p rfl ?_
      refine Ey.br rfl (fun _ => ?_) (fun c2 => absurd (lg_self _) c2)
      refine Ey.p rfl ?_
      refine Ey.tab (tb' := []) (fun q h => absurd h List.not_mem_nil) (tail _ _ _ _ _ _ _ hA1 hM2 hz.tool (by dsimp only [rm]; omega) (by dsimp only [rm]; omega) _ (fun q h => ?_))
      simp only [List.mem_cons, List.not_mem_nil, or_false] at h
      rcases h with rfl | rfl | rfl | rfl | rfl <;> simp [xs1, xs2, lv_args, Value.category]
  · refine Ey.p rfl ?_
    refine Ey.p rfl ?_
    refine Ey.p rfl ?_
    refine Ey.p rfl ?_
    refine Ey.p rfl ?_
    refine Ey.sld rfl (six 1 (by omega)) (by omega) ?_
    refine Ey.p rfl ?_
    refine Ey.p rfl ?_
    refine Ey.p rfl ?_
    refine Ey.p rfl ?_
    refine Ey.p rfl ?_
    refine Ey.p rfl ?_
    refine Ey.p rfl ?_
    refine Ey.sld rfl (six 2 (by omega)) (by omega) ?_
    refine Ey.p rfl ?_
    refine Ey.ldc2 rfl ?_
    refine Ey.p rfl ?_
    refine Ey.p rfl ?_
    refine Ey.p rfl ?_
    refine Ey.p rfl ?_
    refine Ey.p rfl ?_
    refine Ey.p rfl ?_
    refine Ey.sld rfl (six 3 (by omega)) (by omega) ?_
    refine Ey.br rfl (fun c => absurd c c0) (fun _ => ?_)
    refine Ey.p rfl ?_
    refine Ey.p rfl ?_
    refine Ey.p rfl ?_
    refine Ey.xw (Rc := rm 7 5 28) (ct_La_tool (p := true) hfl hA (rm_ok _ _ _)) rfl wkLa_tool lwLa_tool rfl (show (parseMethodDescriptor mLa_tool.2.1.desc).map (fun d => d.parameters.length) = some 4 by decide +kernel) rfl ⟨Nat.le_of_ble_eq_true rfl, Nat.le_of_ble_eq_true rfl⟩ (Nat.le_of_ble_eq_true rfl) (by dsimp only [rm]; omega) (by dsimp only [rm]; omega) (fun v S1 f1 hq => ?_)
    obtain ⟨kv, w, rfl, hA1, hf1, hQ⟩ := ar_iq hq (fun y hy => aTool_v hy)
    refine Ey.p rfl ?_
    refine Ey.p rfl ?_
    refine Ey.p rfl ?_
    refine Ey.p rfl ?_
    refine Ey.p rfl ?_
    refine Ey.p rfl ?_
    refine Ey.sld rfl (six 1 (by omega)) (by omega) ?_
    refine Ey.p rfl ?_
    refine Ey.p rfl ?_
    refine Ey.p rfl ?_
    refine Ey.p rfl ?_
    refine Ey.p rfl ?_
    refine Ey.p rfl ?_
    refine Ey.p rfl ?_
    refine Ey.sld rfl (six 2 (by omega)) (by omega) ?_
    refine Ey.p rfl ?_
    refine Ey.ldc2 rfl ?_
    refine Ey.p rfl ?_
    refine Ey.p rfl ?_
    refine Ey.p rfl ?_
    refine Ey.p rfl ?_
    refine Ey.p rfl ?_
    refine Ey.p rfl ?_
    refine Ey.sld rfl (six 3 (by omega)) (by omega) ?_
    refine Ey.br rfl (fun c => absurd c c0) (fun _ => ?_)
    refine Ey.p rfl ?_
    refine Ey.p rfl ?_
    refine Ey.mv (Rc := rm 1 0 0) (mo_at hM) (ct_Mo_tool (p := true) hM (rm_ok _ _ _)) rfl lk_13_69 lcMo_tool rfl rfl ⟨Nat.le_of_ble_eq_true rfl, Nat.le_of_ble_eq_true rfl⟩ (Nat.le_of_ble_eq_true rfl) (by dsimp only [rm]; omega) (by dsimp only [rm]; omega) (fun v S2 hq2 => ?_)
    obtain ⟨rfl, hM1⟩ := hQ hq2
    refine Ey.p rfl ?_
    refine Ey.p rfl ?_
    refine Ey.mv (Rc := rm 0 0 0) (mo_at hM1) (ct_Mo_thr hM1) rfl lk_13_70 lcMo_thrown rfl rfl ⟨Nat.le_of_ble_eq_true rfl, Nat.le_of_ble_eq_true rfl⟩ (Nat.le_of_ble_eq_true rfl) (by dsimp only [rm]; omega) (by dsimp only [rm]; omega) (fun v S3 hq3 => ?_)
    obtain ⟨rfl, hM2⟩ := hq3
    refine Ey.p rfl ?_
    refine Ey.br rfl (fun _ => ?_) (fun c => absurd rfl c)
    refine Ey.p rfl ?_
    refine Ey.br rfl (fun c => ?_) (fun c => ?_)
    · refine Ey.p rfl ?_
      refine Ey.tab (tb' := []) (fun q h => absurd h List.not_mem_nil) (tail _ _ _ _ _ _ _ hA1 hM2 hz.tool (by dsimp only [rm]; omega) (by dsimp only [rm]; omega) _ (fun q h => ?_))
      simp only [List.mem_cons, List.not_mem_nil, or_false] at h
      rcases h with rfl | rfl | rfl | rfl | rfl <;> simp [xs1, xs2, lv_args, Value.category]
    · have c : ¬ ¬ kv = 0 := c
      have c := Decidable.not_not.mp c
      refine Ey.p rfl ?_
      refine Ey.p rfl ?_
      refine Ey.lal 2 0 0 rfl rfl rfl rfl (by decide) ?_
      rw [hf1 c]
      refine Ey.p rfl ?_
      refine Ey.p rfl ?_
      refine Ey.p rfl ?_
      refine Ey.br rfl (fun _ => ?_) (fun c2 => absurd (lg_self _) c2)
      refine Ey.p rfl ?_
      refine Ey.tab (tb' := []) (fun q h => absurd h List.not_mem_nil) (tail _ _ _ _ _ _ _ hA1 hM2 hz.tool (by dsimp only [rm]; omega) (by dsimp only [rm]; omega) _ (fun q h => ?_))
      simp only [List.mem_cons, List.not_mem_nil, or_false] at h
      rcases h with rfl | rfl | rfl | rfl | rfl <;> simp [xs1, xs2, lv_args, Value.category]

/-! the law: cases -/
theorem law_unit {X : xX} {l : Launch} {D : xD} {A : Nat → Prop} {a m o i : Nat} {z : SD} {th : Int32} {SA SM : List va_W} {f0 : Nat → Int64} {k n : Nat} (hfl : l.flags = pinnedFlags ++ [noTraceFlag]) (hA : IsDa D a z SA) (hM : IsMo D m z th SM) (hz : ZN z) (hi : i + 10 ≤ X.2.1) (hL : X.2.1 ≤ 5120) (hk : k + 1000 ≤ 601024) (hn : n + 14000 ≤ 7293034) (tail : LTail X l D A a m o i k n) : Ey X l (mL tbL_unit) D room_1 A (xQ D A lawQ) 601024 7293034 728 [(4, Value.int (nI i)), (3, .ref o), (2, .ref m), (1, .ref a), (0, .ref X.1)] [] [SA.flatten, SM.flatten, oA D o f0] k n := by
  refine Ey.p rfl ?_
  refine Ey.p rfl ?_
  refine Ey.p rfl ?_
  refine Ey.p rfl ?_
  refine Ey.p rfl ?_
  refine Ey.sld rfl (six 1 (by omega)) (by omega) ?_
  refine Ey.xv (Rc := rm 3 1 4000) (da_at hA) (ct_Da_unit hA (rm_ok _ _ _)) rfl lk_13_86 lcDa_unit rfl rfl ⟨Nat.le_of_ble_eq_true rfl, Nat.le_of_ble_eq_true rfl⟩ (Nat.le_of_ble_eq_true rfl) (by dsimp only [rm]; omega) (by dsimp only [rm]; omega) (fun v S1 hq => ?_)
  obtain ⟨w, rfl, hA1, hQ⟩ := ar_dq hq (fun y hy => aUnit_v hy)
  refine Ey.p rfl ?_
  refine Ey.p rfl ?_
  refine Ey.p rfl ?_
  refine Ey.p rfl ?_
  refine Ey.p rfl ?_
  refine Ey.sld rfl (six 1 (by omega)) (by omega) ?_
  refine Ey.mv (Rc := rm 0 0 0) (mo_at hM) (ct_Mo_unit hM) rfl lk_13_89 lcMo_unit rfl rfl ⟨Nat.le_of_ble_eq_true rfl, Nat.le_of_ble_eq_true rfl⟩ (Nat.le_of_ble_eq_true rfl) (by dsimp only [rm]; omega) (by dsimp only [rm]; omega) (fun v S2 hq2 => ?_)
  obtain ⟨rfl, hM1⟩ := hQ hq2
  refine Ey.br rfl (fun _ => ?_) (fun c => absurd rfl c)
  refine Ey.tab (tb' := []) (fun q h => absurd h List.not_mem_nil) (tail _ _ _ _ _ _ _ hA1 hM1 hz.unit (by dsimp only [rm]; omega) (by dsimp only [rm]; omega) _ (fun q h => ?_))
  simp only [List.mem_cons, List.not_mem_nil, or_false] at h
  rcases h with rfl | rfl | rfl | rfl | rfl <;> simp [xs1, xs2, lv_args, Value.category]
theorem law_feed {X : xX} {l : Launch} {D : xD} {A : Nat → Prop} {a m o i : Nat} {z : SD} {th : Int32} {SA SM : List va_W} {f0 : Nat → Int64} {k n : Nat} (hfl : l.flags = pinnedFlags ++ [noTraceFlag]) (hA : IsDa D a z SA) (hM : IsMo D m z th SM) (hz : ZN z) (hi : i + 10 ≤ X.2.1) (hL : X.2.1 ≤ 5120) (hk : k + 1000 ≤ 601024) (hn : n + 14000 ≤ 7293034) (tail : LTail X l D A a m o i k n) : Ey X l (mL tbL_feed) D room_1 A (xQ D A lawQ) 601024 7293034 1206 [(4, Value.int (nI i)), (3, .ref o), (2, .ref m), (1, .ref a), (0, .ref X.1)] [] [SA.flatten, SM.flatten, oA D o f0] k n := by
  refine Ey.p rfl ?_
  refine Ey.p rfl ?_
  refine Ey.p rfl ?_
  refine Ey.p rfl ?_
  refine Ey.p rfl ?_
  refine Ey.sld rfl (six 1 (by omega)) (by omega) ?_
  refine Ey.xv (Rc := rm 3 1 5200) (da_at hA) (ct_Da_feed hA (rm_ok _ _ _)) rfl lk_13_116 lcDa_feed rfl rfl ⟨Nat.le_of_ble_eq_true rfl, Nat.le_of_ble_eq_true rfl⟩ (Nat.le_of_ble_eq_true rfl) (by dsimp only [rm]; omega) (by dsimp only [rm]; omega) (fun v S1 hq => ?_)
  obtain ⟨w, rfl, hA1, hQ⟩ := ar_dq hq (fun y hy => aFeed_v hy)
  refine Ey.p rfl ?_
  refine Ey.p rfl ?_
  refine Ey.p rfl ?_
  refine Ey.p rfl ?_
  refine Ey.p rfl ?_
  refine Ey.sld rfl (six 1 (by omega)) (by omega) ?_
  refine Ey.mv (Rc := rm 1 0 0) (mo_at hM) (ct_Mo_feed hM (rm_ok _ _ _)) rfl lk_13_119 lcMo_feed rfl rfl ⟨Nat.le_of_ble_eq_true rfl, Nat.le_of_ble_eq_true rfl⟩ (Nat.le_of_ble_eq_true rfl) (by dsimp only [rm]; omega) (by dsimp only [rm]; omega) (fun v S2 hq2 => ?_)
  obtain ⟨rfl, hM1⟩ := hQ hq2
  refine Ey.br rfl (fun _ => ?_) (fun c => absurd rfl c)
  refine Ey.tab (tb' := []) (fun q h => absurd h List.not_mem_nil) (tail _ _ _ _ _ _ _ hA1 hM1 hz.feed (by dsimp only [rm]; omega) (by dsimp only [rm]; omega) _ (fun q h => ?_))
  simp only [List.mem_cons, List.not_mem_nil, or_false] at h
  rcases h with rfl | rfl | rfl | rfl | rfl <;> simp [xs1, xs2, lv_args, Value.category]
theorem law_read {X : xX} {l : Launch} {D : xD} {A : Nat → Prop} {a m o i : Nat} {z : SD} {th : Int32} {SA SM : List va_W} {f0 : Nat → Int64} {k n : Nat} (hfl : l.flags = pinnedFlags ++ [noTraceFlag]) (hA : IsDa D a z SA) (hM : IsMo D m z th SM) (hz : ZN z) (hi : i + 10 ≤ X.2.1) (hL : X.2.1 ≤ 5120) (hk : k + 1000 ≤ 601024) (hn : n + 14000 ≤ 7293034) (tail : LTail X l D A a m o i k n) : Ey X l (mL tbL_read) D room_1 A (xQ D A lawQ) 601024 7293034 753 [(4, Value.int (nI i)), (3, .ref o), (2, .ref m), (1, .ref a), (0, .ref X.1)] [] [SA.flatten, SM.flatten, oA D o f0] k n := by
  refine Ey.p rfl ?_
  refine Ey.xv (Rc := rm 8 547 8138) (da_at hA) (ct_Da_read hA (rm_ok _ _ _)) rfl lk_13_90 lcDa_read rfl rfl ⟨Nat.le_of_ble_eq_true rfl, Nat.le_of_ble_eq_true rfl⟩ (Nat.le_of_ble_eq_true rfl) (by dsimp only [rm]; omega) (by dsimp only [rm]; omega) (fun v S1 hq => ?_)
  obtain ⟨r, hR, hq⟩ := hq
  cases r with
  | inl p =>
    obtain ⟨rfl, hA1⟩ := hq
    refine Ey.p rfl ?_
    refine Ey.mv (Rc := rm 7 0 0) (mo_at hM) (ct_Mo_read hM (rm_ok _ _ _)) rfl lk_13_93 lcMo_read rfl rfl ⟨Nat.le_of_ble_eq_true rfl, Nat.le_of_ble_eq_true rfl⟩ (Nat.le_of_ble_eq_true rfl) (by dsimp only [rm]; omega) (by dsimp only [rm]; omega) (fun v S2 hq2 => ?_)
    obtain ⟨r2, hR2, hq2⟩ := hq2
    have er := Rn.uniq hR hR2
    subst er
    obtain ⟨rfl, hM1⟩ := hq2
    refine Ey.br rfl (fun _ => ?_) (fun c => absurd rfl c)
    refine Ey.tab (tb' := []) (fun q h => absurd h List.not_mem_nil) (tail _ _ _ _ _ _ _ hA1 hM1 hz (by dsimp only [rm]; omega) (by dsimp only [rm]; omega) _ (fun q h => ?_))
    simp only [List.mem_cons, List.not_mem_nil, or_false] at h
    rcases h with rfl | rfl | rfl | rfl | rfl <;> simp [xs1, xs2, lv_args, Value.category]
  | inr q =>
    obtain ⟨rfl, hA1⟩ := hq
    refine Ey.p rfl ?_
    refine Ey.mv (Rc := rm 7 0 0) (mo_at hM) (ct_Mo_read hM (rm_ok _ _ _)) rfl lk_13_93 lcMo_read rfl rfl ⟨Nat.le_of_ble_eq_true rfl, Nat.le_of_ble_eq_true rfl⟩ (Nat.le_of_ble_eq_true rfl) (by dsimp only [rm]; omega) (by dsimp only [rm]; omega) (fun v S2 hq2 => ?_)
    obtain ⟨r2, hR2, hq2⟩ := hq2
    have er := Rn.uniq hR hR2
    subst er
    obtain ⟨rfl, hM1⟩ := hq2
    refine Ey.br rfl (fun _ => ?_) (fun c => absurd rfl c)
    refine Ey.tab (tb' := []) (fun q h => absurd h List.not_mem_nil) (tail _ _ _ _ _ _ _ hA1 hM1 hz (by dsimp only [rm]; omega) (by dsimp only [rm]; omega) _ (fun q h => ?_))
    simp only [List.mem_cons, List.not_mem_nil, or_false] at h
    rcases h with rfl | rfl | rfl | rfl | rfl <;> simp [xs1, xs2, lv_args, Value.category]
theorem law_open {X : xX} {l : Launch} {D : xD} {A : Nat → Prop} {a m o i : Nat} {z : SD} {th : Int32} {SA SM : List va_W} {f0 : Nat → Int64} {k n : Nat} (hfl : l.flags = pinnedFlags ++ [noTraceFlag]) (hA : IsDa D a z SA) (hM : IsMo D m z th SM) (hz : ZN z) (hi : i + 10 ≤ X.2.1) (hL : X.2.1 ≤ 5120) (hk : k + 1000 ≤ 601024) (hn : n + 14000 ≤ 7293034) (tail : LTail X l D A a m o i k n) : Ey X l (mL tbL_open) D room_1 A (xQ D A lawQ) 601024 7293034 1231 [(4, Value.int (nI i)), (3, .ref o), (2, .ref m), (1, .ref a), (0, .ref X.1)] [] [SA.flatten, SM.flatten, oA D o f0] k n := by
  refine Ey.p rfl ?_
  refine Ey.xv (Rc := rm 6 642 9610) (da_at hA) (ct_Da_open hA (rm_ok _ _ _)) rfl lk_13_120 lcDa_open rfl rfl ⟨Nat.le_of_ble_eq_true rfl, Nat.le_of_ble_eq_true rfl⟩ (Nat.le_of_ble_eq_true rfl) (by dsimp only [rm]; omega) (by dsimp only [rm]; omega) (fun v S1 hq => ?_)
  obtain ⟨w, rfl, hA1, hQ⟩ := ar_dq hq (fun y hy => aOpn_v hy)
  refine Ey.p rfl ?_
  refine Ey.mv (Rc := rm 1 0 0) (mo_at hM) (ct_Mo_open hM (rm_ok _ _ _)) rfl lk_13_123 lcMo_open rfl rfl ⟨Nat.le_of_ble_eq_true rfl, Nat.le_of_ble_eq_true rfl⟩ (Nat.le_of_ble_eq_true rfl) (by dsimp only [rm]; omega) (by dsimp only [rm]; omega) (fun v S2 hq2 => ?_)
  obtain ⟨rfl, hM1⟩ := hQ hq2
  refine Ey.br rfl (fun _ => ?_) (fun c => absurd rfl c)
  refine Ey.tab (tb' := []) (fun q h => absurd h List.not_mem_nil) (tail _ _ _ _ _ _ _ hA1 hM1 hz.opn (by dsimp only [rm]; omega) (by dsimp only [rm]; omega) _ (fun q h => ?_))
  simp only [List.mem_cons, List.not_mem_nil, or_false] at h
  rcases h with rfl | rfl | rfl | rfl | rfl <;> simp [xs1, xs2, lv_args, Value.category]
theorem law_agrees {X : xX} {l : Launch} {D : xD} {A : Nat → Prop} {a m o i : Nat} {z : SD} {th : Int32} {SA SM : List va_W} {f0 : Nat → Int64} {k n : Nat} (hfl : l.flags = pinnedFlags ++ [noTraceFlag]) (hA : IsDa D a z SA) (hM : IsMo D m z th SM) (hz : ZN z) (hi : i + 10 ≤ X.2.1) (hL : X.2.1 ≤ 5120) (hk : k + 1000 ≤ 601024) (hn : n + 14000 ≤ 7293034) (tail : LTail X l D A a m o i k n) : Ey X l (mL tbL_agrees) D room_1 A (xQ D A lawQ) 601024 7293034 1244 [(4, Value.int (nI i)), (3, .ref o), (2, .ref m), (1, .ref a), (0, .ref X.1)] [] [SA.flatten, SM.flatten, oA D o f0] k n := by
  refine Ey.p rfl ?_
  refine Ey.xv (Rc := rm 9 786 12580) (da_at hA) (ct_Da_agrees hA (rm_ok _ _ _)) rfl lk_13_124 lcDa_agrees rfl rfl ⟨Nat.le_of_ble_eq_true rfl, Nat.le_of_ble_eq_true rfl⟩ (Nat.le_of_ble_eq_true rfl) (by dsimp only [rm]; omega) (by dsimp only [rm]; omega) (fun v S1 hq => ?_)
  obtain ⟨w, rfl, hA1, hQ⟩ := ar_dq hq (fun y hy => aAgree_v hy)
  refine Ey.p rfl ?_
  refine Ey.mv (Rc := rm 7 0 0) (mo_at hM) (ct_Mo_agrees hM (da_ok hA).1 (da_ok hA).2 hz (rm_ok _ _ _)) rfl lk_13_128 lcMo_agrees rfl rfl ⟨Nat.le_of_ble_eq_true rfl, Nat.le_of_ble_eq_true rfl⟩ (Nat.le_of_ble_eq_true rfl) (by dsimp only [rm]; omega) (by dsimp only [rm]; omega) (fun v S2 hq2 => ?_)
  obtain ⟨rfl, hM1⟩ := hQ hq2
  refine Ey.br rfl (fun _ => ?_) (fun c => absurd rfl c)
  refine Ey.tab (tb' := []) (fun q h => absurd h List.not_mem_nil) (tail _ _ _ _ _ _ _ hA1 hM1 hz.agree (by dsimp only [rm]; omega) (by dsimp only [rm]; omega) _ (fun q h => ?_))
  simp only [List.mem_cons, List.not_mem_nil, or_false] at h
  rcases h with rfl | rfl | rfl | rfl | rfl <;> simp [xs1, xs2, lv_args, Value.category]
theorem law_told {X : xX} {l : Launch} {D : xD} {A : Nat → Prop} {a m o i : Nat} {z : SD} {th : Int32} {SA SM : List va_W} {f0 : Nat → Int64} {k n : Nat} (hfl : l.flags = pinnedFlags ++ [noTraceFlag]) (hA : IsDa D a z SA) (hM : IsMo D m z th SM) (hz : ZN z) (hi : i + 10 ≤ X.2.1) (hL : X.2.1 ≤ 5120) (hk : k + 1000 ≤ 601024) (hn : n + 14000 ≤ 7293034) (tail : LTail X l D A a m o i k n) : Ey X l (mL tbL_told) D room_1 A (xQ D A lawQ) 601024 7293034 1257 [(4, Value.int (nI i)), (3, .ref o), (2, .ref m), (1, .ref a), (0, .ref X.1)] [] [SA.flatten, SM.flatten, oA D o f0] k n := by
  refine Ey.p rfl ?_
  refine Ey.p rfl ?_
  refine Ey.p rfl ?_
  refine Ey.p rfl ?_
  refine Ey.p rfl ?_
  refine Ey.sld rfl (six 1 (by omega)) (by omega) ?_
  refine Ey.xv (Rc := rm 8 786 12580) (da_at hA) (ct_Da_told hA (rm_ok _ _ _)) rfl lk_13_129 lcDa_told rfl rfl ⟨Nat.le_of_ble_eq_true rfl, Nat.le_of_ble_eq_true rfl⟩ (Nat.le_of_ble_eq_true rfl) (by dsimp only [rm]; omega) (by dsimp only [rm]; omega) (fun v S1 hq => ?_)
  obtain ⟨w, rfl, hA1, hQ⟩ := ar_dq hq (fun y hy => aTold_v hy)
  refine Ey.p rfl ?_
  refine Ey.p rfl ?_
  refine Ey.p rfl ?_
  refine Ey.p rfl ?_
  refine Ey.p rfl ?_
  refine Ey.sld rfl (six 1 (by omega)) (by omega) ?_
  refine Ey.mv (Rc := rm 7 0 0) (mo_at hM) (ct_Mo_told hM (da_ok hA).1 (da_ok hA).2 (rm_ok _ _ _)) rfl lk_13_132 lcMo_told rfl rfl ⟨Nat.le_of_ble_eq_true rfl, Nat.le_of_ble_eq_true rfl⟩ (Nat.le_of_ble_eq_true rfl) (by dsimp only [rm]; omega) (by dsimp only [rm]; omega) (fun v S2 hq2 => ?_)
  obtain ⟨rfl, hM1⟩ := hQ hq2
  refine Ey.br rfl (fun _ => ?_) (fun c => absurd rfl c)
  refine Ey.tab (tb' := []) (fun q h => absurd h List.not_mem_nil) (tail _ _ _ _ _ _ _ hA1 hM1 hz.told (by dsimp only [rm]; omega) (by dsimp only [rm]; omega) _ (fun q h => ?_))
  simp only [List.mem_cons, List.not_mem_nil, or_false] at h
  rcases h with rfl | rfl | rfl | rfl | rfl <;> simp [xs1, xs2, lv_args, Value.category]
theorem law_clear {X : xX} {l : Launch} {D : xD} {A : Nat → Prop} {a m o i : Nat} {z : SD} {th : Int32} {SA SM : List va_W} {f0 : Nat → Int64} {k n : Nat} (hfl : l.flags = pinnedFlags ++ [noTraceFlag]) (hA : IsDa D a z SA) (hM : IsMo D m z th SM) (hz : ZN z) (hi : i + 10 ≤ X.2.1) (hL : X.2.1 ≤ 5120) (hk : k + 1000 ≤ 601024) (hn : n + 14000 ≤ 7293034) (tail : LTail X l D A a m o i k n) : Ey X l (mL tbL_clear) D room_1 A (xQ D A lawQ) 601024 7293034 1337 [(4, Value.int (nI i)), (3, .ref o), (2, .ref m), (1, .ref a), (0, .ref X.1)] [] [SA.flatten, SM.flatten, oA D o f0] k n := by
  refine Ey.p rfl ?_
  refine Ey.xv (Rc := rm 2 5 84) (da_at hA) (ct_Da_clear hA (rm_ok _ _ _)) rfl lk_13_136 lcDa_clear rfl rfl ⟨Nat.le_of_ble_eq_true rfl, Nat.le_of_ble_eq_true rfl⟩ (Nat.le_of_ble_eq_true rfl) (by dsimp only [rm]; omega) (by dsimp only [rm]; omega) (fun v S1 hq => ?_)
  obtain ⟨rfl, hA1⟩ := hq
  refine Ey.p rfl ?_
  refine Ey.mv (Rc := rm 0 0 0) (mo_at hM) (ct_Mo_clear hM) rfl lk_13_139 lcMo_clear rfl rfl ⟨Nat.le_of_ble_eq_true rfl, Nat.le_of_ble_eq_true rfl⟩ (Nat.le_of_ble_eq_true rfl) (by dsimp only [rm]; omega) (by dsimp only [rm]; omega) (fun v S2 hq2 => ?_)
  obtain ⟨rfl, hM1⟩ := hq2
  refine Ey.p rfl ?_
  refine Ey.tab (tb' := []) (fun q h => absurd h List.not_mem_nil) (tail _ _ _ _ _ _ _ hA1 hM1 ZN.nil (by dsimp only [rm]; omega) (by dsimp only [rm]; omega) _ (fun q h => ?_))
  simp only [List.mem_cons, List.not_mem_nil, or_false] at h
  rcases h with rfl | rfl | rfl | rfl | rfl <;> simp [xs1, xs2, lv_args, Value.category]

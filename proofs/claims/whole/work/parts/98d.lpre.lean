/-! the law: what its cases share -/
theorem lg_self (w : Int64) : lg_cmp w w = 0 := by rw [lg_cmp_eq]
theorem lgz_t : lg_cmp (b32 true).toInt64 1 = 0 := by rw [lg_cmp_eq]; decide
theorem lgz_f : lg_cmp (b32 false).toInt64 0 = 0 := by rw [lg_cmp_eq]; decide
def lawQ (v : Option Value) (_ : List va_W) : Prop := v = some (.int 1)
/-- the way on behind a case -/
def LTail (X : xX) (l : Launch) (D : xD) (A : Nat → Prop) (a m o i k n : Nat) : Prop := ∀ (z : SD) (th : Int32) (SA SM : List va_W) (f : Nat → Int64) (k' n' : Nat), IsDa D a z SA → IsMo D m z th SM → ZN z → k' ≤ k + 1000 → n' ≤ n + 14000 → ∀ lv : List (Nat × Value), (∀ q ∈ [(4, Value.int (nI i)), (3, .ref o), (2, .ref m), (1, .ref a), (0, .ref X.1)], q ∈ lv) → Ey X l (mL []) D room_1 A (xQ D A lawQ) 601024 7293034 1348 lv [] [SA.flatten, SM.flatten, oA D o f] k' n'
theorem ar_iq {r : AR} {D : xD} {a o : Nat} {v : Option Value} {S1 : List va_W} {f1 : Nat → Int64} (hq : WQ D a o r v (oA D o f1 :: S1)) (hv : ∀ y, r.1 = .inr y → ∃ w : Int32, y = .int w) : ∃ kv w : Int32, v = some (.int kv) ∧ IsDa D a r.2 S1 ∧ (kv = 0 → f1 0 = w.toInt64) ∧ ∀ {D : xD} {m : Nat} {v : Option Value} {S : List va_W}, QM D m (.int 0) r v S → v = some (.int w) ∧ IsMo D m r.2 kv S := by
  obtain ⟨kv, w, h1, h2⟩ := ar_i hv
  obtain ⟨h3, h4, h5⟩ := h1 hq
  exact ⟨kv, w, h3, h4, h5, h2⟩
theorem ar_lq {r : AR} {D : xD} {a o : Nat} {v : Option Value} {S1 : List va_W} {f1 : Nat → Int64} (hq : WQ D a o r v (oA D o f1 :: S1)) (hv : ∀ y, r.1 = .inr y → ∃ w : Int64, y = .long w) : ∃ (kv : Int32) (w : Int64), v = some (.int kv) ∧ IsDa D a r.2 S1 ∧ (kv = 0 → f1 0 = w) ∧ ∀ {D : xD} {m : Nat} {v : Option Value} {S : List va_W}, QM D m (.long 0) r v S → v = some (.long w) ∧ IsMo D m r.2 kv S := by
  obtain ⟨kv, w, h1, h2⟩ := ar_l hv
  obtain ⟨h3, h4, h5⟩ := h1 hq
  exact ⟨kv, w, h3, h4, h5, h2⟩
theorem ar_zq {r : AR} {D : xD} {a o : Nat} {v : Option Value} {S1 : List va_W} {f1 : Nat → Int64} (hq : WQ D a o r v (oA D o f1 :: S1)) (hv : ∀ y, r.1 = .inr y → ∃ w : Bool, y = .int (b32 w)) : ∃ (kv : Int32) (w : Bool), v = some (.int kv) ∧ IsDa D a r.2 S1 ∧ (kv = 0 → f1 0 = (b32 w).toInt64) ∧ ∀ {D : xD} {m : Nat} {v : Option Value} {S : List va_W}, QM D m (.int 0) r v S → v = some (.int (b32 w)) ∧ IsMo D m r.2 kv S := by
  obtain ⟨kv, w, h1, h2⟩ := ar_z hv
  obtain ⟨h3, h4, h5⟩ := h1 hq
  exact ⟨kv, w, h3, h4, h5, h2⟩
theorem ar_dq {r : AR} {D : xD} {a : Nat} {v : Option Value} {S1 : List va_W} (hq : QR D a r v S1) (hv : ∀ y, r.1 = .inr y → ∃ w : Int32, y = .int w) : ∃ w : Int32, v = some (.int w) ∧ IsDa D a r.2 S1 ∧ ∀ {D : xD} {m : Nat} {v : Option Value} {S : List va_W}, QM D m (.int 0) r v S → v = some (.int w) ∧ IsMo D m r.2 0 S := by
  obtain ⟨y, h1, h2, h3⟩ := hq
  obtain ⟨w, rfl⟩ := hv y h1
  refine ⟨w, h2, h3, ?_⟩
  intro D m v S h
  unfold QM at h
  rw [h1] at h
  exact h
theorem aUnit_v {z : SD} {u : Int32} {v : Value} (h : (aUnit z u).1 = .inr v) : ∃ i : Int32, v = .int i := by
  unfold aUnit at h
  repeat' (split at h)
  all_goals (cases h)
  all_goals (exact ⟨_, rfl⟩)
theorem aFeed_v {z : SD} {u : Int32} {v : Value} (h : (aFeed z u).1 = .inr v) : ∃ i : Int32, v = .int i := by
  unfold aFeed at h
  repeat' (split at h)
  all_goals (cases h)
  all_goals (exact ⟨_, rfl⟩)
theorem aOpn_v {z : SD} {v : Value} (h : (aOpn z).1 = .inr v) : ∃ i : Int32, v = .int i := by
  unfold aOpn at h
  repeat' (split at h)
  all_goals (cases h)
  all_goals (exact ⟨_, rfl⟩)
theorem aTold_v {z : SD} {k : Int32} {v : Value} (h : (aTold z k).1 = .inr v) : ∃ i : Int32, v = .int i := by
  unfold aTold at h
  cases h
  exact ⟨_, rfl⟩
theorem aAgree_v {z : SD} {v : Value} (h : (aAgree z).1 = .inr v) : ∃ i : Int32, v = .int i := by
  unfold aAgree at h
  cases h
  exact ⟨_, rfl⟩

/-! StoredFile: a role, bytes, their sum -/
def fsumA (v : Nat) : Nat → List Nat → Nat
  | _, [] => v
  | k, b :: bs => fsumA ((v + b * (k + 1)) % 65521) (k + 1) bs
/-- the sum of bytes, each times its place -/
def fsum (bs : List Nat) : Nat := fsumA 0 0 bs
theorem fsumA_snoc : ∀ (bs : List Nat) (v k b : Nat), fsumA v k (bs ++ [b]) = (fsumA v k bs + b * (k + bs.length + 1)) % 65521
  | [], v, k, b => rfl
  | x :: bs, v, k, b => by
    show fsumA ((v + x * (k + 1)) % 65521) (k + 1) (bs ++ [b]) = (fsumA ((v + x * (k + 1)) % 65521) (k + 1) bs + b * (k + (bs.length + 1) + 1)) % 65521
    rw [fsumA_snoc bs, show k + 1 + bs.length + 1 = k + (bs.length + 1) + 1 by omega]
theorem fsum_snoc (bs : List Nat) (b : Nat) : fsum (bs ++ [b]) = (fsum bs + b * (bs.length + 1)) % 65521 := by
  unfold fsum
  rw [fsumA_snoc, Nat.zero_add]
theorem fsumA_lt : ∀ (bs : List Nat) (v k : Nat), v < 65521 → fsumA v k bs < 65521
  | [], _, _, h => h
  | _ :: bs, _, _, _ => fsumA_lt bs _ _ (Nat.mod_lt _ (by decide))
theorem fsum_lt (bs : List Nat) : fsum bs < 65521 := fsumA_lt bs 0 0 (by decide)
def IsFile (D : xD) (a role : Nat) (bs : List Nat) (cap : Nat) (C : va_W) : Prop :=
  ∃ (rb : Nat) (Cb : va_W), C = (a, .inr (6, [.int (nI role), .ref rb, .int (nI (fsum bs))])) :: Cb ∧ IsRow D rb 300 cap (bs.map nI) Cb ∧ role < 8 ∧ ∀ b ∈ bs, b < 256
/-- a file's part of an archive -/
def fbytes (role : Nat) (bs : List Nat) : List Nat := role :: bs.length % 256 :: bs.length / 256 :: (bs ++ [fsum bs % 256, fsum bs / 256])
section SF
variable {l : Launch} {D : xD} {R : Room}
theorem ct_Sf_init {a role : Nat} (hro : role < 8) (hr : rmOk R 2 2 11) : Ct l mSf_init D R [.ref a, .int (nI role)] [[(a, .inr (6, gdf 6))]] (fun v S => v = none ∧ ∃ C, S = [C] ∧ IsFile D a role [] 8 C) := by
  obtain ⟨r1, r2, r3, r4⟩ := hr
  refine Ct.of rfl (by decide) tkSf_init (Nat.le_of_ble_eq_true rfl) (fun A => ?_)
  refine Ex.p rfl ?_
  refine Ex.oi rfl lk_6_3 (by omega) (by simp; omega) ?_
  refine Ex.p rfl ?_
  refine Ex.new (ci := 5) (N := 3) rfl rfl (by omega) (by omega) (fun q => ?_)
  refine Ex.p rfl ?_
  refine Ex.p rfl ?_
  refine Ex.ci (Mc := mRo_init) (Rc := rm 1 1 8) (As := [.int (nI 300)]) (rest := [.ref q, .ref a]) (Sr := [[(a, .inr (6, gdf 6))]]) [1] [0] (ct_Ro_init (by decide) (Nat.le_refl _) (by decide) (Nat.le_refl _) (Nat.le_refl _)) rfl lk_6_11 lcRo_init rfl rfl rfl rfl rfl (by decide) ⟨r1, by show 8 + (2 + 11) + 40 ≤ R.locals; omega⟩ (Nat.le_of_ble_eq_true rfl) (by dsimp only [rm]; omega) (by dsimp only [rm]; omega) ?_
  rintro v S1 ⟨rfl, C1, rfl, hC1⟩
  refine Ex.pfF 0 0 rfl rfl rfl rfl rfl rfl rfl rfl ?_
  refine Ex.p rfl ?_
  refine Ex.p rfl ?_
  refine Ex.pfF 0 0 rfl rfl rfl rfl rfl rfl rfl rfl ?_
  refine Ex.vret (S' := [(a, .inr (6, [.int (nI role), .ref q, .int (nI 0)])) :: C1]) rfl rfl (by dsimp only [rm]; omega) (by dsimp only [rm]; omega) ?_ ⟨rfl, _, rfl, q, C1, rfl, hC1, hro, fun b h => by simp at h⟩
  simp
  rfl
theorem ct_Sf_push {a role cap b : Nat} {bs : List Nat} {C : va_W} (h : IsFile D a role bs cap C) (hb : b < 256) (hr : rmOk R 3 ((rcap cap bs.length - cap) / 8) (2 * (rcap cap bs.length - cap))) : Ct l mSf_push D R [.ref a, .int (nI b)] [C] (fun v S => (300 ≤ bs.length ∧ v = some (.int 0) ∧ S = [C]) ∨ (bs.length < 300 ∧ v = some (.int 1) ∧ ∃ C', S = [C'] ∧ IsFile D a role (bs ++ [b]) (rcap cap bs.length) C')) := by
  obtain ⟨rb, Cb, rfl, hrow, hro, hbs⟩ := h
  obtain ⟨r1, r2, r3, r4⟩ := hr
  have hg := rcap_ge cap bs.length
  have hfs := fsum_lt bs
  have hlen : (bs.map nI).length = bs.length := by simp
  refine Ct.of rfl (by decide) tkSf_push (Nat.le_of_ble_eq_true rfl) (fun A => ?_)
  refine Ex.seg (S' := [[(a, .inr (6, [.int (nI role), .ref rb, .int (nI (fsum bs))]))], Cb]) (by simp) ?_
  repeat (first | refine Ex.p rfl ?_ | refine Ex.ldc rfl ?_ | refine Ex.ldc2 rfl ?_ | refine Ex.gf 0 0 rfl rfl rfl ?_)
  obtain ⟨arr, f, eC, w1, w2, w3, w4, w5, w6⟩ := id hrow
  rw [hlen] at w1 w2
  refine Ex.cv (Mc := mRo_push) (Rc := rm 2 ((rcap cap bs.length - cap) / 8) (2 * (rcap cap bs.length - cap))) (As := [.int (nI b)]) (rest := []) (Sr := [[(a, .inr (6, [.int (nI role), .ref rb, .int (nI (fsum bs))]))]]) (ic := 1) (jc := 0) (ci := 5) [1] [0] (ct_Ro_push hrow (Nat.le_refl _) (by show 62 ≤ 40 * 2; decide) (by
    rw [hlen]
    by_cases q : bs.length < cap
    · exact Or.inr (Or.inl q)
    · refine Or.inr (Or.inr ?_)
      rw [rcap, if_neg q]
      dsimp only [rm]
      omega)) rfl lk_6_24 lcRo_push rfl rfl rfl rfl rfl (by decide) rfl (by rw [eC]; rfl) rfl (by decide) ⟨r1, by show 8 + (2 + 11) + 80 ≤ R.locals; omega⟩ (Nat.zero_le _) (by dsimp only [rm]; omega) (by dsimp only [rm]; omega) ?_
  rintro v S1 (⟨hlt, rfl, C1, rfl, hC1⟩ | ⟨hge, rfl, rfl⟩)
  · rw [hlen] at hlt hC1
    refine Ex.br rfl (fun _ => ?_) (fun c1 => absurd (by decide) c1)
    obtain ⟨arr2, f2, rfl, -⟩ := id hC1
    repeat (first | refine Ex.p rfl ?_ | refine Ex.ldc rfl ?_ | refine Ex.ldc2 rfl ?_ | refine Ex.gf 0 0 rfl rfl rfl ?_ | refine Ex.gf 1 0 rfl rfl rfl ?_)
    have e1 : nI (fsum bs) + nI b * nI (bs.map nI ++ [nI b]).length = nI (fsum bs + b * (bs.length + 1)) := by
      rw [pk_mul, nI_add]; simp
    rw [e1]
    have hm : b * (bs.length + 1) ≤ 255 * 300 := Nat.mul_le_mul (by omega) (by omega)
    refine Ex.irem rfl (by decide) ?_
    rw [show (65521 : Int32) = nI 65521 from rfl, pk_rem (by omega) (by omega) (by omega), ← fsum_snoc]
    refine Ex.pf 0 0 rfl rfl rfl rfl rfl rfl ?_
    refine Ex.p rfl ?_
    refine Ex.zret (S' := [(a, .inr (6, [.int (nI role), .ref rb, .int (nI (fsum (bs ++ [b])))])) :: sRow D rb arr2 (rcap cap bs.length) f2 300 (bs.map nI ++ [nI b]).length]) rfl rfl (Or.inr rfl) (by dsimp only [rm]; omega) (by dsimp only [rm]; omega) (by simp) (Or.inr ⟨hlt, rfl, _, rfl, rb, _, rfl, by simpa using hC1, hro, ?_⟩)
    intro x hx
    rcases List.mem_append.mp hx with q | q
    · exact hbs x q
    · rw [List.mem_singleton.mp q]; exact hb
  · rw [hlen] at hge
    refine Ex.br rfl (fun c1 => absurd rfl c1) (fun _ => ?_)
    refine Ex.p rfl ?_
    exact Ex.zret (S' := [(a, .inr (6, [.int (nI role), .ref rb, .int (nI (fsum bs))])) :: Cb]) rfl rfl (Or.inl rfl) (by dsimp only [rm]; omega) (by dsimp only [rm]; omega) (by simp) (Or.inl ⟨hge, rfl, rfl⟩)
end SF

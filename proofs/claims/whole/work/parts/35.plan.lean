/-! Planner: its cells, the constructor, gather -/
abbrev ogv : HV := (-1, 0, 0, 0, 0, 0, 0)
abbrev sPl (D : xD) (a og mi dn wy rs : Nat) (fm : Nat → Option Nat) (fd fw fr : Nat → Int32) (cnt lst : Int32) : va_W :=
  [(a, .inr (4, [.ref og, .ref mi, .ref dn, .ref wy, .ref rs, .int cnt, .int lst])), cHit og ogv, (mi, .inl (D.2.2.1 4, 60, .inr (.inr (.inr (.inr fm))))), (dn, .inl (D.2.2.1 1, 60, .inl fd)), (wy, .inl (D.2.2.1 0, 72, .inl fw)), (rs, .inl (D.2.2.1 0, 2048, .inl fr))]
/-- the planner's cells -/
def IsPl (D : xD) (a : Nat) (fm : Nat → Option Nat) (fd fw fr : Nat → Int32) (cnt lst : Int32) (C : va_W) : Prop := ∃ og mi dn wy rs, C = sPl D a og mi dn wy rs fm fd fw fr cnt lst
section PL
variable {l : Launch} {D : xD} {R : Room}
theorem ct_Pl_init {a : Nat} (hr : rmOk R 2 5 2247) : Ct l mPl_init D R [.ref a] [[(a, .inr (4, gdf 4))]] (fun v S => v = none ∧ ∃ C, S = [C] ∧ IsPl D a (fun _ => none) (fun _ => 0) (fun _ => 0) (fun _ => 0) 0 0 C) := by
  obtain ⟨r1, r2, r3, r4⟩ := hr
  refine Ct.of rfl (by decide) tkPl_init (Nat.le_of_ble_eq_true rfl) (fun A => ?_)
  refine Ex.p rfl ?_
  refine Ex.oi rfl lk_4_3 (by omega) (by simp; omega) ?_
  refine Ex.p rfl ?_
  refine Ex.new (ci := 3) (N := 7) rfl rfl (by omega) (by omega) (fun q => ?_)
  refine Ex.p rfl ?_
  refine Ex.p rfl ?_
  refine Ex.p rfl ?_
  refine Ex.p rfl ?_
  refine Ex.p rfl ?_
  refine Ex.p rfl ?_
  refine Ex.p rfl ?_
  refine Ex.p rfl ?_
  refine Ex.ci (Mc := mHi_init) (Rc := rm 1 0 0) (As := hvs ogv) (rest := [.ref q, .ref a]) (Sr := [[(a, .inr (4, gdf 4))]]) [1] [0] (ct_Hi_init (h := ogv) (rm_ok _ _ _)) rfl lk_4_11 lcHi_init rfl rfl rfl rfl rfl (by decide) ⟨r1, by show 8 + (8 + 11) + 40 ≤ R.locals; omega⟩ (Nat.le_of_ble_eq_true rfl) (by dsimp only [rm]; omega) (by dsimp only [rm]; omega) ?_
  rintro v S1 ⟨rfl, rfl⟩
  refine Ex.pfF 0 0 rfl rfl rfl rfl rfl rfl rfl rfl ?_
  refine Ex.p rfl ?_
  refine Ex.p rfl ?_
  refine Ex.newa (N := 60) (ci := 3) (t0 := 4) (cn := "DrillArchive$Hit") rfl rfl (by decide) (by decide) rfl rfl (by decide) (by dsimp only [rm]; omega) (by dsimp only [rm]; omega) (fun q2 => ?_)
  refine Ex.pfF 0 0 rfl rfl rfl rfl rfl rfl rfl rfl ?_
  refine Ex.p rfl ?_
  refine Ex.p rfl ?_
  refine Ex.newz (N := 60) rfl rfl (by decide) (by dsimp only [rm]; omega) (by dsimp only [rm]; omega) (fun q3 => ?_)
  refine Ex.pfF 0 0 rfl rfl rfl rfl rfl rfl rfl rfl ?_
  refine Ex.p rfl ?_
  refine Ex.p rfl ?_
  refine Ex.newi (N := 72) rfl rfl (by decide) (by dsimp only [rm]; omega) (by dsimp only [rm]; omega) (fun q4 => ?_)
  refine Ex.pfF 0 0 rfl rfl rfl rfl rfl rfl rfl rfl ?_
  refine Ex.p rfl ?_
  refine Ex.p rfl ?_
  refine Ex.newi (N := 2048) rfl rfl (by decide) (by dsimp only [rm]; omega) (by dsimp only [rm]; omega) (fun q5 => ?_)
  refine Ex.pfF 0 0 rfl rfl rfl rfl rfl rfl rfl rfl ?_
  exact Ex.vret (S' := [sPl D a q q2 q3 q4 q5 (fun _ => none) (fun _ => 0) (fun _ => 0) (fun _ => 0) 0 0]) rfl rfl (by dsimp only [rm]; omega) (by dsimp only [rm]; omega) rfl ⟨rfl, _, rfl, q, q2, q3, q4, q5, rfl⟩
theorem sHs_at {hs : List (Nat × HV)} {i : Nat} {h : Nat × HV} (hi : hs[i]? = some h) : (sHs hs)[i]? = some (cHit h.1 h.2) := by
  unfold sHs
  rw [List.getElem?_map, hi]
  rfl
/-- the i-th of a tool's hits -/
theorem ct_Pl_gather {a d ch co : Nat} {fm : Nat → Option Nat} {fd fw fr : Nat → Int32} {cnt lst dm : Int32} {pl pn : Bool} {os : List Int32} {len : Int64} {ts : List TV} {hs : List (Nat × HV)} {ns : List Nat} {t : Nat} {Cp Cd T Hs C : va_W} (hp : IsPl D a fm fd fw fr cnt lst Cp) (hd : IsDr D d ts hs Cd T Hs) (ht : IsTool D t dm pl (ns.map nI) os len pn ch co C) (hns : ∀ n ∈ ns, n < hs.length) (hn60 : ns.length ≤ 60) (hr : rmOk R 1 0 0) :
    Ct l mPl_gather D R [.ref a, .ref d, .ref t] [Cp, Cd, C, Hs] (fun v S => v = none ∧ ∃ Cp' fm' fd', S = [Cp', Cd, C, Hs] ∧ IsPl D a fm' fd' fw fr (nI ns.length) lst Cp' ∧ (∀ j n, ns[j]? = some n → fm' j = (hs[n]?).map (fun h => h.1)) ∧ ∀ j, j < ns.length → fd' j = 0) := by
  have hd9 := hd
  obtain ⟨og, mi, dn, wy, rs, rfl⟩ := hp
  obtain ⟨ta, ha, ft, fh, rfl, hT, rfl, h1, h2, h3, h4⟩ := hd
  obtain ⟨rh, ro, Ch, Co, rfl, hrh, hro⟩ := ht
  obtain ⟨arr, f, rfl, x1, x2, x3, x4, x5, x6⟩ := id hrh
  obtain ⟨r1, r2, r3, r4⟩ := hr
  have hlen : (ns.map nI).length = ns.length := by simp
  have hhl : hs.length ≤ 60 := h4
  refine Ct.of rfl (by decide) tkPl_gather (Nat.le_of_ble_eq_true rfl) (fun A => ?_)
  refine Ex.p rfl ?_
  refine Ex.p rfl ?_
  refine Ex.pf 0 0 rfl rfl rfl rfl rfl rfl ?_
  have loop : ∀ (m i : Nat), ns.length - i < m → i ≤ ns.length → ∀ (fm' : Nat → Option Nat) (fd' : Nat → Int32), (∀ j n, j < i → ns[j]? = some n → fm' j = (hs[n]?).map (fun h => h.1)) → (∀ j, j < i → fd' j = 0) →
      ∀ lv9, lv9 = [(3, Value.int (nI i)), (0, .ref a), (1, .ref d), (2, .ref t)] ∨ (∃ w, lv9 = [(3, Value.int (nI i)), (4, .ref w), (0, .ref a), (1, .ref d), (2, .ref t)]) →
      Ex l mPl_gather D R A (xQ D A (fun v S => v = none ∧ ∃ Cp' fm' fd', S = [Cp', [(d, .inr (1, [.ref ta, .ref ha, .int (nI ts.length), .int (nI hs.length)])), (ta, .inl (D.2.2.1 3, 10, .inr (.inr (.inr (.inr ft))))), (ha, .inl (D.2.2.1 4, 60, .inr (.inr (.inr (.inr fh)))))], (t, .inr (9, [.int dm, .int (b32 pl), .ref rh, .ref ro, .long len, .int (b32 pn)])) :: (sRow D rh arr ch f 60 (ns.map nI).length ++ Co), sHs hs] ∧ IsPl D a fm' fd' fw fr (nI ns.length) lst Cp' ∧ (∀ j n, ns[j]? = some n → fm' j = (hs[n]?).map (fun h => h.1)) ∧ ∀ j, j < ns.length → fd' j = 0)) R.cells R.slots 7 lv9 [] [sPl D a og mi dn wy rs fm' fd' fw fr (nI i) lst, [(d, .inr (1, [.ref ta, .ref ha, .int (nI ts.length), .int (nI hs.length)])), (ta, .inl (D.2.2.1 3, 10, .inr (.inr (.inr (.inr ft))))), (ha, .inl (D.2.2.1 4, 60, .inr (.inr (.inr (.inr fh)))))], (t, .inr (9, [.int dm, .int (b32 pl), .ref rh, .ref ro, .long len, .int (b32 pn)])) :: (sRow D rh arr ch f 60 (ns.map nI).length ++ Co), sHs hs] 0 0 := by
    intro m
    induction m with
    | zero => intro i h; omega
    | succ m ih =>
      intro i hm hi fm' fd' hfm hfd lv9 hlv
      refine Ex.lv (lv' := [(3, Value.int (nI i)), (0, .ref a), (1, .ref d), (2, .ref t)]) (by
        rcases hlv with rfl | ⟨w, rfl⟩
        · exact fun q h => h
        · intro q h
          simp only [List.mem_cons, List.not_mem_nil, or_false] at h ⊢
          rcases h with h | h | h | h <;> simp [h]) ?_
      repeat (first | refine Ex.p rfl ?_ | refine Ex.ldc rfl ?_ | refine Ex.ldc2 rfl ?_ | refine Ex.gf 2 0 rfl rfl rfl ?_ | refine Ex.gf 2 1 rfl rfl rfl ?_)
      refine Ex.br rfl (fun c1 => ?_) (fun c1 => ?_)
      · rw [nI_leI (by omega) (by omega), hlen] at c1
        have hi9 : i = ns.length := by omega
        refine Ex.vret rfl rfl (Nat.zero_le _) (Nat.zero_le _) rfl ⟨rfl, _, fm', fd', rfl, ⟨og, mi, dn, wy, rs, by rw [hi9]⟩, fun j n hj => hfm j n ?_ hj, fun j hj => hfd j (by omega)⟩
        have := (List.getElem?_eq_some_iff.mp hj).1
        omega
      · rw [nI_leI (by omega) (by omega), hlen] at c1
        have hi9 : i < ns.length := by omega
        have hni : ns[i]? = some ns[i] := List.getElem?_eq_getElem hi9
        have hn9 : ns[i] < hs.length := hns _ (List.getElem_mem hi9)
        repeat (first | refine Ex.p rfl ?_ | refine Ex.ldc rfl ?_ | refine Ex.ldc2 rfl ?_ | refine Ex.gf 2 0 rfl rfl rfl ?_)
        refine Ex.seg (S' := [sPl D a og mi dn wy rs fm' fd' fw fr (nI i) lst, [(d, .inr (1, [.ref ta, .ref ha, .int (nI ts.length), .int (nI hs.length)])), (ta, .inl (D.2.2.1 3, 10, .inr (.inr (.inr (.inr ft))))), (ha, .inl (D.2.2.1 4, 60, .inr (.inr (.inr (.inr fh)))))], [(t, .inr (9, [.int dm, .int (b32 pl), .ref rh, .ref ro, .long len, .int (b32 pn)]))], sRow D rh arr ch f 60 (ns.map nI).length, Co, sHs hs]) (by simp) ?_
        refine Ex.cv (Mc := mRo_get) (Rc := rm 0 0 0) (As := [.int (nI i)]) (rest := [.ref d]) (Sr := [sPl D a og mi dn wy rs fm' fd' fw fr (nI i) lst, [(d, .inr (1, [.ref ta, .ref ha, .int (nI ts.length), .int (nI hs.length)])), (ta, .inl (D.2.2.1 3, 10, .inr (.inr (.inr (.inr ft))))), (ha, .inl (D.2.2.1 4, 60, .inr (.inr (.inr (.inr fh)))))], [(t, .inr (9, [.int dm, .int (b32 pl), .ref rh, .ref ro, .long len, .int (b32 pn)]))], Co, sHs hs]) (ic := 3) (jc := 0) (ci := 5) [3] [0, 1, 2, 4, 5] (ct_Ro_get hrh) rfl lk_4_72 lcRo_get rfl rfl rfl rfl rfl (by decide) rfl rfl rfl (by decide) ⟨r1, by show 8 + (2 + 11) + 0 ≤ R.locals; omega⟩ (Nat.le_of_ble_eq_true rfl) (Nat.zero_le _) (Nat.zero_le _) ?_
        rintro v S1 ⟨rfl, rfl⟩
        rw [rget_nI hi9 (by omega), show ns.getD i 0 = ns[i] from by rw [List.getD_eq_getElem?_getD, hni]; rfl]
        refine Ex.cv (Mc := mDr_hitAt) (Rc := rm 0 0 0) (As := [.int (nI ns[i])]) (rest := []) (Sr := [sPl D a og mi dn wy rs fm' fd' fw fr (nI i) lst, [(t, .inr (9, [.int dm, .int (b32 pl), .ref rh, .ref ro, .long len, .int (b32 pn)]))], Co, sHs hs, sRow D rh arr ch f 60 (ns.map nI).length]) (ic := 1) (jc := 0) (ci := 1) [1] [0, 2, 3, 4, 5] (ct_Dr_hitAt hd9) rfl lk_4_76 lcDr_hitAt rfl rfl rfl rfl rfl (by decide) rfl rfl rfl (by decide) ⟨r1, by show 8 + (2 + 11) + 0 ≤ R.locals; omega⟩ (Nat.zero_le _) (Nat.zero_le _) (Nat.zero_le _) ?_
        rintro v S1 ⟨rfl, rfl⟩
        rw [ixo, nI_toInt (by omega), if_pos (by omega), Int.toNat_natCast, List.getElem?_eq_getElem hn9]
        have hat := sHs_at (hs := hs) (List.getElem?_eq_getElem hn9)
        refine Ex.p rfl ?_
        refine Ex.p rfl ?_
        refine Ex.nuR rfl ?_
        repeat (first | refine Ex.p rfl ?_ | refine Ex.ldc rfl ?_ | refine Ex.ldc2 rfl ?_ | refine Ex.gf 0 0 rfl rfl rfl ?_)
        refine Ex.br rfl (fun c2 => ?_) (fun c2 => ?_)
        · have c2 : nI 60 ≤ nI i := c2
          rw [nI_leI (by omega) (by omega)] at c2
          omega
        · repeat (first | refine Ex.p rfl ?_ | refine Ex.ldc rfl ?_ | refine Ex.ldc2 rfl ?_ | refine Ex.gf 0 0 rfl rfl rfl ?_)
          refine Ex.aas 0 2 i 4 3 ns[i] 3 rfl rfl rfl rfl rfl hat rfl (nI_toInt (by omega)) (by omega) ?_
          repeat (first | refine Ex.p rfl ?_ | refine Ex.ldc rfl ?_ | refine Ex.ldc2 rfl ?_ | refine Ex.gf 0 0 rfl rfl rfl ?_)
          refine Ex.zas 0 3 i rfl rfl rfl (nI_toInt (by omega)) (by omega) (Or.inl rfl) ?_
          repeat (first | refine Ex.p rfl ?_ | refine Ex.ldc rfl ?_ | refine Ex.ldc2 rfl ?_ | refine Ex.gf 0 0 rfl rfl rfl ?_)
          rw [i_add1]
          refine Ex.pf 0 0 rfl rfl rfl rfl rfl rfl ?_
          refine Ex.p rfl ?_
          refine Ex.p rfl ?_
          rw [i_add1]
          refine Ex.sub (S' := [sPl D a og mi dn wy rs (va_up fm' i (some hs[ns[i]].1)) (upd fd' i (Int32.ofInt 0)) fw fr (nI (i + 1)) lst, [(d, .inr (1, [.ref ta, .ref ha, .int (nI ts.length), .int (nI hs.length)])), (ta, .inl (D.2.2.1 3, 10, .inr (.inr (.inr (.inr ft))))), (ha, .inl (D.2.2.1 4, 60, .inr (.inr (.inr (.inr fh)))))], [(t, .inr (9, [.int dm, .int (b32 pl), .ref rh, .ref ro, .long len, .int (b32 pn)]))], sRow D rh arr ch f 60 (ns.map nI).length, Co, sHs hs]) [0, 5, 1, 4, 2, 3] rfl rfl ?_
          refine Ex.seg (S' := [sPl D a og mi dn wy rs (va_up fm' i (some hs[ns[i]].1)) (upd fd' i (Int32.ofInt 0)) fw fr (nI (i + 1)) lst, [(d, .inr (1, [.ref ta, .ref ha, .int (nI ts.length), .int (nI hs.length)])), (ta, .inl (D.2.2.1 3, 10, .inr (.inr (.inr (.inr ft))))), (ha, .inl (D.2.2.1 4, 60, .inr (.inr (.inr (.inr fh)))))], (t, .inr (9, [.int dm, .int (b32 pl), .ref rh, .ref ro, .long len, .int (b32 pn)])) :: (sRow D rh arr ch f 60 (ns.map nI).length ++ Co), sHs hs]) (by simp) ?_
          refine ih (i + 1) (by omega) (by omega) _ _ ?_ ?_ _ (Or.inr ⟨hs[ns[i]].1, rfl⟩)
          · intro j n hj hjn
            by_cases e : j = i
            · subst e
              rw [hni] at hjn
              cases hjn
              rw [va_up_self, List.getElem?_eq_getElem hn9]
              rfl
            · rw [va_up_ne _ _ e]
              exact hfm j n (by omega) hjn
          · intro j hj
            by_cases e : j = i
            · subst e
              rw [pk_us]
              rfl
            · rw [pk_un e]
              exact hfd j (by omega)
  refine Ex.p rfl ?_
  refine Ex.p rfl ?_
  exact loop (ns.length + 1) 0 (by omega) (by omega) fm fd (fun j n h => by omega) (fun j h => by omega) _ (Or.inl rfl)
end PL

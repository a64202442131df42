/-! Planner: plan -/
theorem picks_len {n : Nat} {fw fr : Nat → Int32} : ∀ {k s la : Nat}, (picks n fw fr k s la).length ≤ k
  | 0, _, _ => Nat.le_refl _
  | k + 1, s, la => by
    unfold picks
    split
    · simp
    · simp
      exact picks_len
theorem npk_len {n : Nat} {mv : Nat → HV} : ∀ {k : Nat} {fd : Nat → Int32} {g : HV}, (npk n mv k fd g).length ≤ k
  | 0, _, _ => Nat.le_refl _
  | k + 1, fd, g => by
    unfold npk
    split
    · simp
    · simp
      exact npk_len
theorem nfold_ok {ok ok' : Nat → Bool} {w : Nat → Int32} : ∀ {n : Nat}, (∀ j, j < n → ok j = ok' j) → nfold ok w n = nfold ok' w n
  | 0, _ => rfl
  | n + 1, h => by
    have ih := nfold_ok (w := w) (n := n) (fun j hj => h j (by omega))
    unfold nfold
    rw [ih, h n (by omega)]
theorem npk_congr {n : Nat} {mv : Nat → HV} : ∀ {k : Nat} {fd fd' : Nat → Int32} {g : HV}, (∀ j, j < n → fd j = fd' j) → npk n mv k fd g = npk n mv k fd' g
  | 0, _, _, _, _ => rfl
  | k + 1, fd, fd', g, h => by
    have e : nfold (fun j => decide (fd j = 0)) (fun j => hway g (mv j)) n = nfold (fun j => decide (fd' j = 0)) (fun j => hway g (mv j)) n := nfold_ok (fun j hj => by rw [h j hj])
    unfold npk
    rw [e]
    split
    · rfl
    · rename_i b hb
      congr 1
      refine npk_congr fun j hj => ?_
      unfold upd
      split
      · rfl
      · exact h j hj
/-- the order of n hits, by their places in the tool's row, and its length -/
def TOrd (n : Nat) (mv : Nat → HV) (ps : List Nat) (len : Int64) : Prop :=
  (n ≤ 8 → ∃ fw fr, WaysOK n mv fw ∧ RestOK n fw fr ∧ ps = picks n fw fr n 0 8 ∧ len = pacc fw 0 8 ps) ∧ (8 < n → ps = (npk n mv n (fun _ => 0) ogv).map (fun b => b.1) ∧ len = nacc 0 (npk n mv n (fun _ => 0) ogv))
/-- the j-th of the hits numbered ns -/
def mvO (hs : List (Nat × HV)) (ns : List Nat) (j : Nat) : HV := ((hs[ns.getD j 0]?).map (fun h => h.2)).getD ogv
section PA
variable {l : Launch} {D : xD} {R : Room}
theorem ct_Pl_plan {a d ch co : Nat} {fm : Nat → Option Nat} {fd fw fr : Nat → Int32} {cnt lst dm : Int32} {pl pn : Bool} {os : List Int32} {len : Int64} {ts : List TV} {hs : List (Nat × HV)} {ns : List Nat} {t : Nat} {Cp Cd T Hs C : va_W} (hp : IsPl D a fm fd fw fr cnt lst Cp) (hd : IsDr D d ts hs Cd T Hs) (ht : IsTool D t dm pl (ns.map nI) os len pn ch co C) (hns : ∀ n ∈ ns, n < hs.length) (hn60 : ns.length ≤ 60) (hco : co ≤ 128) (hr : rmOk R 5 (if pn = true then 0 else 15) (if pn = true then 0 else 240)) :
    Ct l mPl_plan D R [.ref a, .ref d, .ref t] [Cp, Cd, C, Hs] (fun v S => v = none ∧ ∃ Cp' C' fm' fd' fw' fr' cnt' lst', S = [Cp', Cd, C', Hs] ∧ IsPl D a fm' fd' fw' fr' cnt' lst' Cp' ∧ ((pn = true ∧ C' = C) ∨ (pn = false ∧ ∃ ps len' co', TOrd ns.length (mvO hs ns) ps len' ∧ co' ≤ 128 ∧ IsTool D t dm pl (ns.map nI) (ps.map (fun b => nI (ns.getD b 0))) len' true ch co' C'))) := by
  obtain ⟨r1, r2, r3, r4⟩ := hr
  obtain ⟨og, mi, dn, wy, rs, rfl⟩ := id hp
  obtain ⟨rh, ro, Ch, Co, rfl, hrh, hro⟩ := id ht
  have hhl : hs.length ≤ 60 := by obtain ⟨_, _, _, _, _, _, _, _, _, _, q⟩ := hd; exact q
  have hHs : Hs = sHs hs := by obtain ⟨_, _, _, _, _, _, q, _⟩ := hd; exact q
  refine Ct.of rfl (by decide) tkPl_plan (Nat.le_of_ble_eq_true rfl) (fun A => ?_)
  refine Ex.p rfl ?_
  refine Ex.gf 2 0 rfl rfl rfl ?_
  cases pn with
  | true =>
    refine Ex.br rfl (fun c => absurd c (by decide)) (fun _ => ?_)
    exact Ex.vret rfl rfl (Nat.zero_le _) (Nat.zero_le _) rfl ⟨rfl, _, _, _, _, _, _, _, _, rfl, ⟨og, mi, dn, wy, rs, rfl⟩, Or.inl ⟨rfl, rfl⟩⟩
  | false =>
    have r3 : 15 ≤ R.cells := r3
    have r4 : 240 ≤ R.slots := r4
    refine Ex.br rfl (fun _ => ?_) (fun c => absurd rfl c)
    refine Ex.p rfl ?_
    refine Ex.cv (Mc := mTo_beginPlan) (Rc := rm 1 0 0) (As := []) (rest := []) (Sr := [sPl D a og mi dn wy rs fm fd fw fr cnt lst, Cd, Hs]) (ic := 2) (jc := 0) (ci := 9) [2] [0, 1, 3] (ct_To_beginPlan ht (rm_ok _ _ _)) rfl lk_4_41 lcTo_beginPlan rfl rfl rfl rfl rfl (by decide) rfl rfl rfl (by decide) ⟨by dsimp only [rm]; omega, by show 8 + (1 + 11) + 40 ≤ R.locals; omega⟩ (Nat.zero_le _) (Nat.zero_le _) (Nat.zero_le _) ?_
    rintro v S1 ⟨rfl, C1, rfl, hC1⟩
    refine Ex.p rfl ?_
    refine Ex.p rfl ?_
    refine Ex.p rfl ?_
    refine Ex.cv (Mc := mPl_gather) (Rc := rm 1 0 0) (As := [.ref d, .ref t]) (rest := []) (Sr := []) (ic := 0) (jc := 0) (ci := 4) [0, 1, 3, 2] [] (ct_Pl_gather hp hd hC1 hns hn60 (rm_ok _ _ _)) rfl lk_4_44 lcPl_gather rfl rfl rfl rfl rfl (by decide) rfl rfl rfl (by decide) ⟨by dsimp only [rm]; omega, by show 8 + (5 + 11) + 40 ≤ R.locals; omega⟩ (Nat.zero_le _) (Nat.zero_le _) (Nat.zero_le _) ?_
    rintro v S1 ⟨rfl, Cp2, fm2, fd2, rfl, hp2, hfm, hfd⟩
    obtain ⟨og2, mi2, dn2, wy2, rs2, rfl⟩ := id hp2
    have hm : ∀ j, j < ns.length → ∃ (b i : Nat), fm2 j = some b ∧ Hs[i]? = some (cHit b (mvO hs ns j)) := by
      intro j hj
      have hnj : ns[j]? = some ns[j] := List.getElem?_eq_getElem hj
      have hlt := hns _ (List.getElem_mem hj)
      have hg : hs[ns[j]]? = some hs[ns[j]] := List.getElem?_eq_getElem hlt
      refine ⟨hs[ns[j]].1, ns[j], ?_, ?_⟩
      · rw [hfm j _ hnj, hg]; rfl
      · rw [hHs, sHs_at hg, mvO, List.getD_eq_getElem?_getD, hnj]
        show _ = some (cHit _ (((hs[ns[j]]?).map (fun h => h.2)).getD ogv))
        rw [hg]
        rfl
    refine Ex.p rfl ?_
    refine Ex.gf 0 0 rfl rfl rfl ?_
    refine Ex.p rfl ?_
    refine Ex.br rfl (fun c1 => ?_) (fun c1 => ?_)
    · have c1 : nI 8 < nI ns.length := c1
      rw [nI_ltI (by omega) (by omega)] at c1
      have hcap := capN_le (npk ns.length (mvO hs ns) ns.length fd2 ogv).length co 0 128 hco (by have := npk_len (n := ns.length) (mv := mvO hs ns) (k := ns.length) (fd := fd2) (g := ogv); omega)
      have hcg := capN_ge (npk ns.length (mvO hs ns) ns.length fd2 ogv).length co 0
      have hnpk : npk ns.length (mvO hs ns) ns.length fd2 ogv = npk ns.length (mvO hs ns) ns.length (fun _ => 0) ogv := npk_congr hfd
      refine Ex.p rfl ?_
      refine Ex.p rfl ?_
      obtain ⟨rh1, ro1, Ch1, Co1, eC1, -⟩ := id hC1
      have hco8 : 8 ≤ co := by obtain ⟨_, _, _, _, _, q, _⟩ := hro; exact q
      refine Ex.cv (Mc := mPl_planNearest) (Rc := rm 4 ((capN co 0 (npk ns.length (mvO hs ns) ns.length fd2 ogv).length - co) / 8) (2 * (capN co 0 (npk ns.length (mvO hs ns) ns.length fd2 ogv).length - co))) (As := [.ref t]) (rest := []) (Sr := [Cd]) (ic := 0) (jc := 0) (ci := 4) [0, 2, 3] [1] (ct_Pl_planNearest hp2 hC1 hn60 rfl hm (rm_ok _ _ _)) rfl lk_4_62 lcPl_planNearest rfl rfl rfl rfl rfl (by decide) rfl rfl rfl (by decide) ⟨by dsimp only [rm]; omega, by show 8 + (5 + 11) + 160 ≤ R.locals; omega⟩ (Nat.zero_le _) (by dsimp only [rm]; omega) (by dsimp only [rm]; omega) ?_
      rintro v S1 ⟨rfl, Cp3, C3, fd3, lst3, rfl, hp3, hC3⟩
      refine Ex.sub (S' := [Cp3, Cd, C3, Hs]) [1, 0, 2, 3] rfl rfl ?_
      refine Ex.vret rfl rfl (by dsimp only [rm]; omega) (by dsimp only [rm]; omega) rfl ⟨rfl, _, _, _, _, _, _, _, _, rfl, hp3, Or.inr ⟨rfl, (npk ns.length (mvO hs ns) ns.length fd2 ogv).map (fun b => b.1), nacc 0 (npk ns.length (mvO hs ns) ns.length fd2 ogv), _, ⟨fun q => by omega, fun _ => ⟨by rw [hnpk], by rw [hnpk]⟩⟩, hcap, ?_⟩⟩
      rw [List.map_map]
      exact hC3
    · have c1 : ¬ nI 8 < nI ns.length := c1
      rw [nI_ltI (by omega) (by omega)] at c1
      refine Ex.p rfl ?_
      refine Ex.cv (Mc := mPl_measureWays) (Rc := rm 2 0 0) (As := []) (rest := []) (Sr := [Cd, C1]) (ic := 0) (jc := 0) (ci := 4) [0, 3] [1, 2] (ct_Pl_measureWays hp2 (by omega) hm (rm_ok _ _ _)) rfl lk_4_52 lcPl_measureWays rfl rfl rfl rfl rfl (by decide) rfl rfl rfl (by decide) ⟨by dsimp only [rm]; omega, by show 8 + (3 + 11) + 80 ≤ R.locals; omega⟩ (Nat.zero_le _) (Nat.zero_le _) (Nat.zero_le _) ?_
      rintro v S1 ⟨rfl, Cp3, fw3, rfl, hp3, hw3⟩
      obtain ⟨og3, mi3, dn3, wy3, rs3, rfl⟩ := id hp3
      refine Ex.p rfl ?_
      refine Ex.cv (Mc := mPl_measureRest) (Rc := rm 1 0 0) (As := []) (rest := []) (Sr := [Cd, C1, Hs]) (ic := 2) (jc := 0) (ci := 4) [2] [0, 1, 3] (ct_Pl_measureRest hp3 (by omega) (rm_ok _ _ _)) rfl lk_4_55 lcPl_measureRest rfl rfl rfl rfl rfl (by decide) rfl rfl rfl (by decide) ⟨by dsimp only [rm]; omega, by show 8 + (3 + 11) + 40 ≤ R.locals; omega⟩ (Nat.zero_le _) (Nat.zero_le _) (Nat.zero_le _) ?_
      rintro v S1 ⟨rfl, Cp4, fr4, lst4, rfl, hp4, hr4⟩
      obtain ⟨og4, mi4, dn4, wy4, rs4, rfl⟩ := id hp4
      have hcap := capN_le (picks ns.length fw3 fr4 ns.length 0 8).length co 0 128 hco (by have := picks_len (n := ns.length) (fw := fw3) (fr := fr4) (k := ns.length) (s := 0) (la := 8); omega)
      have hcg := capN_ge (picks ns.length fw3 fr4 ns.length 0 8).length co 0
      have hco8 : 8 ≤ co := by obtain ⟨_, _, _, _, _, q, _⟩ := hro; exact q
      refine Ex.p rfl ?_
      refine Ex.p rfl ?_
      refine Ex.cv (Mc := mPl_planLeast) (Rc := rm 4 ((capN co 0 (picks ns.length fw3 fr4 ns.length 0 8).length - co) / 8) (2 * (capN co 0 (picks ns.length fw3 fr4 ns.length 0 8).length - co))) (As := [.ref t]) (rest := []) (Sr := [Cd, Hs]) (ic := 3) (jc := 0) (ci := 4) [3, 1] [0, 2] (ct_Pl_planLeast hp4 hC1 (by omega) rfl (fun x hx => by have := hns x hx; omega) (rm_ok _ _ _)) rfl lk_4_58 lcPl_planLeast rfl rfl rfl rfl rfl (by decide) rfl rfl rfl (by decide) ⟨by dsimp only [rm]; omega, by show 8 + (6 + 11) + 160 ≤ R.locals; omega⟩ (Nat.zero_le _) (by dsimp only [rm]; omega) (by dsimp only [rm]; omega) ?_
      rintro v S1 ⟨rfl, Cp5, C5, lst5, rfl, hp5, hC5⟩
      refine Ex.p rfl ?_
      refine Ex.sub (S' := [Cp5, Cd, C5, Hs]) [2, 0, 3, 1] rfl rfl ?_
      exact Ex.vret rfl rfl (by dsimp only [rm]; omega) (by dsimp only [rm]; omega) rfl ⟨rfl, _, _, _, _, _, _, _, _, rfl, hp5, Or.inr ⟨rfl, picks ns.length fw3 fr4 ns.length 0 8, _, _, ⟨fun _ => ⟨fw3, fr4, hw3, hr4, rfl, rfl⟩, fun q => by omega⟩, hcap, hC5⟩⟩
end PA

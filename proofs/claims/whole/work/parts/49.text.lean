/-! TextWriter: textOf -/
def tOK (hv : List HV) (i : Nat) (t : TV) : Prop := t.2.2.2.1 = (tns hv i).map nI ∧ t.2.2.2.2.2.2.2.1 ≤ 128 ∧ t.2.2.2.2.2.2.2.2 ≤ 128 ∧ tvOK (tvo t) ∧ (t.2.2.2.2.2.2.1 = true → t.2.2.2.2.1 = (tor hv i).map nI ∧ t.2.2.2.2.2.1 = tln hv i)
def hOK (h : HV) : Prop := hnear h ∧ layOK h.2.2.2.2.2.1 ∧ layOK h.2.2.2.2.2.2
/-- what holds of every drawing -/
def DrOK (ts : List TV) (hs : List (Nat × HV)) : Prop := (∀ (i : Nat) (t : TV), ts[i]? = some t → tOK (hs.map (fun h => h.2)) i t) ∧ ∀ h ∈ hs, hOK h.2
def IsPlA (D : xD) (a : Nat) (C : va_W) : Prop := ∃ fm fd fw fr cnt lst, IsPl D a fm fd fw fr cnt lst C
/-- how many are not planned -/
def upl : List TV → Nat
  | [] => 0
  | t :: r => (if t.2.2.2.2.2.2.1 then 0 else 1) + upl r
theorem IsDr.at {D : xD} {d : Nat} {ts : List TV} {hs : List (Nat × HV)} {Cd T Hs : va_W} (h : IsDr D d ts hs Cd T Hs) {i : Nat} {t : TV} (hi : ts[i]? = some t) : ∃ X C Y, T = X ++ (C ++ Y) ∧ IsT D t C ∧ ∀ t' C', IsT D t' C' → t'.1 = t.1 → IsDr D d (ts.set i t') hs Cd (X ++ (C' ++ Y)) Hs := by
  obtain ⟨ta, ha, ft, fh, e1, hT, e2, h1, h2, h3, h4⟩ := h
  obtain ⟨X, C, Y, e, hC, hb⟩ := IsTs.at hT hi
  refine ⟨X, C, Y, e, hC, fun t' C' ht' e9 => ⟨ta, ha, ft, fh, by rw [e1]; simp, hb _ _ ht', e2, fun j u hj => ?_, h2, by simp; exact h3, h4⟩⟩
  by_cases hij : i = j
  · subst hij
    rw [List.getElem?_set_self (List.getElem?_eq_some_iff.mp hi).1] at hj
    cases hj
    rw [e9]
    exact h1 i t hi
  · rw [List.getElem?_set_ne hij] at hj
    exact h1 j u hj
theorem upl_drop {ts : List TV} {i : Nat} {t : TV} (hi : ts[i]? = some t) : upl (ts.drop i) = (if t.2.2.2.2.2.2.1 then 0 else 1) + upl (ts.drop (i + 1)) := by
  obtain ⟨h1, h2⟩ := List.getElem?_eq_some_iff.mp hi
  rw [List.drop_eq_getElem_cons h1, h2]
  rfl
theorem upl_app (a b : List TV) : upl (a ++ b) = upl a + upl b := by
  induction a with
  | nil => simp [upl]
  | cons t r ih => simp [upl, ih]; omega
theorem upl_le (ts : List TV) (i : Nat) : upl (ts.drop i) ≤ upl ts := by
  have := upl_app (ts.take i) (ts.drop i)
  rw [List.take_append_drop] at this
  omega
theorem upl_len (ts : List TV) : upl ts ≤ ts.length := by
  induction ts with
  | nil => exact Nat.le_refl _
  | cons t r ih => simp [upl]; split <;> omega
section TX
variable {l : Launch} {D : xD} {R : Room}
theorem ct_planT {a d i : Nat} {ts : List TV} {hs : List (Nat × HV)} {t : TV} {Cp Cd T Hs C : va_W} (hp : IsPlA D a Cp) (hd : IsDr D d ts hs Cd T Hs) (ht : IsT D t C) (hok : tOK (hs.map (fun h => h.2)) i t) (hr : rmOk R 5 (if t.2.2.2.2.2.2.1 = true then 0 else 15) (if t.2.2.2.2.2.2.1 = true then 0 else 240)) :
    Ct l mPl_plan D R [.ref a, .ref d, .ref t.1] [Cp, Cd, C, Hs] (fun v S => v = none ∧ ∃ Cp' C' t', S = [Cp', Cd, C', Hs] ∧ IsPlA D a Cp' ∧ IsT D t' C' ∧ tOK (hs.map (fun h => h.2)) i t' ∧ t'.2.2.2.2.2.2.1 = true ∧ t'.1 = t.1 ∧ tvo t' = tvo t) := by
  obtain ⟨fm, fd, fw, fr, cnt, lst, hp⟩ := hp
  obtain ⟨k1, k2, k3, k4, k5⟩ := id hok
  have hhl : hs.length ≤ 60 := by obtain ⟨_, _, _, _, _, _, _, _, _, _, q⟩ := hd; exact q
  unfold IsT at ht
  rw [k1] at ht
  have hlen : (tns (hs.map (fun h => h.2)) i).length ≤ hs.length := by
    have := tnsA_len (nI i) (hs.map (fun h => h.2)) 0
    rw [List.length_map] at this
    exact this
  refine Ct.imp (ct_Pl_plan hp hd ht (fun n hn => by have := tns_lt hn; rw [List.length_map] at this; exact this) (by omega) k3 hr) ?_
  rintro v S ⟨rfl, Cp', C', fm', fd', fw', fr', cnt', lst', rfl, hp', h9⟩
  refine ⟨rfl, Cp', C', ?_⟩
  rcases h9 with ⟨q, rfl⟩ | ⟨q, ps, len', co', ho, hco, ht'⟩
  · exact ⟨t, rfl, ⟨_, _, _, _, _, _, hp'⟩, by unfold IsT; rw [k1]; exact ht, hok, q, rfl, rfl⟩
  · rw [mvO_eq] at ho
    have e := ho.of
    refine ⟨(t.1, t.2.1, t.2.2.1, (tns (hs.map (fun h => h.2)) i).map nI, (tor (hs.map (fun h => h.2)) i).map nI, tln (hs.map (fun h => h.2)) i, true, t.2.2.2.2.2.2.2.1, co'), rfl, ⟨_, _, _, _, _, _, hp'⟩, ?_, ⟨rfl, k2, hco, k4, fun _ => ⟨rfl, rfl⟩⟩, rfl, rfl, rfl⟩
    show IsTool D _ _ _ _ ((tor (hs.map (fun h => h.2)) i).map nI) (tln (hs.map (fun h => h.2)) i) _ _ _ _
    unfold tor tln
    rw [e, List.map_map]
    exact ht'
theorem ct_Tw_textOf_kept {w p r d c : Nat} {f t : Int32} {S0 : List va_W} : Ct l mTw_textOf D R [.ref w, .ref d, .int f, .int t] (sTw w p r true f t :: S0) (fun v S => v = some (.ref r) ∧ S = sTw w p r true f t :: S0) := by
  refine Ct.of rfl (by decide) tkTw_textOf (Nat.le_of_ble_eq_true rfl) (fun A => ?_)
  refine Ex.p rfl ?_
  refine Ex.gf 0 0 rfl rfl rfl ?_
  refine Ex.br rfl (fun c => absurd c (by decide)) (fun _ => ?_)
  refine Ex.p rfl ?_
  refine Ex.gf 0 0 rfl rfl rfl ?_
  refine Ex.p rfl ?_
  refine Ex.br rfl (fun c => absurd rfl c) (fun _ => ?_)
  refine Ex.p rfl ?_
  refine Ex.gf 0 0 rfl rfl rfl ?_
  refine Ex.p rfl ?_
  refine Ex.br rfl (fun c => absurd rfl c) (fun _ => ?_)
  refine Ex.p rfl ?_
  refine Ex.gf 0 0 rfl rfl rfl ?_
  exact Ex.aret rfl rfl (Or.inr ⟨_, rfl⟩) (Nat.zero_le _) (Nat.zero_le _) rfl ⟨rfl, rfl⟩
theorem ct_Tw_textOf {w p r d c0 : Nat} {kp : Bool} {kf0 kt0 kf kt : Int32} {ts : List TV} {hs : List (Nat × HV)} {xs : List Int32} {Co Cp Cd T Hs : va_W} (ho : IsRow D r 2600 c0 xs Co) (hp : IsPlA D p Cp) (hd : IsDr D d ts hs Cd T Hs) (hok : DrOK ts hs) (hf : layOK kf) (ht : layOK kt) (hk : ¬ (kp = true ∧ kf0 = kf ∧ kt0 = kt))
    (hr : rmOk R 7 (15 * upl ts + (capN c0 0 (textD kf kt (ts.map tvo) (hs.map (fun h => h.2))).length - c0) / 8) (240 * upl ts + 2 * (capN c0 0 (textD kf kt (ts.map tvo) (hs.map (fun h => h.2))).length - c0))) :
    Ct l mTw_textOf D R [.ref w, .ref d, .int kf, .int kt] [sTw w p r kp kf0 kt0, Co, Cp, Cd, T, Hs] (fun v S => v = some (.ref r) ∧ ∃ Co' Cp' T' ts', S = [sTw w p r true kf kt, Co', Cp', Cd, T', Hs] ∧ IsOut D r c0 (textD kf kt (ts.map tvo) (hs.map (fun h => h.2))) Co' ∧ IsPlA D p Cp' ∧ IsDr D d ts' hs Cd T' Hs ∧ DrOK ts' hs ∧ ts'.map tvo = ts.map tvo ∧ upl ts' = 0) := by
  obtain ⟨r1, r2, r3, r4⟩ := hr
  obtain ⟨ta, ha, ft, fh, eCd, hT, hHs, h1, h2, h3, h4⟩ := id hd
  have htv : ∀ t ∈ ts.map tvo, tvOK t := by
    intro t ht
    obtain ⟨u, hu, rfl⟩ := List.mem_map.mp ht
    obtain ⟨i, hi, e⟩ := List.getElem_of_mem hu
    exact (hok.1 i u (by rw [List.getElem?_eq_getElem hi, e])).2.2.2.1
  have hWl := textD_len (hv := hs.map (fun h => h.2)) hf ht (show (ts.map tvo).length ≤ 10 by simp; exact h3) htv (by simp; exact h4)
  have hWe : textD kf kt (ts.map tvo) (hs.map (fun h => h.2)) = headT kf kt (ts.map tvo) ++ (thits kf kt (hs.map (fun h => h.2)) 0 ts.length ++ [77, 51, 48, 10]) := by unfold textD; rw [List.length_map]
  generalize hW : textD kf kt (ts.map tvo) (hs.map (fun h => h.2)) = W at r3 r4 hWl hWe ⊢
  generalize hN : W.length = N at r3 r4 hWl
  generalize hU : upl ts = U at r3 r4
  refine Ct.of rfl (by decide) tkTw_textOf (Nat.le_of_ble_eq_true rfl) (fun A => ?_)
  generalize hQ : (fun (v : Option Value) S => v = some (.ref r) ∧ ∃ Co' Cp' T' ts', S = [sTw w p r true kf kt, Co', Cp', Cd, T', Hs] ∧ IsOut D r c0 W Co' ∧ IsPlA D p Cp' ∧ IsDr D d ts' hs Cd T' Hs ∧ DrOK ts' hs ∧ ts'.map tvo = ts.map tvo ∧ upl ts' = 0) = Q
  have ge0 : ∀ ys : List Int32, c0 ≤ capN c0 0 ys.length := fun ys => capN_ge _ _ _
  have loop : ∀ (m i : Nat), ts.length - i < m → i ≤ ts.length → ∀ (ts' : List TV) (T' Cp' C' : va_W) (ys : List Int32), IsOut D r c0 ys C' → IsPlA D p Cp' → IsDr D d ts' hs Cd T' Hs → DrOK ts' hs → ts'.map tvo = ts.map tvo → (∀ j, i ≤ j → ts'[j]? = ts[j]?) → upl (ts'.take i) = 0 → ys ++ (thits kf kt (hs.map (fun h => h.2)) i (ts.length - i) ++ [77, 51, 48, 10]) = W → ∀ lv9 : List (Nat × Value), (∀ q ∈ [(4, Value.int (nI i)), (0, .ref w), (1, .ref d), (2, .int kf), (3, .int kt)], q ∈ lv9) →
      Ex l mTw_textOf D R A (xQ D A Q) R.cells R.slots 58 lv9 [] [sTw w p r true kf kt, C', Cp', Cd, T', Hs] (15 * (U - upl (ts.drop i)) + (capN c0 0 ys.length - c0) / 8) (240 * (U - upl (ts.drop i)) + 2 * (capN c0 0 ys.length - c0)) := by
    intro m
    induction m with
    | zero => intro i h; omega
    | succ m ih =>
      intro i hm hi ts' T' Cp' C' ys hC' hp' hd' hok' etv hsame hpl hyW lv9 hlv
      refine Ex.lv hlv ?_
      have hyN : ys.length ≤ N := by rw [← hN, ← hyW]; simp
      have q2 := capN_mono (c := c0) (n := 0) hyN
      have q0 := ge0 ys
      have hu := upl_le ts i
      have hl' : ts'.length = ts.length := by have := congrArg List.length etv; simpa using this
      refine Ex.p rfl ?_
      refine Ex.p rfl ?_
      refine Ex.gf 3 0 rfl (by rw [eCd]; rfl) rfl ?_
      refine Ex.br rfl (fun c1 => ?_) (fun c1 => ?_)
      · rw [nI_leI (by omega) (by omega)] at c1
        have hi9 : i = ts.length := by omega
        subst hi9
        rw [Nat.sub_self] at hyW
        have hyW : ys ++ [77, 51, 48, 10] = W := hyW
        refine Ex.p rfl ?_
        refine Ex.gf 0 0 rfl rfl rfl ?_
        refine Ex.ldcS rfl ?_
        refine Ex.oText (N := N) (t := 6) (Sr := [sTw w p r true kf kt, Cp', Cd, T', Hs]) 1 [0, 2, 3, 4, 5] hC' (by omega) rfl rfl lk_8_63 rfl rfl rfl (by decide) (Nat.le_of_ble_eq_true rfl) (by decide) (by rw [← hN, ← hyW]; exact Nat.le_refl _) (by omega) (by omega) (by omega) (by omega) (by omega) (fun C3 hC3 => ?_)
        have hC3 : IsOut D r c0 W C3 := by rw [← hyW]; exact hC3
        rw [show ys ++ txt 6 = W from hyW, hN]
        refine Ex.p rfl ?_
        refine Ex.gf 0 0 rfl rfl rfl ?_
        refine Ex.sub (S' := [sTw w p r true kf kt, C3, Cp', Cd, T', Hs]) [0, 5, 1, 2, 3, 4] rfl rfl ?_
        refine Ex.aret rfl rfl (Or.inr ⟨_, rfl⟩) (by omega) (by omega) rfl ?_
        subst hQ
        rw [List.take_of_length_le (by omega)] at hpl
        exact ⟨rfl, C3, Cp', T', ts', rfl, hC3, hp', hd', hok', etv, hpl⟩
      · rw [nI_leI (by omega) (by omega)] at c1
        have hi9 : i < ts.length := by omega
        have hti : ts[i]? = some ts[i] := List.getElem?_eq_getElem hi9
        have hti' : ts'[i]? = some ts[i] := by rw [hsame i (Nat.le_refl _), hti]
        have hud := upl_drop hti
        have htok := hok'.1 i _ hti'
        rw [show ts.length - i = (ts.length - (i + 1)) + 1 by omega] at hyW
        obtain ⟨X, C, Y, rfl, hC, hback⟩ := hd'.at hti'
        generalize ts[i] = t9 at hti hti' hud htok hC hback
        have hu2 := upl_le ts (i + 1)
        have hyW : ys ++ ((whits (nI i) kf kt false ((tor (hs.map (fun h => h.2)) i).map (fun k => (hs.map (fun h => h.2)).getD k ogv)) ++ thits kf kt (hs.map (fun h => h.2)) (i + 1) (ts.length - (i + 1))) ++ [77, 51, 48, 10]) = W := hyW
        have hle2 : (ys ++ whits (nI i) kf kt false ((tor (hs.map (fun h => h.2)) i).map (fun k => (hs.map (fun h => h.2)).getD k ogv))).length ≤ N := by rw [← hN, ← hyW]; simp only [List.length_append]; omega
        generalize hys2 : ys ++ whits (nI i) kf kt false ((tor (hs.map (fun h => h.2)) i).map (fun k => (hs.map (fun h => h.2)).getD k ogv)) = ys2 at hle2
        have q5 := capN_mono (c := c0) (n := 0) hle2
        have q6 := capN_mono (c := c0) (n := 0) (show ys.length ≤ ys2.length by rw [← hys2]; simp)
        obtain ⟨rh, ro, Ch, Cq, eC, -⟩ := id hC
        refine Ex.p rfl ?_
        refine Ex.p rfl ?_
        refine Ex.cv (Mc := mDr_toolAt) (Rc := rm 0 0 0) (As := [.int (nI i)]) (rest := []) (Sr := [sTw w p r true kf kt, C', Cp', X ++ (C ++ Y), Hs]) (ic := 3) (jc := 0) (ci := 1) [3] [0, 1, 2, 4, 5] (ct_Dr_toolAt hd') rfl lk_8_47 lcDr_toolAt rfl rfl rfl rfl rfl (by decide) rfl (by rw [eCd]; rfl) rfl (by decide) ⟨by dsimp only [rm]; omega, by show 8 + (2 + 11) + 0 ≤ R.locals; omega⟩ (Nat.le_of_ble_eq_true rfl) (by dsimp only [rm]; omega) (by dsimp only [rm]; omega) ?_
        rintro v S1 ⟨rfl, rfl⟩
        rw [ixo, nI_toInt (by omega), if_pos (by omega), Int.toNat_natCast, hti']
        refine Ex.more (k' := 15 * (U - upl (ts.drop i)) + (capN c0 0 ys.length - c0) / 8) (n' := 240 * (U - upl (ts.drop i)) + 2 * (capN c0 0 ys.length - c0)) (by dsimp only [rm]; omega) (by dsimp only [rm]; omega) ?_
        refine Ex.sub (S' := [sTw w p r true kf kt, C', Cp', Cd, X ++ (C ++ Y), Hs]) [0, 1, 2, 5, 3, 4] rfl rfl ?_
        refine Ex.seg (S' := [sTw w p r true kf kt, C', Cp', Cd, X, C, Y, Hs]) (by simp) ?_
        refine Ex.p rfl ?_
        refine Ex.p rfl ?_
        refine Ex.nuR rfl ?_
        refine Ex.p rfl ?_
        refine Ex.gf 0 0 rfl rfl rfl ?_
        refine Ex.p rfl ?_
        refine Ex.p rfl ?_
        obtain ⟨og, mi, dn, wy, rs, fm9, fd9, fw9, fr9, cnt9, lst9, ePl⟩ : ∃ og mi dn wy rs fm9 fd9 fw9 fr9 cnt9 lst9, Cp' = sPl D p og mi dn wy rs fm9 fd9 fw9 fr9 cnt9 lst9 := by
          obtain ⟨fm9, fd9, fw9, fr9, cnt9, lst9, og, mi, dn, wy, rs, e⟩ := hp'
          exact ⟨og, mi, dn, wy, rs, fm9, fd9, fw9, fr9, cnt9, lst9, e⟩
        have hcost : (if t9.2.2.2.2.2.2.1 = true then 0 else 15) = 15 * (if t9.2.2.2.2.2.2.1 = true then 0 else 1) ∧ (if t9.2.2.2.2.2.2.1 = true then 0 else 240) = 240 * (if t9.2.2.2.2.2.2.1 = true then 0 else 1) := by split <;> simp
        refine Ex.cv (Mc := mPl_plan) (Rc := rm 5 (if t9.2.2.2.2.2.2.1 = true then 0 else 15) (if t9.2.2.2.2.2.2.1 = true then 0 else 240)) (As := [.ref d, .ref t9.1]) (rest := []) (Sr := [sTw w p r true kf kt, C', X, Y]) (ic := 2) (jc := 0) (ci := 4) [2, 3, 5, 7] [0, 1, 4, 6] (ct_planT hp' hd' hC htok (rm_ok _ _ _)) rfl lk_8_51 lcPl_plan rfl rfl rfl rfl rfl (by decide) rfl (by rw [ePl]; rfl) rfl (by decide) ⟨by dsimp only [rm]; omega, by show 8 + (3 + 11) + 200 ≤ R.locals; omega⟩ (Nat.le_of_ble_eq_true rfl) (by dsimp only [rm]; omega) (by dsimp only [rm]; omega) ?_
        rintro v S1 ⟨rfl, Cp2, C2, t2, rfl, hp2, hC2, htok2, hpn2, e2, etv2⟩
        have hd2 := hback t2 C2 hC2 e2
        refine Ex.more (k' := 15 * (U - upl (ts.drop (i + 1))) + (capN c0 0 ys.length - c0) / 8) (n' := 240 * (U - upl (ts.drop (i + 1))) + 2 * (capN c0 0 ys.length - c0)) (by dsimp only [rm]; rw [hcost.1]; omega) (by dsimp only [rm]; rw [hcost.2]; omega) ?_
        have hos2 := htok2.2.2.2.2 hpn2
        have hC2' := id hC2
        unfold IsT at hC2'
        rw [hos2.1] at hC2'
        rw [e2] at hC2'
        have hnr : ∀ h ∈ hs, hnear h.2 := fun h hh => (hok.2 h hh).1
        have htl : (tor (hs.map (fun h => h.2)) i).length ≤ hs.length := by
          have h1 := tor_len (hs.map (fun h => h.2)) i
          have h2 : (tns (hs.map (fun h => h.2)) i).length ≤ (hs.map (fun h => h.2)).length := tnsA_len _ _ _
          rw [List.length_map] at h2
          omega
        refine Ex.p rfl ?_
        refine Ex.p rfl ?_
        refine Ex.p rfl ?_
        refine Ex.p rfl ?_
        refine Ex.cv (Mc := mTw_writeHits) (Rc := rm 6 ((capN c0 0 ys2.length - capN c0 0 ys.length) / 8) (2 * (capN c0 0 ys2.length - capN c0 0 ys.length))) (As := [.ref d, .ref t9.1, .int (nI i)]) (rest := []) (Sr := [X, Y, Cp2]) (ic := 0) (jc := 0) (ci := 8) [0, 1, 5, 6, 7] [2, 3, 4] (ct_Tw_writeHits hC' hd2 hC2' (fun n hn => by have := tor_mem hn; rw [List.length_map] at this; exact this) (by omega) hnr (by omega) (by rw [hys2]; omega) (by rw [hys2]; exact rm_ok _ _ _)) rfl lk_8_57 lcTw_writeHits rfl rfl rfl rfl rfl (by decide) rfl rfl rfl (by decide) ⟨by dsimp only [rm]; omega, by show 8 + (7 + 11) + 240 ≤ R.locals; omega⟩ (Nat.le_of_ble_eq_true rfl) (by dsimp only [rm]; omega) (by dsimp only [rm]; omega) ?_
        rintro v S1 ⟨rfl, C3, rfl, hC3⟩
        rw [hys2] at hC3
        refine Ex.more (k' := 15 * (U - upl (ts.drop (i + 1))) + (capN c0 0 ys2.length - c0) / 8) (n' := 240 * (U - upl (ts.drop (i + 1))) + 2 * (capN c0 0 ys2.length - c0)) (by dsimp only [rm]; omega) (by dsimp only [rm]; omega) ?_
        refine Ex.sub (S' := [sTw w p r true kf kt, C3, Cp2, Cd, X, C2, Y, Hs]) [3, 4, 2, 5, 0, 6, 1, 7] rfl rfl ?_
        refine Ex.seg (S' := [sTw w p r true kf kt, C3, Cp2, Cd, X ++ (C2 ++ Y), Hs]) (by simp) ?_
        refine Ex.p rfl ?_
        refine Ex.p rfl ?_
        rw [i_add1]
        have hi' : i < ts'.length := by omega
        refine ih (i + 1) (by omega) (by omega) (ts'.set i t2) _ Cp2 C3 ys2 hC3 hp2 hd2 ⟨fun j u hj => ?_, hok.2⟩ ?_ (fun j hj => ?_) ?_ ?_ _ (fun q h => ?_)
        · by_cases hij : i = j
          · subst hij
            rw [List.getElem?_set_self hi'] at hj
            cases hj
            exact htok2
          · rw [List.getElem?_set_ne hij] at hj
            exact hok'.1 j u hj
        · rw [← etv]
          refine List.ext_getElem? fun j => ?_
          rw [List.getElem?_map, List.getElem?_map]
          by_cases hij : i = j
          · subst hij
            rw [List.getElem?_set_self hi', hti']
            show some (tvo t2) = some (tvo t9)
            rw [etv2]
          · rw [List.getElem?_set_ne hij]
        · rw [List.getElem?_set_ne (by omega)]
          exact hsame j (by omega)
        · have e9 : (ts'.set i t2).take (i + 1) = ts'.take i ++ [t2] := by
            rw [List.take_succ, List.getElem?_set_self hi', List.take_set_of_le (Nat.le_refl _)]
            rfl
          rw [e9, upl_app, hpl]
          simp [upl, hpn2]
        · rw [← hys2, ← hyW]; simp
        · simp only [List.mem_cons, List.not_mem_nil, or_false] at h
          rcases h with rfl | rfl | rfl | rfl | rfl <;> simp [xs1, Value.category, b32]
  have hhl : (headT kf kt (ts.map tvo)).length ≤ N := by rw [← hN, hWe]; simp only [List.length_append]; omega
  have q5 := capN_mono (c := c0) (n := 0) hhl
  have q6 := ge0 (headT kf kt (ts.map tvo))
  have main : Ex l mTw_textOf D R A (xQ D A Q) R.cells R.slots 28 [(0, .ref w), (1, .ref d), (2, .int kf), (3, .int kt)] [] [sTw w p r kp kf0 kt0, Co, Cp, Cd, T, Hs] 0 0 := by
    refine Ex.p rfl ?_
    refine Ex.p rfl ?_
    refine Ex.pf 0 0 rfl rfl rfl rfl rfl rfl ?_
    refine Ex.p rfl ?_
    refine Ex.p rfl ?_
    refine Ex.pf 0 0 rfl rfl rfl rfl rfl rfl ?_
    refine Ex.p rfl ?_
    refine Ex.p rfl ?_
    refine Ex.pf 0 0 rfl rfl rfl rfl rfl rfl ?_
    refine Ex.p rfl ?_
    refine Ex.gf 0 0 rfl rfl rfl ?_
    obtain ⟨arr, f, eCo, -⟩ := id ho
    refine Ex.cv (Mc := mRo_empty) (Rc := rm 0 0 0) (As := []) (rest := []) (Sr := [sTw w p r true kf kt, Cp, Cd, T, Hs]) (ic := 1) (jc := 0) (ci := 5) [1] [0, 2, 3, 4, 5] (ct_Ro_empty ho) rfl lk_8_35 lcRo_empty rfl rfl rfl rfl rfl (by decide) rfl (by rw [eCo]; rfl) rfl (by decide) ⟨by dsimp only [rm]; omega, by show 8 + (1 + 11) + 0 ≤ R.locals; omega⟩ (Nat.le_of_ble_eq_true rfl) (by dsimp only [rm]; omega) (by dsimp only [rm]; omega) ?_
    rintro v S1 ⟨rfl, C1, rfl, hC1⟩
    refine Ex.p rfl ?_
    refine Ex.p rfl ?_
    refine Ex.cv (Mc := mTw_writeHead) (Rc := rm 5 ((capN c0 0 (headT kf kt (ts.map tvo)).length - c0) / 8) (2 * (capN c0 0 (headT kf kt (ts.map tvo)).length - c0))) (As := [.ref d]) (rest := []) (Sr := [Cp, Hs]) (ic := 0) (jc := 0) (ci := 8) [0, 5, 2, 3] [1, 4] (ct_Tw_writeHead hC1 hd (by have := hf.1; have := hf.2; omega) (by have := ht.1; have := ht.2; omega) (fun t h9 => by have := htv (tvo t) (List.mem_map.mpr ⟨t, h9, rfl⟩); unfold tvOK at this; dsimp only [tvo] at this; omega) (by omega) (rm_ok _ _ _)) rfl lk_8_38 lcTw_writeHead rfl rfl rfl rfl rfl (by decide) rfl rfl rfl (by decide) ⟨by dsimp only [rm]; omega, by show 8 + (4 + 11) + 200 ≤ R.locals; omega⟩ (Nat.le_of_ble_eq_true rfl) (by dsimp only [rm]; omega) (by dsimp only [rm]; omega) ?_
    rintro v S1 ⟨rfl, C2, rfl, hC2⟩
    refine Ex.p rfl ?_
    refine Ex.p rfl ?_
    refine Ex.sub (S' := [sTw w p r true kf kt, C2, Cp, Cd, T, Hs]) [2, 3, 0, 4, 5, 1] rfl rfl ?_
    refine Ex.more (k' := 15 * (U - upl (ts.drop 0)) + (capN c0 0 (headT kf kt (ts.map tvo)).length - c0) / 8) (n' := 240 * (U - upl (ts.drop 0)) + 2 * (capN c0 0 (headT kf kt (ts.map tvo)).length - c0)) (by dsimp only [rm]; omega) (by dsimp only [rm]; omega) ?_
    refine loop (ts.length + 1) 0 (by omega) (by omega) ts T Cp C2 _ hC2 hp hd hok rfl (fun _ _ => rfl) rfl (by rw [hWe]; simp) _ (fun q h => ?_)
    simp only [List.mem_cons, List.not_mem_nil, or_false] at h
    rcases h with rfl | rfl | rfl | rfl | rfl <;> simp [xs1, lv_args, Value.category, b32, nI]
  refine Ex.p rfl ?_
  refine Ex.gf 0 0 rfl rfl rfl ?_
  cases kp with
  | false => exact Ex.br rfl (fun _ => main) (fun c => absurd rfl c)
  | true =>
    refine Ex.br rfl (fun c => absurd c (by decide)) (fun _ => ?_)
    refine Ex.p rfl ?_
    refine Ex.gf 0 0 rfl rfl rfl ?_
    refine Ex.p rfl ?_
    refine Ex.br rfl (fun _ => main) (fun c1 => ?_)
    have c1 : kf0 = kf := Decidable.byContradiction c1
    refine Ex.p rfl ?_
    refine Ex.gf 0 0 rfl rfl rfl ?_
    refine Ex.p rfl ?_
    refine Ex.br rfl (fun _ => main) (fun c2 => ?_)
    have c2 : kt0 = kt := Decidable.byContradiction c2
    exact absurd ⟨rfl, c1, c2⟩ hk
end TX

/-! TextWriter: writeHead -/
def tlines : Nat → List (Int32 × Bool) → List Int32
  | _, [] => []
  | i, t :: r => part 84 (nI i) ++ (part 67 t.1 ++ ((if t.2 then [80, 10] else [78, 10]) ++ tlines (i + 1) r))
def headT (kf kt : Int32) (tv : List (Int32 × Bool)) : List Int32 := [77, 52, 56, 10] ++ (part 76 kf ++ (part 44 kt ++ ([10] ++ (tlines 0 tv ++ [37, 10]))))
/-- a tool's diameter and whether it is plated -/
abbrev tvo (t : TV) : Int32 × Bool := (t.2.1, t.2.2.1)
theorem IsTs.cell {D : xD} {ts : List TV} {T : va_W} (h : IsTs D ts T) {i : Nat} {t : TV} (hi : ts[i]? = some t) : ∃ (j rh ro : Nat), T[j]? = some (cTo t.1 t.2.1 t.2.2.1 rh ro t.2.2.2.2.2.1 t.2.2.2.2.2.2.1) := by
  obtain ⟨X, C, Y, rfl, ⟨rh, ro, Ch, Co, rfl, -⟩, -⟩ := h.at hi
  exact ⟨X.length, rh, ro, by simp⟩
section WD
variable {l : Launch} {D : xD} {R : Room}
theorem ct_Tw_writeHead {w p r c0 d : Nat} {kp : Bool} {kf kt : Int32} {ts : List TV} {hs : List (Nat × HV)} {Co Cd T Hs : va_W} (ho : IsOut D r c0 [] Co) (hd : IsDr D d ts hs Cd T Hs) (hkf : kf.toInt.natAbs ≤ 1000000) (hkt : kt.toInt.natAbs ≤ 1000000) (hdm : ∀ t ∈ ts, t.2.1.toInt.natAbs ≤ 1000000)
    (hL : (headT kf kt (ts.map tvo)).length + 9 ≤ 2600) (hr : rmOk R 5 ((capN c0 0 (headT kf kt (ts.map tvo)).length - c0) / 8) (2 * (capN c0 0 (headT kf kt (ts.map tvo)).length - c0))) :
    Ct l mTw_writeHead D R [.ref w, .ref d] [sTw w p r kp kf kt, Co, Cd, T] (fun v S => v = none ∧ ∃ Co', S = [sTw w p r kp kf kt, Co', Cd, T] ∧ IsOut D r c0 (headT kf kt (ts.map tvo)) Co') := by
  obtain ⟨r1, r2, r3, r4⟩ := hr
  generalize hW : headT kf kt (ts.map tvo) = W at hL r3 r4 ⊢
  generalize hN : W.length = N at hL r3 r4
  obtain ⟨ta, ha, ft, fh, eCd, hT, hHs, h1, h2, h3, h4⟩ := id hd
  refine Ct.of rfl (by decide) tkTw_writeHead (Nat.le_of_ble_eq_true rfl) (fun A => ?_)
  generalize hQ : (fun (v : Option Value) S => v = none ∧ ∃ Co', S = [sTw w p r kp kf kt, Co', Cd, T] ∧ IsOut D r c0 W Co') = Q
  have ge0 : ∀ ys : List Int32, c0 ≤ capN c0 0 ys.length := fun ys => capN_ge _ _ _
  have loop : ∀ (m i : Nat), ts.length - i < m → i ≤ ts.length → ∀ (ys : List Int32) (C' : va_W), IsOut D r c0 ys C' → ys ++ (tlines i ((ts.drop i).map tvo) ++ [37, 10]) = W → ∀ lv9 : List (Nat × Value), (∀ q ∈ [(2, Value.int (nI i)), (0, .ref w), (1, .ref d)], q ∈ lv9) →
      Ex l mTw_writeHead D R A (xQ D A Q) R.cells R.slots 47 lv9 [] [sTw w p r kp kf kt, C', Cd, T] (0 + (capN c0 0 ys.length - c0) / 8) (0 + 2 * (capN c0 0 ys.length - c0)) := by
    intro m
    induction m with
    | zero => intro i h; omega
    | succ m ih =>
      intro i hm hi ys C' hC' hyW lv9 hlv
      refine Ex.lv hlv ?_
      have hyN : ys.length ≤ N := by rw [← hN, ← hyW]; simp
      have q2 := capN_mono (c := c0) (n := 0) hyN
      have q0 := ge0 ys
      refine Ex.p rfl ?_
      refine Ex.p rfl ?_
      refine Ex.gf 2 0 rfl (by rw [eCd]; rfl) rfl ?_
      refine Ex.br rfl (fun c1 => ?_) (fun c1 => ?_)
      · rw [nI_leI (by omega) (by omega)] at c1
        have hi9 : i = ts.length := by omega
        rw [hi9, List.drop_length] at hyW
        have hyW : ys ++ [37, 10] = W := hyW
        refine Ex.p rfl ?_
        refine Ex.gf 0 0 rfl rfl rfl ?_
        refine Ex.ldcS rfl ?_
        refine Ex.oText (N := N) (t := 4) (Sr := [sTw w p r kp kf kt, Cd, T]) 1 [0, 2, 3] hC' (by omega) rfl rfl lk_8_63 rfl rfl rfl (by decide) (Nat.le_of_ble_eq_true rfl) (by decide) (by rw [← hN, ← hyW]; exact Nat.le_refl _) (by omega) (by omega) (by omega) (by omega) (by omega) (fun C3 hC3 => ?_)
        have hC3 : IsOut D r c0 W C3 := by rw [← hyW]; exact hC3
        rw [show ys ++ txt 4 = W from hyW, hN]
        refine Ex.sub (S' := [sTw w p r kp kf kt, C3, Cd, T]) [0, 3, 1, 2] rfl rfl ?_
        refine Ex.vret rfl rfl (by omega) (by omega) rfl ?_
        subst hQ
        exact ⟨rfl, C3, rfl, hC3⟩
      · rw [nI_leI (by omega) (by omega)] at c1
        have hi9 : i < ts.length := by omega
        have hti : ts[i]? = some ts[i] := List.getElem?_eq_getElem hi9
        rw [List.drop_eq_getElem_cons hi9, List.map_cons] at hyW
        have hdi := hdm _ (List.getElem_mem hi9)
        obtain ⟨jj, rh, ro, hat⟩ := IsTs.cell (D := D) (ts := ts) hT hti
        have hyW : ys ++ ((part 84 (nI i) ++ (part 67 ts[i].2.1 ++ ((if ts[i].2.2.1 then [80, 10] else [78, 10]) ++ tlines (i + 1) ((ts.drop (i + 1)).map tvo)))) ++ [37, 10]) = W := hyW
        refine Ex.p rfl ?_
        refine Ex.p rfl ?_
        refine Ex.cv (Mc := mDr_toolAt) (Rc := rm 0 0 0) (As := [.int (nI i)]) (rest := []) (Sr := [sTw w p r kp kf kt, C', T]) (ic := 2) (jc := 0) (ci := 1) [2] [0, 1, 3] (ct_Dr_toolAt hd) rfl lk_8_47 lcDr_toolAt rfl rfl rfl rfl rfl (by decide) rfl (by rw [eCd]; rfl) rfl (by decide) ⟨by dsimp only [rm]; omega, by show 8 + (2 + 11) + 0 ≤ R.locals; omega⟩ (Nat.le_of_ble_eq_true rfl) (by dsimp only [rm]; omega) (by dsimp only [rm]; omega) ?_
        rintro v S1 ⟨rfl, rfl⟩
        rw [ixo, nI_toInt (by omega), if_pos (by omega), Int.toNat_natCast, hti]
        refine Ex.more (k' := 0 + (capN c0 0 ys.length - c0) / 8) (n' := 0 + 2 * (capN c0 0 ys.length - c0)) (by dsimp only [rm]; omega) (by dsimp only [rm]; omega) ?_
        generalize ts[i] = t9 at hat hdi hyW
        refine Ex.p rfl ?_
        refine Ex.p rfl ?_
        refine Ex.nuR rfl ?_
        refine Ex.p rfl ?_
        refine Ex.gf 0 0 rfl rfl rfl ?_
        refine Ex.p rfl ?_
        refine Ex.p rfl ?_
        refine Ex.oPart (N := N) (c := 84) (Sr := [sTw w p r kp kf kt, T, Cd]) 1 [0, 2, 3] hC' (by omega) rfl rfl lk_8_69 rfl rfl rfl (by decide) (Nat.le_of_ble_eq_true rfl) (by rw [nI_toInt (by omega)]; omega) (by rw [← hN, ← hyW]; simp only [List.length_append]; omega) (by omega) (by omega) (by omega) (by omega) (by omega) (fun C2 hC2 => ?_)
        have q3 := ge0 (ys ++ part 84 (nI i))
        refine Ex.p rfl ?_
        refine Ex.gf 0 0 rfl rfl rfl ?_
        refine Ex.p rfl ?_
        refine Ex.p rfl ?_
        refine Ex.gf 1 jj rfl hat rfl ?_
        refine Ex.oPart (N := N) (c := 67) (Sr := [sTw w p r kp kf kt, T, Cd]) 3 [0, 1, 2] hC2 (by omega) rfl rfl lk_8_69 rfl rfl rfl (by decide) (Nat.le_of_ble_eq_true rfl) hdi (by rw [← hN, ← hyW]; simp only [List.length_append]; omega) (by omega) (by omega) (by omega) (by omega) (by omega) (fun C3 hC3 => ?_)
        have q4 := ge0 (ys ++ part 84 (nI i) ++ part 67 t9.2.1)
        have fin : ∀ (tt : Nat), tt < gSN → txt tt = (if t9.2.2.1 then [80, 10] else [78, 10]) → Ex l mTw_writeHead D R A (xQ D A Q) R.cells R.slots 106 [(3, .ref t9.1), (2, Value.int (nI i)), (0, .ref w), (1, .ref d)] [.ref (D.2.2.2.1 tt), .ref r] [sTw w p r kp kf kt, T, Cd, C3] (0 + (capN c0 0 (ys ++ part 84 (nI i) ++ part 67 t9.2.1).length - c0) / 8) (0 + 2 * (capN c0 0 (ys ++ part 84 (nI i) ++ part 67 t9.2.1).length - c0)) := by
          intro tt htt ett
          rw [← ett] at hyW
          refine Ex.oText (N := N) (t := tt) (Sr := [sTw w p r kp kf kt, T, Cd]) 3 [0, 1, 2] hC3 (by omega) rfl rfl lk_8_63 rfl rfl rfl (by decide) (Nat.le_of_ble_eq_true rfl) htt (by rw [← hN, ← hyW]; simp only [List.length_append]; omega) (by omega) (by omega) (by omega) (by omega) (by omega) (fun C4 hC4 => ?_)
          refine Ex.p rfl ?_
          refine Ex.p rfl ?_
          rw [i_add1]
          refine Ex.sub (S' := [sTw w p r kp kf kt, C4, Cd, T]) [0, 3, 2, 1] rfl rfl ?_
          refine ih (i + 1) (by omega) (by omega) _ C4 hC4 (by rw [← hyW]; simp) _ (fun q h => ?_)
          simp only [List.mem_cons, List.not_mem_nil, or_false] at h
          rcases h with rfl | rfl | rfl <;> simp [xs1, Value.category, b32]
        refine Ex.p rfl ?_
        refine Ex.gf 0 0 rfl rfl rfl ?_
        refine Ex.p rfl ?_
        refine Ex.gf 1 jj rfl hat rfl ?_
        cases hpl : t9.2.2.1 with
        | true =>
          refine Ex.br rfl (fun c => absurd c (by decide)) (fun _ => ?_)
          refine Ex.ldcS rfl ?_
          refine Ex.p rfl ?_
          refine fin 2 (by decide) (by rw [hpl]; rfl)
        | false =>
          refine Ex.br rfl (fun _ => ?_) (fun c => absurd rfl c)
          refine Ex.ldcS rfl ?_
          refine fin 3 (by decide) (by rw [hpl]; rfl)
  have hyW : [77, 52, 56, 10] ++ (part 76 kf ++ (part 44 kt ++ ([10] ++ (tlines 0 (ts.map tvo) ++ [37, 10])))) = W := hW
  refine Ex.more (k' := 0 + (capN c0 0 ([] : List Int32).length - c0) / 8) (n' := 0 + 2 * (capN c0 0 ([] : List Int32).length - c0)) (Nat.zero_le _) (Nat.zero_le _) ?_
  have q0 := ge0 []
  refine Ex.p rfl ?_
  refine Ex.gf 0 0 rfl rfl rfl ?_
  refine Ex.ldcS rfl ?_
  refine Ex.oText (N := N) (t := 0) (Sr := [sTw w p r kp kf kt, Cd, T]) 1 [0, 2, 3] ho (by omega) rfl rfl lk_8_63 rfl rfl rfl (by decide) (Nat.le_of_ble_eq_true rfl) (by decide) (by rw [← hN, ← hyW]; simp [txt, gSB]) (by omega) (by omega) (by omega) (by omega) (by omega) (fun C1 hC1 => ?_)
  have q1 := ge0 ([] ++ txt 0)
  refine Ex.p rfl ?_
  refine Ex.gf 0 0 rfl rfl rfl ?_
  refine Ex.p rfl ?_
  refine Ex.p rfl ?_
  refine Ex.gf 0 0 rfl rfl rfl ?_
  refine Ex.oPart (N := N) (c := 76) (Sr := [sTw w p r kp kf kt, Cd, T]) 3 [0, 1, 2] hC1 (by omega) rfl rfl lk_8_69 rfl rfl rfl (by decide) (Nat.le_of_ble_eq_true rfl) hkf (by rw [← hN, ← hyW]; simp [txt, gSB] <;> omega) (by omega) (by omega) (by omega) (by omega) (by omega) (fun C2 hC2 => ?_)
  have q2 := ge0 ([] ++ txt 0 ++ part 76 kf)
  refine Ex.p rfl ?_
  refine Ex.gf 0 0 rfl rfl rfl ?_
  refine Ex.p rfl ?_
  refine Ex.p rfl ?_
  refine Ex.gf 0 0 rfl rfl rfl ?_
  refine Ex.oPart (N := N) (c := 44) (Sr := [sTw w p r kp kf kt, Cd, T]) 3 [0, 1, 2] hC2 (by omega) rfl rfl lk_8_69 rfl rfl rfl (by decide) (Nat.le_of_ble_eq_true rfl) hkt (by rw [← hN, ← hyW]; simp [txt, gSB] <;> omega) (by omega) (by omega) (by omega) (by omega) (by omega) (fun C3 hC3 => ?_)
  have q3 := ge0 ([] ++ txt 0 ++ part 76 kf ++ part 44 kt)
  refine Ex.p rfl ?_
  refine Ex.gf 0 0 rfl rfl rfl ?_
  refine Ex.p rfl ?_
  refine Ex.oPush (N := N) (x := 10) (Sr := [sTw w p r kp kf kt, Cd, T]) 3 [0, 1, 2] hC3 (by omega) rfl rfl lk_8_73 rfl rfl rfl (by decide) (Nat.le_of_ble_eq_true rfl) (by rw [← hN, ← hyW]; simp [txt, gSB] <;> omega) (by omega) (by omega) (by omega) (by omega) (by omega) (fun C4 hC4 => ?_)
  refine Ex.p rfl ?_
  refine Ex.p rfl ?_
  refine Ex.p rfl ?_
  refine Ex.sub (S' := [sTw w p r kp kf kt, C4, Cd, T]) [0, 3, 1, 2] rfl rfl ?_
  refine loop (ts.length + 1) 0 (by omega) (by omega) _ C4 hC4 (by rw [← hyW]; simp [txt, gSB]) _ (fun q h => ?_)
  simp only [List.mem_cons, List.not_mem_nil, or_false] at h
  rcases h with rfl | rfl | rfl <;> simp [xs1, lv_args, Value.category, b32, nI]
end WD

/-! TextWriter: writeHits -/
/-- the lines of a tool's hits of the layers kf to kt, the tool named before the first -/
def whits (nm kf kt : Int32) : Bool → List HV → List Int32
  | _, [] => []
  | b, h :: r => if h.2.2.2.2.2.1 = kf ∧ h.2.2.2.2.2.2 = kt then (if b then [] else part 84 nm ++ [10]) ++ (hline h ++ whits nm kf kt true r) else whits nm kf kt b r
abbrev cTo (t : Nat) (dm : Int32) (pl : Bool) (rh ro : Nat) (len : Int64) (pn : Bool) : Nat × va_E := (t, .inr (9, [.int dm, .int (b32 pl), .ref rh, .ref ro, .long len, .int (b32 pn)]))
section WS
variable {l : Launch} {D : xD} {R : Room}
theorem ct_Tw_writeHits {w p r c0 d t ch co nm : Nat} {kp pl pn : Bool} {kf kt dm : Int32} {len : Int64} {xs hrow : List Int32} {ts : List TV} {hs : List (Nat × HV)} {ks : List Nat} {Co Cd T Hs C : va_W} (ho : IsOut D r c0 xs Co) (hd : IsDr D d ts hs Cd T Hs) (ht : IsTool D t dm pl hrow (ks.map nI) len pn ch co C) (hks : ∀ n ∈ ks, n < hs.length) (hk60 : ks.length ≤ 60) (hnear9 : ∀ h ∈ hs, hnear h.2) (hnm : nm ≤ 1000)
    (hL : (xs ++ whits (nI nm) kf kt false (ks.map (fun k => (hs.map (fun h => h.2)).getD k ogv))).length + 9 ≤ 2600) (hr : rmOk R 6 ((capN c0 0 (xs ++ whits (nI nm) kf kt false (ks.map (fun k => (hs.map (fun h => h.2)).getD k ogv))).length - capN c0 0 xs.length) / 8) (2 * (capN c0 0 (xs ++ whits (nI nm) kf kt false (ks.map (fun k => (hs.map (fun h => h.2)).getD k ogv))).length - capN c0 0 xs.length))) :
    Ct l mTw_writeHits D R [.ref w, .ref d, .ref t, .int (nI nm)] [sTw w p r kp kf kt, Co, Cd, C, Hs] (fun v S => v = none ∧ ∃ Co', S = [sTw w p r kp kf kt, Co', Cd, C, Hs] ∧ IsOut D r c0 (xs ++ whits (nI nm) kf kt false (ks.map (fun k => (hs.map (fun h => h.2)).getD k ogv))) Co') := by
  obtain ⟨r1, r2, r3, r4⟩ := hr
  generalize hg : (fun k => (hs.map (fun h => h.2)).getD k ogv) = g at hL r3 r4 ⊢
  generalize hW : xs ++ whits (nI nm) kf kt false (ks.map g) = W at hL r3 r4 ⊢
  generalize hN : W.length = N at hL r3 r4
  generalize hcb : capN c0 0 xs.length = cb at r3 r4
  have hhl : hs.length ≤ 60 := by obtain ⟨_, _, _, _, _, _, _, _, _, _, q⟩ := hd; exact q
  have hHs : Hs = sHs hs := by obtain ⟨_, _, _, _, _, _, q, _⟩ := hd; exact q
  obtain ⟨ta, ha, ft, fh, eCd, -⟩ := id hd
  obtain ⟨rh, ro, Ch, Cq, rfl, hrh, hro⟩ := ht
  obtain ⟨arr, f, rfl, x1, x2, x3, x4, x5, x6⟩ := id hro
  have hlen : (ks.map nI).length = ks.length := by simp
  refine Ct.of rfl (by decide) tkTw_writeHits (Nat.le_of_ble_eq_true rfl) (fun A => ?_)
  generalize hQ : (fun (v : Option Value) S => v = none ∧ ∃ Co', S = [sTw w p r kp kf kt, Co', Cd, (t, .inr (9, [.int dm, .int (b32 pl), .ref rh, .ref ro, .long len, .int (b32 pn)])) :: (Ch ++ sRow D ro arr co f 60 (ks.map nI).length), Hs] ∧ IsOut D r c0 W Co') = Q
  have loop : ∀ (m i : Nat), ks.length - i < m → i ≤ ks.length → ∀ (b : Bool) (ys : List Int32) (C' : va_W), IsOut D r c0 ys C' → xs.length ≤ ys.length → ys ++ whits (nI nm) kf kt b ((ks.drop i).map g) = W → ∀ lv9 : List (Nat × Value), (∀ q ∈ [(5, Value.int (nI i)), (4, .int (b32 b)), (0, .ref w), (1, .ref d), (2, .ref t), (3, .int (nI nm))], q ∈ lv9) →
      Ex l mTw_writeHits D R A (xQ D A Q) R.cells R.slots 6 lv9 [] [sTw w p r kp kf kt, C', Cd, [cTo t dm pl rh ro len pn], Ch, sRow D ro arr co f 60 (ks.map nI).length, Hs] (0 + (capN c0 0 ys.length - cb) / 8) (0 + 2 * (capN c0 0 ys.length - cb)) := by
    intro m
    induction m with
    | zero => intro i h; omega
    | succ m ih =>
      intro i hm hi b ys C' hC' hys hyW lv9 hlv
      refine Ex.lv hlv ?_
      have q1 := capN_mono (c := c0) (n := 0) hys
      have hyN : ys.length ≤ N := by rw [← hN, ← hyW]; simp
      have q2 := capN_mono (c := c0) (n := 0) hyN
      refine Ex.p rfl ?_
      refine Ex.p rfl ?_
      refine Ex.gf 3 0 rfl rfl rfl ?_
      refine Ex.gf 5 0 rfl rfl rfl ?_
      refine Ex.br rfl (fun c1 => ?_) (fun c1 => ?_)
      · rw [nI_leI (by omega) (by omega), hlen] at c1
        have hi9 : i = ks.length := by omega
        rw [hi9, List.drop_length] at hyW
        have hyW : ys ++ [] = W := hyW
        rw [List.append_nil] at hyW
        subst hyW
        refine Ex.vret (S' := [sTw w p r kp kf kt, C', Cd, (t, .inr (9, [.int dm, .int (b32 pl), .ref rh, .ref ro, .long len, .int (b32 pn)])) :: (Ch ++ sRow D ro arr co f 60 (ks.map nI).length), Hs]) rfl rfl (by omega) (by omega) (by simp) ?_
        subst hQ
        exact ⟨rfl, C', rfl, hC'⟩
      · rw [nI_leI (by omega) (by omega), hlen] at c1
        have hi9 : i < ks.length := by omega
        have hni : ks[i]? = some ks[i] := List.getElem?_eq_getElem hi9
        have hn9 : ks[i] < hs.length := hks _ (List.getElem_mem hi9)
        have hat := sHs_at (hs := hs) (List.getElem?_eq_getElem hn9)
        rw [← hHs] at hat
        have hgi : g ks[i] = (hs[ks[i]]).2 := by rw [← hg]; simp [List.getD_eq_getElem?_getD, hn9]
        have hnr : hnear (hs[ks[i]]).2 := hnear9 _ (List.getElem_mem hn9)
        rw [List.drop_eq_getElem_cons hi9, List.map_cons, hgi] at hyW
        refine Ex.p rfl ?_
        refine Ex.p rfl ?_
        refine Ex.gf 3 0 rfl rfl rfl ?_
        refine Ex.p rfl ?_
        refine Ex.cv (Mc := mRo_get) (Rc := rm 0 0 0) (As := [.int (nI i)]) (rest := [.ref d]) (Sr := [sTw w p r kp kf kt, C', Cd, [cTo t dm pl rh ro len pn], Ch, Hs]) (ic := 5) (jc := 0) (ci := 5) [5] [0, 1, 2, 3, 4, 6] (ct_Ro_get hro) rfl lk_8_97 lcRo_get rfl rfl rfl rfl rfl (by decide) rfl rfl rfl (by decide) ⟨by dsimp only [rm]; omega, by show 8 + (2 + 11) + 0 ≤ R.locals; omega⟩ (Nat.le_of_ble_eq_true rfl) (by dsimp only [rm]; omega) (by dsimp only [rm]; omega) ?_
        rintro v S1 ⟨rfl, rfl⟩
        rw [rget_nI hi9 (by omega), show ks.getD i 0 = ks[i] from by rw [List.getD_eq_getElem?_getD, hni]; rfl]
        refine Ex.cv (Mc := mDr_hitAt) (Rc := rm 0 0 0) (As := [.int (nI ks[i])]) (rest := []) (Sr := [sTw w p r kp kf kt, C', [cTo t dm pl rh ro len pn], Ch, Hs, sRow D ro arr co f 60 (ks.map nI).length]) (ic := 2) (jc := 0) (ci := 1) [2] [0, 1, 3, 4, 5, 6] (ct_Dr_hitAt hd) rfl lk_8_101 lcDr_hitAt rfl rfl rfl rfl rfl (by decide) rfl (by rw [eCd]; rfl) rfl (by decide) ⟨by dsimp only [rm]; omega, by show 8 + (2 + 11) + 0 ≤ R.locals; omega⟩ (Nat.le_of_ble_eq_true rfl) (by dsimp only [rm]; omega) (by dsimp only [rm]; omega) ?_
        rintro v S1 ⟨rfl, rfl⟩
        rw [ixo, nI_toInt (by omega), if_pos (by omega), Int.toNat_natCast, List.getElem?_eq_getElem hn9]
        refine Ex.more (k' := 0 + (capN c0 0 ys.length - cb) / 8) (n' := 0 + 2 * (capN c0 0 ys.length - cb)) (by dsimp only [rm]; omega) (by dsimp only [rm]; omega) ?_
        refine Ex.sub (S' := [sTw w p r kp kf kt, C', Cd, [cTo t dm pl rh ro len pn], Ch, sRow D ro arr co f 60 (ks.map nI).length, Hs]) [0, 1, 6, 2, 3, 5, 4] rfl rfl ?_
        generalize hs[ks[i]] = h9 at hat hnr hyW
        obtain ⟨a9, h9⟩ := h9
        refine Ex.p rfl ?_
        refine Ex.p rfl ?_
        refine Ex.nuR rfl ?_
        have skip : ¬ (h9.2.2.2.2.2.1 = kf ∧ h9.2.2.2.2.2.2 = kt) → Ex l mTw_writeHits D R A (xQ D A Q) R.cells R.slots 96 [(6, .ref a9), (5, Value.int (nI i)), (4, .int (b32 b)), (0, .ref w), (1, .ref d), (2, .ref t), (3, .int (nI nm))] [] [sTw w p r kp kf kt, C', Cd, [cTo t dm pl rh ro len pn], Ch, sRow D ro arr co f 60 (ks.map nI).length, Hs] (0 + (capN c0 0 ys.length - cb) / 8) (0 + 2 * (capN c0 0 ys.length - cb)) := by
          intro hne
          refine Ex.p rfl ?_
          refine Ex.p rfl ?_
          rw [i_add1]
          refine ih (i + 1) (by omega) (by omega) b ys C' hC' hys ?_ _ ?_
          · rw [← hyW]
            show _ = ys ++ (if h9.2.2.2.2.2.1 = kf ∧ h9.2.2.2.2.2.2 = kt then _ else _)
            rw [if_neg hne]
          · intro q h
            simp only [List.mem_cons, List.not_mem_nil, or_false] at h
            rcases h with rfl | rfl | rfl | rfl | rfl | rfl <;> simp [xs1, Value.category]
        have emit : ∀ (y2 : List Int32) (C2 : va_W), IsOut D r c0 y2 C2 → xs.length ≤ y2.length → y2 ++ (hline h9 ++ whits (nI nm) kf kt true ((ks.drop (i + 1)).map g)) = W → ∀ lv9 : List (Nat × Value), (∀ q ∈ [(6, .ref a9), (5, Value.int (nI i)), (4, .int 1), (0, .ref w), (1, .ref d), (2, .ref t), (3, .int (nI nm))], q ∈ lv9) → Ex l mTw_writeHits D R A (xQ D A Q) R.cells R.slots 90 lv9 [] [sTw w p r kp kf kt, C2, Cd, [cTo t dm pl rh ro len pn], Ch, sRow D ro arr co f 60 (ks.map nI).length, Hs] (0 + (capN c0 0 y2.length - cb) / 8) (0 + 2 * (capN c0 0 y2.length - cb)) := by
          intro y2 C2 hC2 hy2 hyW2 lv9 hlv
          refine Ex.lv hlv ?_
          have hle : (y2 ++ hline h9).length ≤ N := by rw [← hN, ← hyW2]; simp only [List.length_append]; omega
          have q3 := capN_mono (c := c0) (n := 0) hy2
          have q4 := capN_mono (c := c0) (n := 0) hle
          have q5 := capN_mono (c := c0) (n := 0) (show y2.length ≤ (y2 ++ hline h9).length by simp)
          refine Ex.p rfl ?_
          refine Ex.p rfl ?_
          refine Ex.cv (Mc := mTw_writeHit) (Rc := rm 5 ((capN c0 0 (y2 ++ hline h9).length - capN c0 0 y2.length) / 8) (2 * (capN c0 0 (y2 ++ hline h9).length - capN c0 0 y2.length))) (As := [.ref a9]) (rest := []) (Sr := [Cd, [cTo t dm pl rh ro len pn], Ch, sRow D ro arr co f 60 (ks.map nI).length]) (ic := 0) (jc := 0) (ci := 8) [0, 1, 6] [2, 3, 4, 5] (ct_Tw_writeHit (h := h9) hC2 hat hnr (by omega) (rm_ok _ _ _)) rfl lk_8_113 lcTw_writeHit rfl rfl rfl rfl rfl (by decide) rfl rfl rfl (by decide) ⟨by dsimp only [rm]; omega, by show 8 + (2 + 11) + 200 ≤ R.locals; omega⟩ (Nat.le_of_ble_eq_true rfl) (by dsimp only [rm]; omega) (by dsimp only [rm]; omega) ?_
          rintro v S1 ⟨rfl, C3, rfl, hC3⟩
          refine Ex.more (k' := 0 + (capN c0 0 (y2 ++ hline h9).length - cb) / 8) (n' := 0 + 2 * (capN c0 0 (y2 ++ hline h9).length - cb)) (by dsimp only [rm]; omega) (by dsimp only [rm]; omega) ?_
          refine Ex.sub (S' := [sTw w p r kp kf kt, C3, Cd, [cTo t dm pl rh ro len pn], Ch, sRow D ro arr co f 60 (ks.map nI).length, Hs]) [4, 5, 0, 1, 2, 3, 6] rfl rfl ?_
          refine Ex.p rfl ?_
          refine Ex.p rfl ?_
          rw [i_add1]
          refine ih (i + 1) (by omega) (by omega) true _ C3 hC3 (by simp; omega) (by rw [List.append_assoc]; exact hyW2) _ ?_
          intro q h
          simp only [List.mem_cons, List.not_mem_nil, or_false] at h
          rcases h with rfl | rfl | rfl | rfl | rfl | rfl <;> simp [xs1, Value.category, b32]
        refine Ex.p rfl ?_
        refine Ex.gf 6 ks[i] rfl hat rfl ?_
        refine Ex.p rfl ?_
        refine Ex.gf 0 0 rfl rfl rfl ?_
        refine Ex.br rfl (fun c2 => skip (fun q => c2 q.1)) (fun c2 => ?_)
        have c2 : h9.2.2.2.2.2.1 = kf := Decidable.byContradiction c2
        refine Ex.p rfl ?_
        refine Ex.gf 6 ks[i] rfl hat rfl ?_
        refine Ex.p rfl ?_
        refine Ex.gf 0 0 rfl rfl rfl ?_
        refine Ex.br rfl (fun c3 => skip (fun q => c3 q.2)) (fun c3 => ?_)
        have c3 : h9.2.2.2.2.2.2 = kt := Decidable.byContradiction c3
        have hyW : ys ++ (if h9.2.2.2.2.2.1 = kf ∧ h9.2.2.2.2.2.2 = kt then (if b then [] else part 84 (nI nm) ++ [10]) ++ (hline h9 ++ whits (nI nm) kf kt true ((ks.drop (i + 1)).map g)) else whits (nI nm) kf kt b ((ks.drop (i + 1)).map g)) = W := hyW
        rw [if_pos ⟨c2, c3⟩] at hyW
        refine Ex.p rfl ?_
        cases b with
        | true =>
          refine Ex.br rfl (fun _ => ?_) (fun c => absurd (by decide) c)
          refine emit ys C' hC' hys (by simpa using hyW) _ (fun q h => ?_)
          simp only [List.mem_cons, List.not_mem_nil, or_false] at h
          rcases h with rfl | rfl | rfl | rfl | rfl | rfl | rfl <;> simp [xs1, Value.category, b32]
        | false =>
          have hyW : ys ++ ((part 84 (nI nm) ++ [10]) ++ (hline h9 ++ whits (nI nm) kf kt true ((ks.drop (i + 1)).map g))) = W := hyW
          have hl2 : ((ys ++ part 84 (nI nm)) ++ [10]).length ≤ N := by rw [← hN, ← hyW]; simp <;> omega
          have q3 := capN_mono (c := c0) (n := 0) (show ys.length ≤ (ys ++ part 84 (nI nm)).length by simp)
          refine Ex.br rfl (fun c => absurd rfl c) (fun _ => ?_)
          refine Ex.p rfl ?_
          refine Ex.gf 0 0 rfl rfl rfl ?_
          refine Ex.p rfl ?_
          refine Ex.p rfl ?_
          refine Ex.oPart (N := N) (c := 84) (Sr := [sTw w p r kp kf kt, Cd, [cTo t dm pl rh ro len pn], Ch, sRow D ro arr co f 60 (ks.map nI).length, Hs]) 1 [0, 2, 3, 4, 5, 6] hC' (by omega) rfl rfl lk_8_69 rfl rfl rfl (by decide) (Nat.le_of_ble_eq_true rfl) (by rw [nI_toInt (by omega)]; omega) (by have := hl2; simp only [List.length_append] at this ⊢; omega) (by omega) (by omega) (by omega) (by omega) (by omega) (fun C2 hC2 => ?_)
          refine Ex.p rfl ?_
          refine Ex.gf 0 0 rfl rfl rfl ?_
          refine Ex.p rfl ?_
          refine Ex.oPush (N := N) (x := 10) (Sr := [sTw w p r kp kf kt, Cd, [cTo t dm pl rh ro len pn], Ch, sRow D ro arr co f 60 (ks.map nI).length, Hs]) 6 [0, 1, 2, 3, 4, 5] hC2 (by omega) rfl rfl lk_8_73 rfl rfl rfl (by decide) (Nat.le_of_ble_eq_true rfl) hl2 (by omega) (by omega) (by omega) (by omega) (by omega) (fun C3 hC3 => ?_)
          refine Ex.p rfl ?_
          refine Ex.p rfl ?_
          refine Ex.p rfl ?_
          refine Ex.sub (S' := [sTw w p r kp kf kt, C3, Cd, [cTo t dm pl rh ro len pn], Ch, sRow D ro arr co f 60 (ks.map nI).length, Hs]) [0, 6, 1, 2, 3, 4, 5] rfl rfl ?_
          refine emit _ C3 hC3 (by simp; omega) (by rw [← hyW]; simp) _ (fun q h => ?_)
          simp only [List.mem_cons, List.not_mem_nil, or_false] at h
          rcases h with rfl | rfl | rfl | rfl | rfl | rfl | rfl <;> simp [xs1, Value.category, b32]
  refine Ex.more (k' := 0 + (capN c0 0 xs.length - cb) / 8) (n' := 0 + 2 * (capN c0 0 xs.length - cb)) (Nat.zero_le _) (Nat.zero_le _) ?_
  refine Ex.seg (S' := [sTw w p r kp kf kt, Co, Cd, [cTo t dm pl rh ro len pn], Ch, sRow D ro arr co f 60 (ks.map nI).length, Hs]) (by simp) ?_
  refine Ex.p rfl ?_
  refine Ex.p rfl ?_
  refine Ex.p rfl ?_
  refine Ex.p rfl ?_
  refine loop (ks.length + 1) 0 (by omega) (by omega) false xs Co ho (Nat.le_refl _) hW _ (fun q h => ?_)
  simp only [List.mem_cons, List.not_mem_nil, or_false] at h
  rcases h with rfl | rfl | rfl | rfl | rfl | rfl <;> simp [xs1, lv_args, Value.category, b32, nI]
end WS

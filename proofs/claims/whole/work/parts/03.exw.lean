/-! OWN FRAME 2: the rows of part 03 over W -/
section XW
variable {p : Program} {l : Launch} {e : Env} {R : Room} {s : State} {m : MethodId} {args : Array Value} {below : List Frame} {meth : Method} {c : Code} {H : Heap} {locs : List Loc} {cells slots : Nat} {Q : State → Prop}
variable {cc : ByteArray} {pc pc' nL : Nat} {ls : Array Slot} {st st' : List Value} {lv lv' : List (Nat × Value)} {i : ClassFile.Instr}
theorem xsL_ok (hx : p.tables.exec = Jvm.exec) (hb : c.code = cc) (hd : decode cc pc = .ok (i, xlen i)) (hl : lv_has ls nL lv) (hs : xsL i pc lv st = some (pc', lv', st'))
    (k : ∀ ls' : Array Slot, lv_has ls' nL lv' → W p l e R s m args below meth c H locs cells slots Q (F0 m pc' ls' st')) : W p l e R s m args below meth c H locs cells slots Q (F0 m pc ls st) := by
  unfold xsL at hs
  split at hs
  · split at hs
    · rename_i hg; cases hs; exact lv_iload hx hb hd (xget_has hl hg) (k ls hl)
    · cases hs
  · split at hs
    · rename_i hg; cases hs; exact lv_iload_n hx hb hd rfl (xget_has hl hg) (k ls hl)
    · cases hs
  · split at hs
    · rename_i hg; cases hs; exact lv_lload hx hb hd (xget_has hl hg) (k ls hl)
    · cases hs
  · split at hs
    · rename_i hg; cases hs; exact lv_lload_n hx hb hd rfl (xget_has hl hg) (k ls hl)
    · cases hs
  · split at hs
    · rename_i hg; cases hs; exact lv_aload hx hb hd (xget_has hl hg) (k ls hl)
    · rename_i hg; cases hs; exact lv_aloadN hx hb hd (xget_has hl hg) (k ls hl)
    · cases hs
  · split at hs
    · rename_i hg; cases hs; exact lv_aload_n hx hb hd rfl (xget_has hl hg) (k ls hl)
    · rename_i hg; cases hs; exact lv_aload_nN hx hb hd rfl (xget_has hl hg) (k ls hl)
    · cases hs
  · cases hs
theorem xsC_ok (hx : p.tables.exec = Jvm.exec) (hb : c.code = cc) (hd : decode cc pc = .ok (i, xlen i)) (hl : lv_has ls nL lv) (hs : xsC i pc lv st = some (pc', lv', st'))
    (k : ∀ ls' : Array Slot, lv_has ls' nL lv' → W p l e R s m args below meth c H locs cells slots Q (F0 m pc' ls' st')) : W p l e R s m args below meth c H locs cells slots Q (F0 m pc ls st) := by
  unfold xsC at hs
  split at hs
  · cases hs; exact lv_iconst hx hb hd rfl (k ls hl)
  · cases hs; exact lv_bipush hx hb hd rfl (k ls hl)
  · cases hs; exact lv_sipush hx hb hd rfl (k ls hl)
  · cases hs; exact lv_lconst hx hb hd rfl (k ls hl)
  · cases hs; exact lv_null hx hb hd (k ls hl)
  · cases hs
theorem xsS_ok (hx : p.tables.exec = Jvm.exec) (hb : c.code = cc) (hd : decode cc pc = .ok (i, xlen i)) (hl : lv_has ls nL lv) (hs : xsS nL i pc lv st = some (pc', lv', st'))
    (k : ∀ ls' : Array Slot, lv_has ls' nL lv' → W p l e R s m args below meth c H locs cells slots Q (F0 m pc' ls' st')) : W p l e R s m args below meth c H locs cells slots Q (F0 m pc ls st) := by
  unfold xsS at hs
  split at hs
  · split at hs
    · rename_i hn; cases hs; exact lv_istore hx hb hd hl (Nat.blt_eq.mp hn) rfl k
    · cases hs
  · split at hs
    · rename_i hn; cases hs; exact lv_istore_n hx hb hd rfl hl (Nat.blt_eq.mp hn) rfl k
    · cases hs
  · split at hs
    · rename_i hn; cases hs; exact lv_lstore hx hb hd hl (Nat.blt_eq.mp hn) rfl k
    · cases hs
  · split at hs
    · rename_i hn; cases hs; exact lv_lstore_n hx hb hd rfl hl (Nat.blt_eq.mp hn) rfl k
    · cases hs
  · split at hs
    · rename_i hn; cases hs; exact lv_astore hx hb hd hl (Nat.blt_eq.mp hn) rfl k
    · rename_i hn; cases hs; exact lv_astoreN hx hb hd hl (Nat.blt_eq.mp hn) rfl k
    · cases hs
  · split at hs
    · rename_i hn; cases hs; exact lv_astore_n hx hb hd rfl hl (Nat.blt_eq.mp hn) rfl k
    · rename_i hn; cases hs; exact lv_astore_nN hx hb hd rfl hl (Nat.blt_eq.mp hn) rfl k
    · cases hs
  · split at hs
    · rename_i hg hn
      cases hs
      obtain ⟨kk, hk⟩ := xget_pos hg
      exact lv_iinc hx hb hd hl hk rfl (Nat.blt_eq.mp hn) rfl k
    · cases hs
  · split at hs
    · rename_i ht; cases hs; exact lv_goto hx hb hd ht (k ls hl)
    · cases hs
  · cases hs
theorem xsA_ok (hx : p.tables.exec = Jvm.exec) (hb : c.code = cc) (hd : decode cc pc = .ok (i, xlen i)) (hl : lv_has ls nL lv) (hs : xsA i pc lv st = some (pc', lv', st'))
    (k : ∀ ls' : Array Slot, lv_has ls' nL lv' → W p l e R s m args below meth c H locs cells slots Q (F0 m pc' ls' st')) : W p l e R s m args below meth c H locs cells slots Q (F0 m pc ls st) := by
  unfold xsA at hs
  split at hs
  · split at hs
    · cases hs; exact lv_iadd hx hb hd (k ls hl)
    · cases hs
  · split at hs
    · cases hs; exact lv_isub hx hb hd (k ls hl)
    · cases hs
  · split at hs
    · cases hs; exact lv_imul hx hb hd (k ls hl)
    · cases hs
  · split at hs
    · cases hs; exact lv_iand hx hb hd (k ls hl)
    · cases hs
  · split at hs
    · cases hs; exact lv_ior hx hb hd (k ls hl)
    · cases hs
  · split at hs
    · cases hs; exact lv_ishl hx hb hd (k ls hl)
    · cases hs
  · split at hs
    · cases hs; exact lv_ishr hx hb hd (k ls hl)
    · cases hs
  · split at hs
    · cases hs; exact lv_ineg hx hb hd (k ls hl)
    · cases hs
  · split at hs
    · cases hs; exact lv_i2l hx hb hd rfl (k ls hl)
    · cases hs
  · split at hs
    · cases hs; exact lv_i2c hx hb hd rfl (k ls hl)
    · cases hs
  · split at hs
    · cases hs; exact lv_l2i hx hb hd rfl (k ls hl)
    · cases hs
  · split at hs
    · cases hs; exact lv_ladd hx hb hd (k ls hl)
    · cases hs
  · split at hs
    · cases hs; exact lv_lsub hx hb hd (k ls hl)
    · cases hs
  · split at hs
    · cases hs; exact lv_lmul hx hb hd (k ls hl)
    · cases hs
  · split at hs
    · cases hs; exact lv_land hx hb hd (k ls hl)
    · cases hs
  · split at hs
    · cases hs; exact lv_lor hx hb hd (k ls hl)
    · cases hs
  · split at hs
    · cases hs; exact lv_lshl hx hb hd rfl (k ls hl)
    · cases hs
  · split at hs
    · cases hs; exact W.lcmp hx hb hd (k ls hl)
    · cases hs
  · split at hs
    · split at hs
      · rename_i hc; cases hs; exact lv_dup hx hb hd hc (k ls hl)
      · cases hs
    · cases hs
  · split at hs
    · split at hs
      · rename_i hc; cases hs; exact lv_pop hx hb hd hc (k ls hl)
      · cases hs
    · cases hs
  · split at hs
    · split at hs
      · rename_i h1 h2; cases hs; exact lv_dup2_11 hx hb hd h1 h2 (k ls hl)
      · cases hs
    · cases hs
  · cases hs
theorem xst_ok {tb : xT} (hx : p.tables.exec = Jvm.exec) (hb : c.code = cc) (htb : ∀ q ∈ tb, decode cc q.1 = .ok (q.2, xlen q.2)) (hl : lv_has ls nL lv) (hs : xst tb nL pc lv st = some (pc', lv', st'))
    (k : ∀ ls' : Array Slot, lv_has ls' nL lv' → W p l e R s m args below meth c H locs cells slots Q (F0 m pc' ls' st')) : W p l e R s m args below meth c H locs cells slots Q (F0 m pc ls st) := by
  unfold xst at hs
  split at hs
  · cases hs
  · rename_i j hf
    have hd := htb _ (xfe_mem tb pc j hf)
    split at hs
    · rename_i r hr; cases hs; exact xsL_ok hx hb hd hl hr k
    · split at hs
      · rename_i r hr; cases hs; exact xsC_ok hx hb hd hl hr k
      · split at hs
        · rename_i r hr; cases hs; exact xsS_ok hx hb hd hl hr k
        · exact xsA_ok hx hb hd hl hs k
end XW
/-- branches: the condition, where it leads, what is left on the stack -/
def xbr (tb : xT) (pc : Nat) (st : List Value) : Option (Prop × Nat × List Value) := match xfe tb pc with
  | some (.ifCond cd off) => match st, (pc : Int) + off with
    | .int x :: r, .ofNat t => match cd with
      | .eq => some (x = 0, t, r)
      | .ne => some (x ≠ 0, t, r)
      | .lt => some (x < 0, t, r)
      | .ge => some (0 ≤ x, t, r)
      | .gt => some (0 < x, t, r)
      | .le => some (x ≤ 0, t, r)
    | _, _ => none
  | some (.if_icmp cd off) => match st, (pc : Int) + off with
    | .int y :: .int x :: r, .ofNat t => match cd with
      | .eq => some (x = y, t, r)
      | .ne => some (x ≠ y, t, r)
      | .lt => some (x < y, t, r)
      | .ge => some (y ≤ x, t, r)
      | .gt => some (y < x, t, r)
      | .le => some (x ≤ y, t, r)
    | _, _ => none
  | _ => none

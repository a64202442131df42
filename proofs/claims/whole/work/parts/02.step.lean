/-! OWN FRAME: one judgement Ex for a walk; a computed step for instructions that touch no cell -/
def xlen (i : ClassFile.Instr) : Nat := match i with
  | .bipush _ => 2
  | .iload _ => 2
  | .lload _ => 2
  | .aload _ => 2
  | .istore _ => 2
  | .lstore _ => 2
  | .astore _ => 2
  | .ldc _ => 2
  | .newarray _ => 2
  | .checkcast _ => 3
  | .putstatic _ => 3
  | .sipush _ => 3
  | .iinc _ _ => 3
  | .ifCond _ _ => 3
  | .if_icmp _ _ => 3
  | .if_acmp _ _ => 3
  | .goto _ => 3
  | .getfield _ => 3
  | .putfield _ => 3
  | .getstatic _ => 3
  | .invokevirtual _ => 3
  | .invokespecial _ => 3
  | .invokestatic _ => 3
  | .new _ => 3
  | .anewarray _ => 3
  | .ldc_w _ => 3
  | .ldc2_w _ => 3
  | .ifnull _ => 3
  | .ifnonnull _ => 3
  | _ => 1
def xfe : xT → Nat → Option ClassFile.Instr
  | [], _ => none
  | q :: r, pc => match Nat.beq q.1 pc with
    | true => some q.2
    | false => xfe r pc
theorem xfe_mem : ∀ (tb : xT) (pc : Nat) (i : ClassFile.Instr), xfe tb pc = some i → (pc, i) ∈ tb
  | [], _, _, h => by cases h
  | q :: t, pc, i, h => by
    unfold xfe at h
    split at h
    · rename_i hq
      cases h
      have := Nat.eq_of_beq_eq_true hq
      subst this
      exact List.mem_cons_self
    · exact List.mem_cons_of_mem _ (xfe_mem t pc i h)
def xget : List (Nat × Value) → Nat → Option Value
  | [], _ => none
  | q :: r, i => match Nat.beq q.1 i with
    | true => some q.2
    | false => xget r i
theorem xget_mem : ∀ (lv : List (Nat × Value)) (i : Nat) (v : Value), xget lv i = some v → (i, v) ∈ lv
  | [], _, _, h => by cases h
  | q :: t, i, v, h => by
    unfold xget at h
    split at h
    · rename_i hq
      cases h
      have := Nat.eq_of_beq_eq_true hq
      subst this
      exact List.mem_cons_self
    · exact List.mem_cons_of_mem _ (xget_mem t i v h)
theorem xget_has {ls : Array Slot} {nL : Nat} {lv : List (Nat × Value)} {i : Nat} {v : Value} (h : lv_has ls nL lv) (hg : xget lv i = some v) : ls[i]? = some (.val v) := h.2.2 (i, v) (xget_mem lv i v hg)
theorem xget_pos {lv : List (Nat × Value)} {i : Nat} {v : Value} (hg : xget lv i = some v) : ∃ k : Nat, lv[k]? = some (i, v) := List.mem_iff_getElem?.mp (xget_mem lv i v hg)
def xs1 (lv : List (Nat × Value)) (i : Nat) (v : Value) : List (Nat × Value) := (i, v) :: lv.filter (fun q => !(q.1 == i) && !(q.1 + 1 == i && q.2.category == 2))
def xs2 (lv : List (Nat × Value)) (i : Nat) (v : Value) : List (Nat × Value) := (i, v) :: lv.filter (fun q => !(q.1 == i) && (!(q.1 == i + 1) && !(q.1 + 1 == i && q.2.category == 2)))
abbrev xR : Type := Option (Nat × List (Nat × Value) × List Value)
/-- loads -/
def xsL (i : ClassFile.Instr) (pc : Nat) (lv : List (Nat × Value)) (st : List Value) : xR := match i with
  | .iload k => match xget lv k with
    | some (.int x) => some (pc + 2, lv, .int x :: st)
    | _ => none
  | .iload_n k => match xget lv k.val with
    | some (.int x) => some (pc + 1, lv, .int x :: st)
    | _ => none
  | .lload k => match xget lv k with
    | some (.long x) => some (pc + 2, lv, .long x :: st)
    | _ => none
  | .lload_n k => match xget lv k.val with
    | some (.long x) => some (pc + 1, lv, .long x :: st)
    | _ => none
  | .aload k => match xget lv k with
    | some (.ref x) => some (pc + 2, lv, .ref x :: st)
    | some .null => some (pc + 2, lv, .null :: st)
    | _ => none
  | .aload_n k => match xget lv k.val with
    | some (.ref x) => some (pc + 1, lv, .ref x :: st)
    | some .null => some (pc + 1, lv, .null :: st)
    | _ => none
  | _ => none
/-- constants -/
def xsC (i : ClassFile.Instr) (pc : Nat) (lv : List (Nat × Value)) (st : List Value) : xR := match i with
  | .iconst n => some (pc + 1, lv, .int (Int32.ofInt n) :: st)
  | .bipush n => some (pc + 2, lv, .int (Int8.ofInt n).toInt32 :: st)
  | .sipush n => some (pc + 3, lv, .int (Int16.ofInt n).toInt32 :: st)
  | .lconst n => some (pc + 1, lv, .long (Int64.ofNat (n : Nat)) :: st)
  | .aconst_null => some (pc + 1, lv, .null :: st)
  | _ => none
/-- stores, iinc, goto -/
def xsS (nL : Nat) (i : ClassFile.Instr) (pc : Nat) (lv : List (Nat × Value)) (st : List Value) : xR := match i with
  | .istore k => match st, Nat.blt k nL with
    | .int x :: r, true => some (pc + 2, xs1 lv k (.int x), r)
    | _, _ => none
  | .istore_n k => match st, Nat.blt k.val nL with
    | .int x :: r, true => some (pc + 1, xs1 lv k.val (.int x), r)
    | _, _ => none
  | .lstore k => match st, Nat.blt (k + 1) nL with
    | .long x :: r, true => some (pc + 2, xs2 lv k (.long x), r)
    | _, _ => none
  | .lstore_n k => match st, Nat.blt (k.val + 1) nL with
    | .long x :: r, true => some (pc + 1, xs2 lv k.val (.long x), r)
    | _, _ => none
  | .astore k => match st, Nat.blt k nL with
    | .ref x :: r, true => some (pc + 2, xs1 lv k (.ref x), r)
    | .null :: r, true => some (pc + 2, xs1 lv k .null, r)
    | _, _ => none
  | .astore_n k => match st, Nat.blt k.val nL with
    | .ref x :: r, true => some (pc + 1, xs1 lv k.val (.ref x), r)
    | .null :: r, true => some (pc + 1, xs1 lv k.val .null, r)
    | _, _ => none
  | .iinc k n => match xget lv k, Nat.blt k nL with
    | some (.int x), true => some (pc + 3, xs1 lv k (.int (x + Int32.ofInt n)), st)
    | _, _ => none
  | .goto off => match (pc : Int) + off with
    | .ofNat t => some (t, lv, st)
    | _ => none
  | _ => none
/-- ints, longs, the stack -/
def xsA (i : ClassFile.Instr) (pc : Nat) (lv : List (Nat × Value)) (st : List Value) : xR := match i with
  | .iadd => match st with
    | .int y :: .int x :: r => some (pc + 1, lv, .int (x + y) :: r)
    | _ => none
  | .isub => match st with
    | .int y :: .int x :: r => some (pc + 1, lv, .int (x - y) :: r)
    | _ => none
  | .imul => match st with
    | .int y :: .int x :: r => some (pc + 1, lv, .int (x * y) :: r)
    | _ => none
  | .iand => match st with
    | .int y :: .int x :: r => some (pc + 1, lv, .int (x &&& y) :: r)
    | _ => none
  | .ior => match st with
    | .int y :: .int x :: r => some (pc + 1, lv, .int (x ||| y) :: r)
    | _ => none
  | .ishl => match st with
    | .int y :: .int x :: r => some (pc + 1, lv, .int (x <<< (y &&& 31)) :: r)
    | _ => none
  | .ishr => match st with
    | .int y :: .int x :: r => some (pc + 1, lv, .int (x >>> (y &&& 31)) :: r)
    | _ => none
  | .ineg => match st with
    | .int x :: r => some (pc + 1, lv, .int (-x) :: r)
    | _ => none
  | .i2l => match st with
    | .int x :: r => some (pc + 1, lv, .long x.toInt64 :: r)
    | _ => none
  | .i2c => match st with
    | .int x :: r => some (pc + 1, lv, .int (x.toUInt32 % 65536).toInt32 :: r)
    | _ => none
  | .l2i => match st with
    | .long x :: r => some (pc + 1, lv, .int x.toInt32 :: r)
    | _ => none
  | .ladd => match st with
    | .long y :: .long x :: r => some (pc + 1, lv, .long (x + y) :: r)
    | _ => none
  | .lsub => match st with
    | .long y :: .long x :: r => some (pc + 1, lv, .long (x - y) :: r)
    | _ => none
  | .lmul => match st with
    | .long y :: .long x :: r => some (pc + 1, lv, .long (x * y) :: r)
    | _ => none
  | .land => match st with
    | .long y :: .long x :: r => some (pc + 1, lv, .long (x &&& y) :: r)
    | _ => none
  | .lor => match st with
    | .long y :: .long x :: r => some (pc + 1, lv, .long (x ||| y) :: r)
    | _ => none
  | .lshl => match st with
    | .int y :: .long x :: r => some (pc + 1, lv, .long (x <<< (y.toInt64 &&& 63)) :: r)
    | _ => none
  | .lcmp => match st with
    | .long y :: .long x :: r => some (pc + 1, lv, .int (lg_cmp x y) :: r)
    | _ => none
  | .dup => match st with
    | v :: r => match v.category with
      | 1 => some (pc + 1, lv, v :: v :: r)
      | _ => none
    | _ => none
  | .pop => match st with
    | v :: r => match v.category with
      | 1 => some (pc + 1, lv, r)
      | _ => none
    | _ => none
  | .dup2 => match st with
    | v :: w :: r => match v.category, w.category with
      | 1, 1 => some (pc + 1, lv, v :: w :: v :: w :: r)
      | _, _ => none
    | _ => none
  | _ => none
def xst (tb : xT) (nL pc : Nat) (lv : List (Nat × Value)) (st : List Value) : xR := match xfe tb pc with
  | none => none
  | some i => match xsL i pc lv st with
    | some r => some r
    | none => match xsC i pc lv st with
      | some r => some r
      | none => match xsS nL i pc lv st with
        | some r => some r
        | none => xsA i pc lv st

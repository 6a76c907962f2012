/-! ===== a small machine over names: every cell of the run has a name (a number), a reference is the name; it is run by the kernel, and proved (part 05) to be followed by the machine ===== -/
abbrev ox_C : Type := Nat × List Value
abbrev ox_H : Type := List (Nat × ox_C)
abbrev ox_L : Type := List (Nat × Value)
/-- pc, locals, stack, heap, cells made so far, slots of them -/
abbrev ox_F : Type := Nat × ox_L × List Value × ox_H × Nat × Nat
/-- a method's end: what it returns, heap, cells, slots -/
abbrev ox_R : Type := Option Value × ox_H × Nat × Nat
abbrev ox_I : Type := Instr × Nat × Nat × Nat
def ox_get : ox_H → Nat → Option ox_C
  | [], _ => none
  | (n, c) :: r, q => match Nat.beq n q with
    | true => some c
    | false => ox_get r q
def ox_put : ox_H → Nat → ox_C → ox_H
  | [], _, _ => []
  | (n, c) :: r, q, d => match Nat.beq n q with
    | true => (n, d) :: r
    | false => (n, c) :: ox_put r q d
def ox_lk : ox_L → Nat → Option Value
  | [], _ => none
  | (n, v) :: r, i => match Nat.beq n i with
    | true => some v
    | false => ox_lk r i
def ox_row : List (Nat × ox_I) → Nat → Option ox_I
  | [], _ => none
  | (n, w) :: r, i => match Nat.beq n i with
    | true => some w
    | false => ox_row r i
def ox_sto (ls : ox_L) (i : Nat) (v : Value) : ox_L := (i, v) :: ls.filter (fun q => !(q.1 == i) && !(q.1 + 1 == i && q.2.category == 2))
def ox_isI : Value → Bool
  | .int _ => true
  | .retAddr _ => true
  | _ => false
def ox_isA : Value → Bool
  | .ref _ => true
  | .null => true
  | _ => false
def ox_cmp (c : ClassFile.Cond) (x y : Int32) : Bool := match c with
  | .eq => decide (x = y)
  | .ne => !decide (x = y)
  | .lt => decide (x < y)
  | .ge => decide (y ≤ x)
  | .gt => decide (y < x)
  | .le => decide (x ≤ y)
/-- a value that a field of that kind takes: 0 int, 1 boolean, 2 a reference, 3 long, 4 byte -/
def ox_fit (k : Nat) (v : Value) : Bool := match k, v with
  | 0, .int _ => true
  | 0, .retAddr _ => true
  | 1, .int x => decide (x = 0) || decide (x = 1)
  | 2, .ref _ => true
  | 2, .null => true
  | 3, .long _ => true
  | 4, .int x => decide (x.toInt8.toInt32 = x)
  | _, _ => false
abbrev ox_O : Type := Option (ox_F ⊕ ox_R)
def ox_nxt (d : Nat) (f : ox_F) (st : List Value) : ox_O := some (.inl (f.1 + d, f.2.1, st, f.2.2.2))
def ox_ldI (d i : Nat) (f : ox_F) : ox_O := match ox_lk f.2.1 i with
  | some v => match ox_isI v with
    | true => ox_nxt d f (v :: f.2.2.1)
    | false => none
  | none => none
def ox_ldA (d i : Nat) (f : ox_F) : ox_O := match ox_lk f.2.1 i with
  | some (.ref q) => ox_nxt d f (.ref q :: f.2.2.1)
  | _ => none
def ox_stI (d i : Nat) (f : ox_F) : ox_O := match f.2.2.1 with
  | v :: r => match ox_isI v with
    | true => some (.inl (f.1 + d, ox_sto f.2.1 i v, r, f.2.2.2))
    | false => none
  | [] => none
def ox_stA (d i : Nat) (f : ox_F) : ox_O := match f.2.2.1 with
  | .ref q :: r => some (.inl (f.1 + d, ox_sto f.2.1 i (.ref q), r, f.2.2.2))
  | _ => none
def ox_bin (g : Int32 → Int32 → Int32) (f : ox_F) : ox_O := match f.2.2.1 with
  | .int y :: .int x :: r => ox_nxt 1 f (.int (g x y) :: r)
  | _ => none
def ox_br (a : Nat) (b : Bool) (f : ox_F) (st : List Value) : ox_O := match b with
  | true => some (.inl (a, f.2.1, st, f.2.2.2))
  | false => ox_nxt 3 f st
def ox_new (nx t n : Nat) (vs : List Value) (d : Nat) (f : ox_F) (st : List Value) : ox_O :=
  some (.inl (f.1 + d, f.2.1, .ref (nx + f.2.2.2.2.1) :: st, (nx + f.2.2.2.2.1, (t, vs)) :: f.2.2.2.1, f.2.2.2.2.1 + 1, f.2.2.2.2.2 + n))
/-- a call: the callee's number, its arguments, the rest of the stack -/
def ox_call (cal : Nat → List Value → ox_H → Nat → Option ox_R) (nx M d : Nat) (av rest : List Value) (f : ox_F) : ox_O :=
  match Nat.ble rest.length 4 with
  | true => match cal M av f.2.2.2.1 (nx + f.2.2.2.2.1) with
    | some r => some (.inl (f.1 + d, f.2.1, r.1.toList ++ rest, r.2.1, f.2.2.2.2.1 + r.2.2.1, f.2.2.2.2.2 + r.2.2.2))
    | none => none
  | false => none
/-- a call on an object whose class has the callee's number -/
def ox_virt (cal : Nat → List Value → ox_H → Nat → Option ox_R) (nx M n t d : Nat) (f : ox_F) : ox_O :=
  match f.2.2.1.drop n with
  | .ref q :: rest => match ox_get f.2.2.2.1 q with
    | some c => match Nat.beq c.1 t with
      | true => ox_call cal nx M d (.ref q :: (f.2.2.1.take n).reverse) rest f
      | false => none
    | none => none
  | _ => none
def ox_spec (cal : Nat → List Value → ox_H → Nat → Option ox_R) (nx M n : Nat) (f : ox_F) : ox_O :=
  match f.2.2.1.drop n with
  | .ref q :: rest => ox_call cal nx M 3 (.ref q :: (f.2.2.1.take n).reverse) rest f
  | _ => none
def ox_tag (M : Nat) : Nat := match ox_mt[M]? with
  | some q => q.2.2.2.2.2.1
  | none => 99
def ox_getf (a b : Nat) (f : ox_F) : ox_O := match f.2.2.1 with
  | .ref q :: r => match ox_get f.2.2.2.1 q with
    | some c => match Nat.beq c.1 a with
      | true => match c.2[b]? with
        | some v => ox_nxt 3 f (v :: r)
        | none => none
      | false => none
    | none => none
  | _ => none
def ox_putf (a b k : Nat) (f : ox_F) : ox_O := match f.2.2.1 with
  | v :: .ref q :: r => match ox_get f.2.2.2.1 q with
    | some c => match Nat.beq c.1 a && Nat.ble 8 q && Nat.ble (b + 1) c.2.length && ox_fit k v with
      | true => some (.inl (f.1 + 3, f.2.1, r, ox_put f.2.2.2.1 q (c.1, c.2.set b v), f.2.2.2.2))
      | false => none
    | none => none
  | _ => none
/-- one instruction. sx, sL: the script's ints and how many; name 0 is the script -/
def ox_step (sx : Nat → Int32) (sL : Nat) (cal : Nat → List Value → ox_H → Nat → Option ox_R) (nx : Nat) (w : ox_I) (f : ox_F) : ox_O :=
  match w.1 with
  | .iconst n => ox_nxt 1 f (.int (Int32.ofInt n) :: f.2.2.1)
  | .bipush n => ox_nxt 2 f (.int (Int8.ofInt n).toInt32 :: f.2.2.1)
  | .sipush n => ox_nxt 3 f (.int (Int16.ofInt n).toInt32 :: f.2.2.1)
  | .aconst_null => ox_nxt 1 f (.null :: f.2.2.1)
  | .ldc _ => ox_nxt 2 f (.ref w.2.1 :: f.2.2.1)
  | .iload i => ox_ldI 2 i f
  | .iload_n i => ox_ldI 1 i.val f
  | .aload i => ox_ldA 2 i f
  | .aload_n i => ox_ldA 1 i.val f
  | .istore i => ox_stI 2 i f
  | .istore_n i => ox_stI 1 i.val f
  | .astore i => ox_stA 2 i f
  | .astore_n i => ox_stA 1 i.val f
  | .iinc i n => match ox_lk f.2.1 i with
    | some (.int x) => some (.inl (f.1 + 3, ox_sto f.2.1 i (.int (x + Int32.ofInt n)), f.2.2))
    | _ => none
  | .iadd => ox_bin (fun x y => x + y) f
  | .isub => ox_bin (fun x y => x - y) f
  | .iand => ox_bin (fun x y => x &&& y) f
  | .ior => ox_bin (fun x y => x ||| y) f
  | .i2l => match f.2.2.1 with
    | .int x :: r => ox_nxt 1 f (.long x.toInt64 :: r)
    | _ => none
  | .lcmp => match f.2.2.1 with
    | .long y :: .long x :: r => ox_nxt 1 f (.int (lg_cmp x y) :: r)
    | _ => none
  | .dup => match f.2.2.1 with
    | v :: r => match Nat.beq v.category 1 with
      | true => ox_nxt 1 f (v :: v :: r)
      | false => none
    | _ => none
  | .dup_x1 => match f.2.2.1 with
    | v :: y :: r => match Nat.beq v.category 1 && Nat.beq y.category 1 with
      | true => ox_nxt 1 f (v :: y :: v :: r)
      | false => none
    | _ => none
  | .pop => match f.2.2.1 with
    | v :: r => match Nat.beq v.category 1 with
      | true => ox_nxt 1 f r
      | false => none
    | _ => none
  | .goto _ => some (.inl (w.2.1, f.2))
  | .ifCond c _ => match f.2.2.1 with
    | .int x :: r => ox_br w.2.1 (ox_cmp c x 0) f r
    | _ => none
  | .if_icmp c _ => match f.2.2.1 with
    | .int y :: .int x :: r => ox_br w.2.1 (ox_cmp c x y) f r
    | _ => none
  | .if_acmp c _ => match f.2.2.1 with
    | .ref y :: .ref x :: r => match Nat.ble 8 x || Nat.ble 8 y || Nat.beq x y with
      | true => match c with
        | .eq => ox_br w.2.1 (Nat.beq x y) f r
        | .ne => ox_br w.2.1 (!Nat.beq x y) f r
      | false => none
    | _ => none
  | .tableswitch _ lo hi offs => match f.2.2.1 with
    | .int x :: r => match !decide (x.toInt < lo) && !decide (hi < x.toInt) with
      | true => match offs[(x.toInt - lo).toNat]? with
        | some off => match decide ((f.1 : Int) + off < 0) with
          | true => none
          | false => some (.inl (((f.1 : Int) + off).toNat, f.2.1, r, f.2.2.2))
        | none => none
      | false => none
    | _ => none
  | .getfield _ => ox_getf w.2.1 w.2.2.1 f
  | .putfield _ => ox_putf w.2.1 w.2.2.1 w.2.2.2 f
  | .getstatic _ => match w.2.1 with
    | 0 => ox_nxt 3 f (.ref 1 :: f.2.2.1)
    | 1 => ox_nxt 3 f (.int 1 :: f.2.2.1)
    | _ => none
  | .new _ => ox_new nx w.2.1 w.2.2.1 (ox_df.getD w.2.1 []) 3 f f.2.2.1
  | .newarray t => match f.2.2.1 with
    | .int n :: r => match decide (n < 0) || Nat.ble 100000 n.toNatClampNeg with
      | true => none
      | false => match t with
        | .int => ox_new nx 64 n.toNatClampNeg (List.replicate n.toNatClampNeg (.int 0)) 2 f r
        | .byte => ox_new nx 65 n.toNatClampNeg (List.replicate n.toNatClampNeg (.int 0)) 2 f r
        | _ => none
    | _ => none
  | .anewarray _ => match f.2.2.1 with
    | .int n :: r => match decide (n < 0) || Nat.ble 100000 n.toNatClampNeg with
      | true => none
      | false => ox_new nx 66 n.toNatClampNeg (List.replicate n.toNatClampNeg .null) 3 f r
    | _ => none
  | .arraylength => match f.2.2.1 with
    | .ref 0 :: r => ox_nxt 1 f (.int (Int32.ofNat sL) :: r)
    | .ref q :: r => match ox_get f.2.2.2.1 q with
      | some c => match Nat.beq c.1 66 with
        | true => ox_nxt 1 f (.int (Int32.ofNat c.2.length) :: r)
        | false => none
      | none => none
    | _ => none
  | .iaload => match f.2.2.1 with
    | .int j :: .ref 0 :: r => match !decide (j < 0) && Nat.ble (j.toNatClampNeg + 1) sL with
      | true => ox_nxt 1 f (.int (sx j.toNatClampNeg) :: r)
      | false => none
    | _ => none
  | .aaload => match f.2.2.1 with
    | .int j :: .ref q :: r => match ox_get f.2.2.2.1 q with
      | some c => match Nat.beq c.1 66 && !decide (j < 0) with
        | true => match c.2[j.toNatClampNeg]? with
          | some v => ox_nxt 1 f (v :: r)
          | none => none
        | false => none
      | none => none
    | _ => none
  | .aastore => match f.2.2.1 with
    | .ref x :: .int j :: .ref q :: r => match ox_get f.2.2.2.1 q, ox_get f.2.2.2.1 x with
      | some c, some o => match Nat.beq c.1 66 && !decide (j < 0) && Nat.ble (j.toNatClampNeg + 1) c.2.length && Nat.ble 8 q && Nat.ble (o.1 + 1) ox_cl.length with
        | true => some (.inl (f.1 + 1, f.2.1, r, ox_put f.2.2.2.1 q (c.1, c.2.set j.toNatClampNeg (.ref x)), f.2.2.2.2))
        | false => none
      | _, _ => none
    | _ => none
  | .checkcast _ => match f.2.2.1 with
    | .ref q :: r => match ox_get f.2.2.2.1 q with
      | some c => match Nat.beq c.1 w.2.1 with
        | true => ox_nxt 3 f (.ref q :: r)
        | false => none
      | none => none
    | _ => none
  | .invokestatic _ => match w.2.2.2 with
    | 7 => match f.2.2.1 with
      | .int y :: .int x :: r => match Nat.ble r.length 4 with
        | true => ox_nxt 3 f (.int (if x < y then y else x) :: r)
        | false => none
      | _ => none
    | _ => match Nat.ble w.2.2.1 f.2.2.1.length with
      | true => ox_call cal nx w.2.1 3 (f.2.2.1.take w.2.2.1).reverse (f.2.2.1.drop w.2.2.1) f
      | false => none
  | .invokespecial _ => match w.2.2.2 with
    | 4 => match f.2.2.1 with
      | .ref _ :: r => match Nat.ble r.length 4 with
        | true => ox_nxt 3 f r
        | false => none
      | _ => none
    | _ => ox_spec cal nx w.2.1 w.2.2.1 f
  | .invokevirtual _ => ox_virt cal nx w.2.1 w.2.2.1 (ox_tag w.2.1) 3 f
  | .invokeinterface _ _ => ox_virt cal nx w.2.1 w.2.2.1 (ox_tag w.2.1) 5 f
  | .ireturn => match f.2.2.1 with
    | [.int x] => match Nat.beq w.2.1 0 || decide (x = 0) || decide (x = 1) with
      | true => some (.inr (some (.int x), f.2.2.2))
      | false => none
    | _ => none
  | .areturn => match f.2.2.1 with
    | [.ref x] => some (.inr (some (.ref x), f.2.2.2))
    | _ => none
  | .return_ => match f.2.2.1 with
    | [] => some (.inr (none, f.2.2.2))
    | _ => none
  | _ => none
def ox_run (sx : Nat → Int32) (sL : Nat) (cal : Nat → List Value → ox_H → Nat → Option ox_R) (tab : List (Nat × ox_I)) (nx : Nat) : Nat → ox_F → Option ox_R
  | 0, _ => none
  | n + 1, f => match ox_row tab f.1 with
    | none => none
    | some w => match ox_step sx sL cal nx w f with
      | none => none
      | some (.inl g) => ox_run sx sL cal tab nx n g
      | some (.inr r) => some r
/-- .. up to an instruction, one step at least -/
def ox_seg (sx : Nat → Int32) (sL : Nat) (cal : Nat → List Value → ox_H → Nat → Option ox_R) (tab : List (Nat × ox_I)) (nx stop : Nat) : Nat → ox_F → Option ox_F
  | 0, _ => none
  | n + 1, f => match ox_row tab f.1 with
    | none => none
    | some w => match ox_step sx sL cal nx w f with
      | some (.inl g) => match Nat.beq g.1 stop with
        | true => some g
        | false => ox_seg sx sL cal tab nx stop n g
      | _ => none
def ox_words (av : List Value) : Nat := (av.map fun v => v.category).sum
def ox_exec (sx : Nat → Int32) (sL : Nat) : Nat → Nat → List Value → ox_H → Nat → Option ox_R
  | 0, _, _, _, _ => none
  | d + 1, M, av, hp, nx => match Nat.beq M 0, ox_mt[M]? with
    | true, _ => none
    | _, none => none
    | _, some q => match Nat.ble (ox_words av) q.2.2.1 with
      | true => ox_run sx sL (ox_exec sx sL d) q.2.2.2.2.2.2 nx 5000 (0, lv_args 0 av, [], hp, 0, 0)
      | false => none

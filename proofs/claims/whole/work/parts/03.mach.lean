/-! AN ABSTRACT MACHINE: the bytecode of the methods of the tables, over a heap that is a list of cells. A reference is a place in that list. What it computes is a function; the real machine does the same (part 80). -/
abbrev zkE : Type := (FieldType × vp_A) ⊕ (Nat × List Value)
/-- slots made so far; the cells (none: a cell that nobody looks at any more) -/
abbrev zkH : Type := Nat × List (Option zkE)
abbrev zkL : Type := List (Nat × Value)
/-- pc, locals, stack, heap -/
abbrev zkS : Type := Nat × zkL × List Value × zkH
/-- returned (with what), or threw (which kind) -/
abbrev zkO : Type := (Option Value ⊕ Nat) × zkH
def zk_get (lv : zkL) (i : Nat) : Option Value := match lv with
  | [] => none
  | q :: r => bif Nat.beq q.1 i then some q.2 else zk_get r i
def zk_put1 (lv : zkL) (i : Nat) (v : Value) : zkL := (i, v) :: lv.filter (fun q => !(q.1 == i) && !(q.1 + 1 == i && q.2.category == 2))
def zk_put2 (lv : zkL) (i : Nat) (v : Value) : zkL := (i, v) :: lv.filter (fun q => !(q.1 == i) && (!(q.1 == i + 1) && !(q.1 + 1 == i && q.2.category == 2)))
def zk_del (lv : zkL) (i : Nat) : zkL := lv.filter (fun q => !(q.1 == i) && !(q.1 + 1 == i && q.2.category == 2))
def zk_cell (h : zkH) (a : Nat) : Option zkE := match h.2[a]? with
  | some (some e) => some e
  | _ => none
def zk_set (h : zkH) (a : Nat) (e : zkE) : zkH := (h.1, h.2.set a (some e))
def zk_push (h : zkH) (n : Nat) (e : Option zkE) : zkH := (h.1 + n, h.2 ++ [e])
def zk_len (h : zkH) : Nat := h.2.length
/-- what may lie in a field of a type -/
def zk_fit (ty : FieldType) (v : Value) : Bool := match ty, v with
  | .int, .int _ => true
  | .long, .long _ => true
  | .object _, .ref _ => true
  | .array _, .ref _ => true
  | _, _ => false
/-- elements of arrays: of ints, booleans, longs -/
def zk_aldi (e : zkE) (i : Int32) : Option Value := match e with
  | .inl (.int, n, .inl f) => if 0 ≤ i ∧ i.toNatClampNeg < n then some (.int (f i.toNatClampNeg)) else none
  | _ => none
def zk_aldz (e : zkE) (i : Int32) : Option Value := match e with
  | .inl (.boolean, n, .inl f) => if 0 ≤ i ∧ i.toNatClampNeg < n then some (.int (f i.toNatClampNeg)) else none
  | _ => none
def zk_aldl (e : zkE) (i : Int32) : Option Value := match e with
  | .inl (.long, n, .inr (.inl f)) => if 0 ≤ i ∧ i.toNatClampNeg < n then some (.long (f i.toNatClampNeg)) else none
  | _ => none
def zk_asti (e : zkE) (i x : Int32) : Option zkE := match e with
  | .inl (.int, n, .inl f) => if 0 ≤ i ∧ i.toNatClampNeg < n then some (.inl (.int, n, .inl (upd f i.toNatClampNeg x))) else none
  | _ => none
def zk_astz (e : zkE) (i x : Int32) : Option zkE := match e with
  | .inl (.boolean, n, .inl f) => if 0 ≤ i ∧ i.toNatClampNeg < n then some (.inl (.boolean, n, .inl (upd f i.toNatClampNeg (vp_nar .boolean x)))) else none
  | _ => none
def zk_astl (e : zkE) (i : Int32) (x : Int64) : Option zkE := match e with
  | .inl (.long, n, .inr (.inl f)) => if 0 ≤ i ∧ i.toNatClampNeg < n then some (.inl (.long, n, .inr (.inl (vp_updL f i.toNatClampNeg x)))) else none
  | _ => none
/-- the conditions of the branches -/
def zk_if (c : ClassFile.Cond) (x : Int32) : Bool := match c with
  | .eq => decide (x = 0)
  | .ne => decide (¬ x = 0)
  | .lt => decide (x < 0)
  | .ge => decide (0 ≤ x)
  | .gt => decide (0 < x)
  | .le => decide (x ≤ 0)
def zk_icmp (c : ClassFile.Cond) (x y : Int32) : Bool := match c with
  | .eq => decide (x = y)
  | .ne => decide (¬ x = y)
  | .lt => decide (x < y)
  | .ge => decide (y ≤ x)
  | .gt => decide (y < x)
  | .le => decide (x ≤ y)
/-- the law's script: its length, its ints; place 0 is it -/
abbrev zkX : Type := Nat × (Nat → Int32)
def zk_arr (X : zkX) (h : zkH) (a : Nat) : Option zkE := bif Nat.beq a 0 then some (.inl (.int, X.1, .inl X.2)) else zk_cell h a
def zk_alen (e : zkE) : Option Int32 := match e with
  | .inl (.int, n, .inl _) => some (Int32.ofNat n)
  | .inl (.boolean, n, .inl _) => some (Int32.ofNat n)
  | .inl (.long, n, .inr (.inl _)) => some (Int32.ofNat n)
  | _ => none
/-- instructions that stay in the frame: locals, stack, arithmetic, branches -/
def zk_loc1 (M : Nat) (i : Instr) (nx tg : Nat) (lv : zkL) (st : List Value) : Option (Nat × zkL × List Value) := match i with
  | .aload k => match zk_get lv k with
    | some (.ref a) => some (nx, lv, .ref a :: st)
    | _ => none
  | .aload_n k => match zk_get lv k.val with
    | some (.ref a) => some (nx, lv, .ref a :: st)
    | _ => none
  | .iload k => match zk_get lv k with
    | some (.int x) => some (nx, lv, .int x :: st)
    | _ => none
  | .iload_n k => match zk_get lv k.val with
    | some (.int x) => some (nx, lv, .int x :: st)
    | _ => none
  | .lload k => match zk_get lv k with
    | some (.long x) => some (nx, lv, .long x :: st)
    | _ => none
  | .lload_n k => match zk_get lv k.val with
    | some (.long x) => some (nx, lv, .long x :: st)
    | _ => none
  | .istore k => match st with
    | .int x :: r => bif Nat.blt k (zk_mxl M) then some (nx, zk_put1 lv k (.int x), r) else none
    | _ => none
  | .istore_n k => match st with
    | .int x :: r => bif Nat.blt k.val (zk_mxl M) then some (nx, zk_put1 lv k.val (.int x), r) else none
    | _ => none
  | .lstore k => match st with
    | .long x :: r => bif Nat.blt (k + 1) (zk_mxl M) then some (nx, zk_put2 lv k (.long x), r) else none
    | _ => none
  | .lstore_n k => match st with
    | .long x :: r => bif Nat.blt (k.val + 1) (zk_mxl M) then some (nx, zk_put2 lv k.val (.long x), r) else none
    | _ => none
  | .astore k => match st with
    | .ref x :: r => bif Nat.blt k (zk_mxl M) then some (nx, zk_put1 lv k (.ref x), r) else none
    | _ => none
  | .astore_n k => match st with
    | .ref x :: r => bif Nat.blt k.val (zk_mxl M) then some (nx, zk_put1 lv k.val (.ref x), r) else none
    | _ => none
  | .iinc k n => match zk_get lv k with
    | some (.int x) => bif Nat.blt k (zk_mxl M) then some (nx, zk_put1 lv k (.int (x + Int32.ofInt n)), st) else none
    | _ => none
  | .iconst n => some (nx, lv, .int (Int32.ofInt n) :: st)
  | .lconst n => some (nx, lv, .long (Int64.ofNat n.val) :: st)
  | .bipush n => some (nx, lv, .int (Int8.ofInt n).toInt32 :: st)
  | .sipush n => some (nx, lv, .int (Int16.ofInt n).toInt32 :: st)
  | .ldc k => match zk_ki M k with
    | some v => some (nx, lv, .int v :: st)
    | none => none
  | .ldc_w k => match zk_ki M k with
    | some v => some (nx, lv, .int v :: st)
    | none => none
  | .ldc2_w k => match zk_kl M k with
    | some v => some (nx, lv, .long v :: st)
    | none => none
  | .dup => match st with
    | .int x :: r => some (nx, lv, .int x :: .int x :: r)
    | .ref x :: r => some (nx, lv, .ref x :: .ref x :: r)
    | _ => none
  | .pop => match st with
    | .int _ :: r => some (nx, lv, r)
    | .ref _ :: r => some (nx, lv, r)
    | _ => none
  | _ => none
def zk_loc2 (i : Instr) (nx : Nat) (st : List Value) : Option (Nat × List Value) := match i with
  | .iadd => match st with
    | .int y :: .int x :: r => some (nx, .int (x + y) :: r)
    | _ => none
  | .isub => match st with
    | .int y :: .int x :: r => some (nx, .int (x - y) :: r)
    | _ => none
  | .imul => match st with
    | .int y :: .int x :: r => some (nx, .int (x * y) :: r)
    | _ => none
  | .idiv => match st with
    | .int y :: .int x :: r => if y = 0 then none else some (nx, .int (x / y) :: r)
    | _ => none
  | .irem => match st with
    | .int y :: .int x :: r => if y = 0 then none else some (nx, .int (x - x / y * y) :: r)
    | _ => none
  | .iand => match st with
    | .int y :: .int x :: r => some (nx, .int (x &&& y) :: r)
    | _ => none
  | .ior => match st with
    | .int y :: .int x :: r => some (nx, .int (x ||| y) :: r)
    | _ => none
  | .ixor => match st with
    | .int y :: .int x :: r => some (nx, .int (x ^^^ y) :: r)
    | _ => none
  | .ishl => match st with
    | .int y :: .int x :: r => some (nx, .int (x <<< (y &&& 31)) :: r)
    | _ => none
  | .iushr => match st with
    | .int y :: .int x :: r => some (nx, .int (x.toUInt32 >>> (y.toUInt32 &&& Int32.toUInt32 31)).toInt32 :: r)
    | _ => none
  | .ladd => match st with
    | .long y :: .long x :: r => some (nx, .long (x + y) :: r)
    | _ => none
  | .lsub => match st with
    | .long y :: .long x :: r => some (nx, .long (x - y) :: r)
    | _ => none
  | .land => match st with
    | .long y :: .long x :: r => some (nx, .long (x &&& y) :: r)
    | _ => none
  | .lor => match st with
    | .long y :: .long x :: r => some (nx, .long (x ||| y) :: r)
    | _ => none
  | .lshl => match st with
    | .int y :: .long x :: r => some (nx, .long (x <<< (y.toInt64 &&& 63)) :: r)
    | _ => none
  | .lshr => match st with
    | .int y :: .long x :: r => some (nx, .long (x >>> (y.toInt64 &&& 63)) :: r)
    | _ => none
  | .lushr => match st with
    | .int y :: .long x :: r => some (nx, .long (x.toUInt64 >>> (y.toInt64.toUInt64 &&& Int64.toUInt64 63)).toInt64 :: r)
    | _ => none
  | .i2l => match st with
    | .int x :: r => some (nx, .long x.toInt64 :: r)
    | _ => none
  | .l2i => match st with
    | .long x :: r => some (nx, .int x.toInt32 :: r)
    | _ => none
  | .lcmp => match st with
    | .long y :: .long x :: r => some (nx, .int (lg_cmp x y) :: r)
    | _ => none
  | _ => none
def zk_loc3 (i : Instr) (pc nx tg : Nat) (st : List Value) : Option (Nat × List Value) := match i with
  | .goto _ => some (tg, st)
  | .ifCond c _ => match st with
    | .int x :: r => some (bif zk_if c x then tg else nx, r)
    | _ => none
  | .if_icmp c _ => match st with
    | .int y :: .int x :: r => some (bif zk_icmp c x y then tg else nx, r)
    | _ => none
  | .tableswitch d lo hi offs => match st with
    | .int x :: r => if x.toInt < lo ∨ hi < x.toInt then some (((pc : Int) + d).toNat, r) else
      match offs[(x.toInt - lo).toNat]? with
      | some o => some (((pc : Int) + o).toNat, r)
      | none => none
    | _ => none
  | _ => none
def zk_blank (t : ArrayType) (n : Nat) : Option zkE := match t with
  | .int => some (.inl (.int, n, .inl (fun _ => 0)))
  | .long => some (.inl (.long, n, .inr (.inl (fun _ => 0))))
  | .boolean => some (.inl (.boolean, n, .inl (fun _ => 0)))
  | _ => none
/-- instructions that look at the heap -/
def zk_loc4 (X : zkX) (M : Nat) (i : Instr) (nx : Nat) (st : List Value) (h : zkH) : Option (Nat × List Value × zkH) := match i with
  | .getfield k => match st with
    | .ref a :: r => match zk_cell h a, zk_fl M k with
      | some (.inr (ci, fs)), some (c2, j) => bif Nat.beq ci c2 then
          match fs[j]? with
          | some v => some (nx, v :: r, h)
          | none => none
        else none
      | _, _ => none
    | _ => none
  | .putfield k => match st with
    | v :: .ref a :: r => match zk_cell h a, zk_fl M k with
      | some (.inr (ci, fs)), some (c2, j) => bif Nat.beq ci c2 && zk_fit (zk_fty ci j) v && Nat.blt j fs.length && zk_fin M ci j then some (nx, r, zk_set h a (.inr (ci, fs.set j v))) else none
      | _, _ => none
    | _ => none
  | .iaload => match st with
    | .int x :: .ref a :: r => match zk_arr X h a with
      | some e => match zk_aldi e x with
        | some v => some (nx, v :: r, h)
        | none => none
      | none => none
    | _ => none
  | .laload => match st with
    | .int x :: .ref a :: r => match zk_cell h a with
      | some e => match zk_aldl e x with
        | some v => some (nx, v :: r, h)
        | none => none
      | none => none
    | _ => none
  | .baload => match st with
    | .int x :: .ref a :: r => match zk_cell h a with
      | some e => match zk_aldz e x with
        | some v => some (nx, v :: r, h)
        | none => none
      | none => none
    | _ => none
  | .iastore => match st with
    | .int v :: .int x :: .ref a :: r => match zk_cell h a with
      | some e => match zk_asti e x v with
        | some e2 => some (nx, r, zk_set h a e2)
        | none => none
      | none => none
    | _ => none
  | .lastore => match st with
    | .long v :: .int x :: .ref a :: r => match zk_cell h a with
      | some e => match zk_astl e x v with
        | some e2 => some (nx, r, zk_set h a e2)
        | none => none
      | none => none
    | _ => none
  | .bastore => match st with
    | .int v :: .int x :: .ref a :: r => match zk_cell h a with
      | some e => match zk_astz e x v with
        | some e2 => some (nx, r, zk_set h a e2)
        | none => none
      | none => none
    | _ => none
  | .arraylength => match st with
    | .ref a :: r => match zk_arr X h a with
      | some e => match zk_alen e with
        | some v => some (nx, .int v :: r, h)
        | none => none
      | none => none
    | _ => none
  | .newarray t => match st with
    | .int x :: r => match zk_blank t x.toNatClampNeg with
      | some e => if 0 ≤ x ∧ x.toNatClampNeg ≤ 1000000 then some (nx, .ref (zk_len h) :: r, zk_push h x.toNatClampNeg (some e)) else none
      | none => none
    | _ => none
  | .new k => match zk_cl M k with
    | some ci => some (nx, .ref (zk_len h) :: st, zk_push h (zk_df ci).length (some (.inr (ci, zk_df ci))))
    | none => none
  | _ => none
/-- calls that are done in place: Object's constructor, System.arraycopy of longs -/
def zk_loc5 (M : Nat) (i : Instr) (nx : Nat) (st : List Value) (h : zkH) : Option (Nat × List Value × zkH) := match i with
  | .invokespecial k => match zk_mt M k with
    | some (_, 3, _, _) => match st with
      | .ref _ :: r => bif Nat.ble ((r.map Value.category).sum) 8 then some (nx, r, h) else none
      | _ => none
    | _ => none
  | .invokestatic k => match zk_mt M k with
    | some (_, 4, _, _) => match st with
      | .int n :: .int dp :: .ref d :: .int sp :: .ref a :: r => match zk_cell h a, zk_cell h d with
        | some (.inl (.long, n0, .inr (.inl f))), some (.inl (.long, n1, .inr (.inl g))) =>
          if (0 ≤ sp ∧ 0 ≤ dp ∧ 0 ≤ n) ∧ sp.toNatClampNeg + n.toNatClampNeg ≤ n0 ∧ dp.toNatClampNeg + n.toNatClampNeg ≤ n1 ∧ (r.map Value.category).sum ≤ 8 then some (nx, r, zk_set h d (.inl (.long, n1, .inr (.inl (va_cpy f g sp.toNatClampNeg dp.toNatClampNeg n.toNatClampNeg))))) else none
        | _, _ => none
      | _ => none
    | _ => none
  | _ => none
def zk_loc (X : zkX) (M : Nat) (i : Instr) (nx tg : Nat) (s : zkS) : Option zkS := match zk_loc1 M i nx tg s.2.1 s.2.2.1 with
  | some (pc', lv', st') => some (pc', lv', st', s.2.2.2)
  | none => match zk_loc2 i nx s.2.2.1 with
    | some (pc', st') => some (pc', s.2.1, st', s.2.2.2)
    | none => match zk_loc3 i s.1 nx tg s.2.2.1 with
      | some (pc', st') => some (pc', s.2.1, st', s.2.2.2)
      | none => match zk_loc4 X M i nx s.2.2.1 s.2.2.2 with
        | some (pc', st', h') => some (pc', s.2.1, st', h')
        | none => match zk_loc5 M i nx s.2.2.1 s.2.2.2 with
          | some (pc', st', h') => some (pc', s.2.1, st', h')
          | none => none
/-- the end of a frame: a return -/
def zk_end (M : Nat) (i : Instr) (s : zkS) : Option zkO := match i with
  | .ireturn => match s.2.2.1 with
    | [.int x] => match zk_rt M with
      | some .int => some (.inl (some (.int x)), s.2.2.2)
      | some .boolean => if vp_nar .boolean x = x then some (.inl (some (.int x)), s.2.2.2) else none
      | _ => none
    | _ => none
  | .lreturn => match s.2.2.1 with
    | [.long x] => match zk_rt M with
      | some .long => some (.inl (some (.long x)), s.2.2.2)
      | _ => none
    | _ => none
  | .areturn => match s.2.2.1 with
    | [.ref x] => match zk_rt M with
      | some (.array _) => some (.inl (some (.ref x)), s.2.2.2)
      | _ => none
    | _ => none
  | .return_ => match s.2.2.1 with
    | [] => match zk_rt M with
      | none => some (.inl none, s.2.2.2)
      | _ => none
    | _ => none
  | _ => none
/-- the end of a frame: new X; dup; ldc; invokespecial; athrow, in a method without a handler -/
def zk_thr (M : Nat) (i : Instr) (nx : Nat) (s : zkS) : Option zkO := match i with
  | .new k => match zk_xc M k with
    | some x => match zk_ins M nx with
      | some (.dup, n2, _) => match zk_ins M n2 with
        | some (.ldc j, n3, _) => match zk_ins M n3 with
          | some (.invokespecial ic, n4, _) => match zk_ins M n4 with
            | some (.athrow, _, _) => bif (zk_hd M).isEmpty && zk_xok M x j ic && Nat.ble ((s.2.2.1.map Value.category).sum) 8 then some (.inr x, zk_push s.2.2.2 6 none) else none
            | _ => none
          | _ => none
        | _ => none
      | _ => none
    | none => none
  | _ => none
/-- the arguments of a call, from the stack -/
def zk_pop : Nat → List Value → List Value → Option (List Value × List Value)
  | 0, acc, st => some (acc, st)
  | n + 1, acc, v :: st => zk_pop n (v :: acc) st
  | _ + 1, _, [] => none
def zk_inv (M : Nat) (i : Instr) (st : List Value) (h : zkH) : Option (Nat × List Value × List Value) := match i with
  | .invokevirtual k => match zk_mt M k with
    | some (M2, 0, n, ci) => match zk_pop n [] st with
      | some (as, .ref b :: r) => match zk_cell h b with
        | some (.inr (c2, _)) => bif Nat.beq ci c2 && Nat.ble ((r.map Value.category).sum) 8 then some (M2, .ref b :: as, r) else none
        | _ => none
      | _ => none
    | _ => none
  | .invokestatic k => match zk_mt M k with
    | some (M2, 1, n, _) => match zk_pop n [] st with
      | some (as, r) => bif Nat.ble ((r.map Value.category).sum) 8 then some (M2, as, r) else none
      | _ => none
    | _ => none
  | .invokespecial k => match zk_mt M k with
    | some (M2, 2, n, _) => match zk_pop n [] st with
      | some (as, .ref b :: r) => bif Nat.ble ((r.map Value.category).sum) 8 then some (M2, .ref b :: as, r) else none
      | _ => none
    | _ => none
  | _ => none
def zk_catch (M pc x : Nat) : List (Nat × Nat × Nat × Nat) → Option (Option Nat)
  | [] => some none
  | q :: r => bif Nat.ble q.1 pc && Nat.blt pc q.2.1 then
      match zk_xk M q.2.2.2 with
      | none => none
      | some y => bif Nat.beq y x then some (some q.2.2.1) else zk_catch M pc x r
    else zk_catch M pc x r
/-- at a handler: the exception goes into a local that is known no more -/
def zk_hnd (M hp : Nat) (lv : zkL) : Option (Nat × zkL) := match zk_ins M hp with
  | some (.astore k, nx, _) => bif Nat.blt k (zk_mxl M) then some (nx, zk_del lv k) else none
  | some (.astore_n k, nx, _) => bif Nat.blt k.val (zk_mxl M) then some (nx, zk_del lv k.val) else none
  | _ => none
/-- what follows a call that came back with o -/
def zk_back (go : zkS → Option zkO) (M pc nx : Nat) (lv : zkL) (rest : List Value) (o : zkO) : Option zkO := match o.1 with
  | .inl v => go (nx, lv, v.toList ++ rest, o.2)
  | .inr x => match zk_catch M pc x (zk_hd M) with
    | none => none
    | some none => some (.inr x, o.2)
    | some (some hp) => match zk_hnd M hp lv with
      | none => none
      | some (n2, lv2) => go (n2, lv2, [], o.2)
/-- how many frames more an instruction wants -/
def zk_bud (d M : Nat) (i : Instr) : Bool := match i with
  | .invokespecial k => match zk_mt M k with
    | some (_, 3, _, _) => Nat.ble 1 d
    | _ => true
  | .invokestatic k => match zk_mt M k with
    | some (_, 4, _, _) => Nat.ble 1 d
    | _ => true
  | .new k => match zk_xc M k with
    | some _ => Nat.ble 6 d
    | none => true
  | _ => true
theorem zk_bud_mono {d d2 M : Nat} {i : Instr} (hd : d ≤ d2) (h : zk_bud d M i = true) : zk_bud d2 M i = true := by
  unfold zk_bud at h ⊢
  have key : ∀ k : Nat, Nat.ble k d = true → Nat.ble k d2 = true := fun k hk => Nat.ble_eq_true_of_le (Nat.le_trans (Nat.le_of_ble_eq_true hk) hd)
  split at h
  · split at h
    · exact key 1 h
    · rfl
  · split at h
    · exact key 1 h
    · rfl
  · split at h
    · exact key 6 h
    · rfl
  · rfl
def zk_run (X : zkX) (call : Nat → List Value → zkH → Option zkO) (d M : Nat) : Nat → zkS → Option zkO
  | 0, _ => none
  | n + 1, s => match zk_ins M s.1 with
    | none => none
    | some (i, nx, tg) => bif zk_bud d M i then
      match zk_loc X M i nx tg s with
      | some s2 => zk_run X call d M n s2
      | none => match zk_end M i s with
        | some o => some o
        | none => match zk_thr M i nx s with
          | some o => some o
          | none => match zk_inv M i s.2.2.1 s.2.2.2 with
            | none => none
            | some (M2, as, rest) => match call M2 as s.2.2.2 with
              | none => none
              | some o => zk_back (zk_run X call d M n) M s.1 nx s.2.1 rest o
      else none
def zk_call (X : zkX) (n : Nat) : Nat → Nat → List Value → zkH → Option zkO
  | 0, _, _, _ => none
  | d + 1, M, as, h => bif Nat.ble (lg_sl as).length (zk_mxl M) then zk_run X (zk_call X n d) d M n (0, lv_args 0 as, [], h) else none
/-- a frame comes to an end with Q; a call comes back with Q -/
def zk_W (X : zkX) (d M : Nat) (s : zkS) (Q : zkO → Prop) : Prop := ∃ n o, zk_run X (zk_call X n d) d M n s = some o ∧ Q o
def zk_C (X : zkX) (d M : Nat) (as : List Value) (h : zkH) (Q : zkO → Prop) : Prop := ∃ n o, zk_call X n d M as h = some o ∧ Q o
theorem zk_back_mono {go1 go2 : zkS → Option zkO} (hg : ∀ s o, go1 s = some o → go2 s = some o) {M pc nx : Nat} {lv : zkL} {rest : List Value} {o q : zkO} (h : zk_back go1 M pc nx lv rest o = some q) : zk_back go2 M pc nx lv rest o = some q := by
  unfold zk_back at h ⊢
  split at h
  · rename_i v hv
    try simp only [hv]
    exact hg _ _ h
  · rename_i x hx
    try simp only [hx]
    split at h
    · cases h
    · rename_i hc
      try simp only [hc]
      exact h
    · rename_i hp hc
      try simp only [hc]
      split at h
      · cases h
      · rename_i n2 lv2 hh
        try simp only [hh]
        exact hg _ _ h
theorem zk_run_mono {X : zkX} {c1 c2 : Nat → List Value → zkH → Option zkO} (hc : ∀ M as h o, c1 M as h = some o → c2 M as h = some o) {d d2 : Nat} (hd : d ≤ d2) (M : Nat) : ∀ (n n2 : Nat), n ≤ n2 → ∀ (s : zkS) (o : zkO), zk_run X c1 d M n s = some o → zk_run X c2 d2 M n2 s = some o := by
  intro n
  induction n with
  | zero => intro n2 _ s o h; cases h
  | succ n ih =>
    intro n2 hn s o h
    obtain ⟨k, rfl⟩ : ∃ k, n2 = k + 1 := ⟨n2 - 1, by omega⟩
    have hk : n ≤ k := by omega
    unfold zk_run at h ⊢
    split at h
    · cases h
    · rename_i i nx tg hi
      try simp only [hi]
      cases hbd : zk_bud d M i with
      | false => rw [hbd] at h; cases h
      | true =>
      rw [hbd, cond_true] at h
      rw [zk_bud_mono hd hbd, cond_true]
      split at h
      · rename_i s2 h2
        try simp only [h2]
        exact ih k hk _ _ h
      · rename_i h2
        try simp only [h2]
        split at h
        · rename_i o2 h3
          try simp only [h3]
          exact h
        · rename_i h3
          try simp only [h3]
          split at h
          · rename_i o2 h4
            try simp only [h4]
            exact h
          · rename_i h4
            try simp only [h4]
            split at h
            · cases h
            · rename_i M2 as rest h5
              try simp only [h5]
              split at h
              · cases h
              · rename_i o2 h6
                try simp only [hc _ _ _ _ h6]
                exact zk_back_mono (fun s o q => ih k hk s o q) h
theorem zk_call_mono {X : zkX} {n n2 : Nat} (hn : n ≤ n2) : ∀ (d d2 : Nat), d ≤ d2 → ∀ (M : Nat) (as : List Value) (h : zkH) (o : zkO), zk_call X n d M as h = some o → zk_call X n2 d2 M as h = some o := by
  intro d
  induction d with
  | zero => intro d2 _ M as h o q; cases q
  | succ d ih =>
    intro d2 hd M as h o q
    obtain ⟨k, rfl⟩ : ∃ k, d2 = k + 1 := ⟨d2 - 1, by omega⟩
    unfold zk_call at q ⊢
    cases hb : Nat.ble (lg_sl as).length (zk_mxl M) with
    | false => rw [hb] at q; cases q
    | true =>
      rw [hb] at q
      exact zk_run_mono (fun M as h o => ih k (by omega) M as h o) (by omega) M n n2 hn _ _ q
theorem zk_C.up {X : zkX} {d d2 M : Nat} {as : List Value} {h : zkH} {Q : zkO → Prop} (hd : d ≤ d2) (k : zk_C X d M as h Q) : zk_C X d2 M as h Q := by
  obtain ⟨n, o, h1, h2⟩ := k
  exact ⟨n, o, zk_call_mono (Nat.le_refl n) d d2 hd M as h o h1, h2⟩
theorem zk_C.to {X : zkX} {d M : Nat} {as : List Value} {h : zkH} {Q Q2 : zkO → Prop} (k : zk_C X d M as h Q) (hq : ∀ o, Q o → Q2 o) : zk_C X d M as h Q2 := by
  obtain ⟨n, o, h1, h2⟩ := k
  exact ⟨n, o, h1, hq o h2⟩
theorem zk_W.to {X : zkX} {d M : Nat} {s : zkS} {Q Q2 : zkO → Prop} (k : zk_W X d M s Q) (hq : ∀ o, Q o → Q2 o) : zk_W X d M s Q2 := by
  obtain ⟨n, o, h1, h2⟩ := k
  exact ⟨n, o, h1, hq o h2⟩
/-- into a method -/
theorem zk_enter {X : zkX} {d M : Nat} {as : List Value} {h : zkH} {Q : zkO → Prop} {lv : zkL} (hl : Nat.ble (lg_sl as).length (zk_mxl M) = true) (hv : lv_args 0 as = lv) (k : zk_W X d M (0, lv, [], h) Q) : zk_C X (d + 1) M as h Q := by
  obtain ⟨n, o, h1, h2⟩ := k
  subst hv
  refine ⟨n, o, ?_, h2⟩
  unfold zk_call
  rw [hl]
  exact h1
theorem zk_w_loc {X : zkX} {d M pc nx tg : Nat} {i : Instr} {lv : zkL} {st : List Value} {h : zkH} {s2 : zkS} {Q : zkO → Prop} (hi : zk_ins M pc = some (i, nx, tg)) (hbd : zk_bud d M i = true) (hl : zk_loc X M i nx tg (pc, lv, st, h) = some s2) (k : zk_W X d M s2 Q) : zk_W X d M (pc, lv, st, h) Q := by
  obtain ⟨n, o, h1, h2⟩ := k
  refine ⟨n + 1, o, ?_, h2⟩
  unfold zk_run
  simp only [hi, hbd, hl, cond_true]
  exact zk_run_mono (fun M as h o q => zk_call_mono (Nat.le_succ n) d d (Nat.le_refl d) M as h o q) (Nat.le_refl d) M n n (Nat.le_refl n) _ _ h1
theorem zk_w_end {X : zkX} {d M pc nx tg : Nat} {i : Instr} {lv : zkL} {st : List Value} {h : zkH} {o : zkO} {Q : zkO → Prop} (hi : zk_ins M pc = some (i, nx, tg)) (hbd : zk_bud d M i = true) (hl : zk_loc X M i nx tg (pc, lv, st, h) = none) (he : zk_end M i (pc, lv, st, h) = some o) (k : Q o) : zk_W X d M (pc, lv, st, h) Q := by
  refine ⟨1, o, ?_, k⟩
  unfold zk_run
  simp only [hi, hbd, hl, he, cond_true]
theorem zk_w_thr {X : zkX} {d M pc nx tg : Nat} {i : Instr} {lv : zkL} {st : List Value} {h : zkH} {o : zkO} {Q : zkO → Prop} (hi : zk_ins M pc = some (i, nx, tg)) (hbd : zk_bud d M i = true) (hl : zk_loc X M i nx tg (pc, lv, st, h) = none) (he : zk_end M i (pc, lv, st, h) = none) (ht : zk_thr M i nx (pc, lv, st, h) = some o) (k : Q o) : zk_W X d M (pc, lv, st, h) Q := by
  refine ⟨1, o, ?_, k⟩
  unfold zk_run
  simp only [hi, hbd, hl, he, ht, cond_true]
/-- what must hold behind a call -/
def zk_K (X : zkX) (d M pc nx : Nat) (lv : zkL) (rest : List Value) (Q : zkO → Prop) (o : zkO) : Prop := match o.1 with
  | .inl v => zk_W X d M (nx, lv, v.toList ++ rest, o.2) Q
  | .inr x => match zk_catch M pc x (zk_hd M) with
    | none => False
    | some none => Q (.inr x, o.2)
    | some (some hp) => match zk_hnd M hp lv with
      | none => False
      | some (n2, lv2) => zk_W X d M (n2, lv2, [], o.2) Q
theorem zk_back_of {X : zkX} {d M pc nx : Nat} {lv : zkL} {rest : List Value} {Q : zkO → Prop} {o : zkO} (h : zk_K X d M pc nx lv rest Q o) : ∃ n q, zk_back (zk_run X (zk_call X n d) d M n) M pc nx lv rest o = some q ∧ Q q := by
  unfold zk_K at h
  unfold zk_back
  split at h
  · obtain ⟨n, q, h1, h2⟩ := h
    exact ⟨n, q, h1, h2⟩
  · split at h
    · exact h.elim
    · exact ⟨0, _, rfl, h⟩
    · split at h
      · exact h.elim
      · obtain ⟨n, q, h1, h2⟩ := h
        exact ⟨n, q, h1, h2⟩
theorem zk_w_call {X : zkX} {d M M2 pc nx tg : Nat} {i : Instr} {lv : zkL} {st as rest : List Value} {h : zkH} {Q : zkO → Prop} (hi : zk_ins M pc = some (i, nx, tg)) (hbd : zk_bud d M i = true) (hl : zk_loc X M i nx tg (pc, lv, st, h) = none) (he : zk_end M i (pc, lv, st, h) = none) (ht : zk_thr M i nx (pc, lv, st, h) = none) (hv : zk_inv M i st h = some (M2, as, rest)) (k : zk_C X d M2 as h (zk_K X d M pc nx lv rest Q)) : zk_W X d M (pc, lv, st, h) Q := by
  obtain ⟨n1, o, h1, h2⟩ := k
  obtain ⟨n2, q, h3, h4⟩ := zk_back_of h2
  refine ⟨n1 + n2 + 1, q, ?_, h4⟩
  unfold zk_run
  simp only [hi, hbd, hl, he, ht, hv, cond_true]
  rw [zk_call_mono (show n1 ≤ n1 + n2 + 1 by omega) d d (Nat.le_refl d) M2 as h o h1]
  exact zk_back_mono (fun s o q => zk_run_mono (fun M as h o q => zk_call_mono (show n2 ≤ n1 + n2 + 1 by omega) d d (Nat.le_refl d) M as h o q) (Nat.le_refl d) M n2 (n1 + n2) (by omega) s o q) h3

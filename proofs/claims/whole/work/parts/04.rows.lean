/-! a row an instruction, over the abstract machine -/
section ZR
variable {X : zkX} {d M pc nx tg : Nat} {lv lv2 : zkL} {st : List Value} {h : zkH} {Q : zkO → Prop}
theorem zi_aload {k a : Nat} (hi : zk_ins M pc = some (.aload k, nx, tg)) (hx : zk_get lv k = some (.ref a)) (kk : zk_W X d M (nx, lv, .ref a :: st, h) Q) : zk_W X d M (pc, lv, st, h) Q := zk_w_loc hi rfl (by simp only [zk_loc, zk_loc1, hx]) kk
theorem zi_aload_n {k : Fin 4} {a : Nat} (hi : zk_ins M pc = some (.aload_n k, nx, tg)) (hx : zk_get lv k.val = some (.ref a)) (kk : zk_W X d M (nx, lv, .ref a :: st, h) Q) : zk_W X d M (pc, lv, st, h) Q := zk_w_loc hi rfl (by simp only [zk_loc, zk_loc1, hx]) kk
theorem zi_iload {k : Nat} {x : Int32} (hi : zk_ins M pc = some (.iload k, nx, tg)) (hx : zk_get lv k = some (.int x)) (kk : zk_W X d M (nx, lv, .int x :: st, h) Q) : zk_W X d M (pc, lv, st, h) Q := zk_w_loc hi rfl (by simp only [zk_loc, zk_loc1, hx]) kk
theorem zi_iload_n {k : Fin 4} {x : Int32} (hi : zk_ins M pc = some (.iload_n k, nx, tg)) (hx : zk_get lv k.val = some (.int x)) (kk : zk_W X d M (nx, lv, .int x :: st, h) Q) : zk_W X d M (pc, lv, st, h) Q := zk_w_loc hi rfl (by simp only [zk_loc, zk_loc1, hx]) kk
theorem zi_lload {k : Nat} {x : Int64} (hi : zk_ins M pc = some (.lload k, nx, tg)) (hx : zk_get lv k = some (.long x)) (kk : zk_W X d M (nx, lv, .long x :: st, h) Q) : zk_W X d M (pc, lv, st, h) Q := zk_w_loc hi rfl (by simp only [zk_loc, zk_loc1, hx]) kk
theorem zi_lload_n {k : Fin 4} {x : Int64} (hi : zk_ins M pc = some (.lload_n k, nx, tg)) (hx : zk_get lv k.val = some (.long x)) (kk : zk_W X d M (nx, lv, .long x :: st, h) Q) : zk_W X d M (pc, lv, st, h) Q := zk_w_loc hi rfl (by simp only [zk_loc, zk_loc1, hx]) kk
theorem zi_istore {k : Nat} {x : Int32} (hi : zk_ins M pc = some (.istore k, nx, tg)) (hb : Nat.blt k (zk_mxl M) = true) (hl : zk_put1 lv k (.int x) = lv2) (kk : zk_W X d M (nx, lv2, st, h) Q) : zk_W X d M (pc, lv, .int x :: st, h) Q := zk_w_loc hi rfl (by simp only [zk_loc, zk_loc1, hb, hl, cond_true]) kk
theorem zi_istore_n {k : Fin 4} {x : Int32} (hi : zk_ins M pc = some (.istore_n k, nx, tg)) (hb : Nat.blt k.val (zk_mxl M) = true) (hl : zk_put1 lv k.val (.int x) = lv2) (kk : zk_W X d M (nx, lv2, st, h) Q) : zk_W X d M (pc, lv, .int x :: st, h) Q := zk_w_loc hi rfl (by simp only [zk_loc, zk_loc1, hb, hl, cond_true]) kk
theorem zi_lstore {k : Nat} {x : Int64} (hi : zk_ins M pc = some (.lstore k, nx, tg)) (hb : Nat.blt (k + 1) (zk_mxl M) = true) (hl : zk_put2 lv k (.long x) = lv2) (kk : zk_W X d M (nx, lv2, st, h) Q) : zk_W X d M (pc, lv, .long x :: st, h) Q := zk_w_loc hi rfl (by simp only [zk_loc, zk_loc1, hb, hl, cond_true]) kk
theorem zi_lstore_n {k : Fin 4} {x : Int64} (hi : zk_ins M pc = some (.lstore_n k, nx, tg)) (hb : Nat.blt (k.val + 1) (zk_mxl M) = true) (hl : zk_put2 lv k.val (.long x) = lv2) (kk : zk_W X d M (nx, lv2, st, h) Q) : zk_W X d M (pc, lv, .long x :: st, h) Q := zk_w_loc hi rfl (by simp only [zk_loc, zk_loc1, hb, hl, cond_true]) kk
theorem zi_astore {k a : Nat} (hi : zk_ins M pc = some (.astore k, nx, tg)) (hb : Nat.blt k (zk_mxl M) = true) (hl : zk_put1 lv k (.ref a) = lv2) (kk : zk_W X d M (nx, lv2, st, h) Q) : zk_W X d M (pc, lv, .ref a :: st, h) Q := zk_w_loc hi rfl (by simp only [zk_loc, zk_loc1, hb, hl, cond_true]) kk
theorem zi_astore_n {k : Fin 4} {a : Nat} (hi : zk_ins M pc = some (.astore_n k, nx, tg)) (hb : Nat.blt k.val (zk_mxl M) = true) (hl : zk_put1 lv k.val (.ref a) = lv2) (kk : zk_W X d M (nx, lv2, st, h) Q) : zk_W X d M (pc, lv, .ref a :: st, h) Q := zk_w_loc hi rfl (by simp only [zk_loc, zk_loc1, hb, hl, cond_true]) kk
theorem zi_iinc {k : Nat} {n : Int} {x y : Int32} (hi : zk_ins M pc = some (.iinc k n, nx, tg)) (hx : zk_get lv k = some (.int x)) (hb : Nat.blt k (zk_mxl M) = true) (hy : x + Int32.ofInt n = y) (hl : zk_put1 lv k (.int y) = lv2) (kk : zk_W X d M (nx, lv2, st, h) Q) : zk_W X d M (pc, lv, st, h) Q := zk_w_loc hi rfl (by simp only [zk_loc, zk_loc1, hx, hb, hy, hl, cond_true]) kk
theorem zi_iconst {n : Int} {v : Int32} (hi : zk_ins M pc = some (.iconst n, nx, tg)) (hv : Int32.ofInt n = v) (kk : zk_W X d M (nx, lv, .int v :: st, h) Q) : zk_W X d M (pc, lv, st, h) Q := zk_w_loc hi rfl (by simp only [zk_loc, zk_loc1, hv]) kk
theorem zi_lconst {n : Fin 2} {v : Int64} (hi : zk_ins M pc = some (.lconst n, nx, tg)) (hv : Int64.ofNat n.val = v) (kk : zk_W X d M (nx, lv, .long v :: st, h) Q) : zk_W X d M (pc, lv, st, h) Q := zk_w_loc hi rfl (by simp only [zk_loc, zk_loc1, hv]) kk
theorem zi_bipush {n : Int} {v : Int32} (hi : zk_ins M pc = some (.bipush n, nx, tg)) (hv : (Int8.ofInt n).toInt32 = v) (kk : zk_W X d M (nx, lv, .int v :: st, h) Q) : zk_W X d M (pc, lv, st, h) Q := zk_w_loc hi rfl (by simp only [zk_loc, zk_loc1, hv]) kk
theorem zi_sipush {n : Int} {v : Int32} (hi : zk_ins M pc = some (.sipush n, nx, tg)) (hv : (Int16.ofInt n).toInt32 = v) (kk : zk_W X d M (nx, lv, .int v :: st, h) Q) : zk_W X d M (pc, lv, st, h) Q := zk_w_loc hi rfl (by simp only [zk_loc, zk_loc1, hv]) kk
theorem zi_ldc {k : Nat} {v : Int32} (hi : zk_ins M pc = some (.ldc k, nx, tg)) (hv : zk_ki M k = some v) (kk : zk_W X d M (nx, lv, .int v :: st, h) Q) : zk_W X d M (pc, lv, st, h) Q := zk_w_loc hi rfl (by simp only [zk_loc, zk_loc1, hv]) kk
theorem zi_ldc_w {k : Nat} {v : Int32} (hi : zk_ins M pc = some (.ldc_w k, nx, tg)) (hv : zk_ki M k = some v) (kk : zk_W X d M (nx, lv, .int v :: st, h) Q) : zk_W X d M (pc, lv, st, h) Q := zk_w_loc hi rfl (by simp only [zk_loc, zk_loc1, hv]) kk
theorem zi_ldc2_w {k : Nat} {v : Int64} (hi : zk_ins M pc = some (.ldc2_w k, nx, tg)) (hv : zk_kl M k = some v) (kk : zk_W X d M (nx, lv, .long v :: st, h) Q) : zk_W X d M (pc, lv, st, h) Q := zk_w_loc hi rfl (by simp only [zk_loc, zk_loc1, hv]) kk
theorem zi_dupi {x : Int32} (hi : zk_ins M pc = some (.dup, nx, tg)) (kk : zk_W X d M (nx, lv, .int x :: .int x :: st, h) Q) : zk_W X d M (pc, lv, .int x :: st, h) Q := zk_w_loc hi rfl rfl kk
theorem zi_dupa {x : Nat} (hi : zk_ins M pc = some (.dup, nx, tg)) (kk : zk_W X d M (nx, lv, .ref x :: .ref x :: st, h) Q) : zk_W X d M (pc, lv, .ref x :: st, h) Q := zk_w_loc hi rfl rfl kk
theorem zi_popi {x : Int32} (hi : zk_ins M pc = some (.pop, nx, tg)) (kk : zk_W X d M (nx, lv, st, h) Q) : zk_W X d M (pc, lv, .int x :: st, h) Q := zk_w_loc hi rfl rfl kk
theorem zi_iadd {x y : Int32} (hi : zk_ins M pc = some (.iadd, nx, tg)) (kk : zk_W X d M (nx, lv, .int (x + y) :: st, h) Q) : zk_W X d M (pc, lv, .int y :: .int x :: st, h) Q := zk_w_loc hi rfl rfl kk
theorem zi_isub {x y : Int32} (hi : zk_ins M pc = some (.isub, nx, tg)) (kk : zk_W X d M (nx, lv, .int (x - y) :: st, h) Q) : zk_W X d M (pc, lv, .int y :: .int x :: st, h) Q := zk_w_loc hi rfl rfl kk
theorem zi_imul {x y : Int32} (hi : zk_ins M pc = some (.imul, nx, tg)) (kk : zk_W X d M (nx, lv, .int (x * y) :: st, h) Q) : zk_W X d M (pc, lv, .int y :: .int x :: st, h) Q := zk_w_loc hi rfl rfl kk
theorem zi_idiv {x y : Int32} (hi : zk_ins M pc = some (.idiv, nx, tg)) (hne : ¬ y = 0) (kk : zk_W X d M (nx, lv, .int (x / y) :: st, h) Q) : zk_W X d M (pc, lv, .int y :: .int x :: st, h) Q := zk_w_loc hi rfl (by simp only [zk_loc, zk_loc1, zk_loc2, if_neg hne]) kk
theorem zi_irem {x y : Int32} (hi : zk_ins M pc = some (.irem, nx, tg)) (hne : ¬ y = 0) (kk : zk_W X d M (nx, lv, .int (x - x / y * y) :: st, h) Q) : zk_W X d M (pc, lv, .int y :: .int x :: st, h) Q := zk_w_loc hi rfl (by simp only [zk_loc, zk_loc1, zk_loc2, if_neg hne]) kk
theorem zi_iand {x y : Int32} (hi : zk_ins M pc = some (.iand, nx, tg)) (kk : zk_W X d M (nx, lv, .int (x &&& y) :: st, h) Q) : zk_W X d M (pc, lv, .int y :: .int x :: st, h) Q := zk_w_loc hi rfl rfl kk
theorem zi_ior {x y : Int32} (hi : zk_ins M pc = some (.ior, nx, tg)) (kk : zk_W X d M (nx, lv, .int (x ||| y) :: st, h) Q) : zk_W X d M (pc, lv, .int y :: .int x :: st, h) Q := zk_w_loc hi rfl rfl kk
theorem zi_ixor {x y : Int32} (hi : zk_ins M pc = some (.ixor, nx, tg)) (kk : zk_W X d M (nx, lv, .int (x ^^^ y) :: st, h) Q) : zk_W X d M (pc, lv, .int y :: .int x :: st, h) Q := zk_w_loc hi rfl rfl kk
theorem zi_iushr {x y : Int32} (hi : zk_ins M pc = some (.iushr, nx, tg)) (kk : zk_W X d M (nx, lv, .int (x.toUInt32 >>> (y.toUInt32 &&& Int32.toUInt32 31)).toInt32 :: st, h) Q) : zk_W X d M (pc, lv, .int y :: .int x :: st, h) Q := zk_w_loc hi rfl rfl kk
theorem zi_ladd {x y : Int64} (hi : zk_ins M pc = some (.ladd, nx, tg)) (kk : zk_W X d M (nx, lv, .long (x + y) :: st, h) Q) : zk_W X d M (pc, lv, .long y :: .long x :: st, h) Q := zk_w_loc hi rfl rfl kk
theorem zi_lsub {x y : Int64} (hi : zk_ins M pc = some (.lsub, nx, tg)) (kk : zk_W X d M (nx, lv, .long (x - y) :: st, h) Q) : zk_W X d M (pc, lv, .long y :: .long x :: st, h) Q := zk_w_loc hi rfl rfl kk
theorem zi_land {x y : Int64} (hi : zk_ins M pc = some (.land, nx, tg)) (kk : zk_W X d M (nx, lv, .long (x &&& y) :: st, h) Q) : zk_W X d M (pc, lv, .long y :: .long x :: st, h) Q := zk_w_loc hi rfl rfl kk
theorem zi_lor {x y : Int64} (hi : zk_ins M pc = some (.lor, nx, tg)) (kk : zk_W X d M (nx, lv, .long (x ||| y) :: st, h) Q) : zk_W X d M (pc, lv, .long y :: .long x :: st, h) Q := zk_w_loc hi rfl rfl kk
theorem zi_lshl {x : Int64} {y : Int32} (hi : zk_ins M pc = some (.lshl, nx, tg)) (kk : zk_W X d M (nx, lv, .long (x <<< (y.toInt64 &&& 63)) :: st, h) Q) : zk_W X d M (pc, lv, .int y :: .long x :: st, h) Q := zk_w_loc hi rfl rfl kk
theorem zi_lshr {x : Int64} {y : Int32} (hi : zk_ins M pc = some (.lshr, nx, tg)) (kk : zk_W X d M (nx, lv, .long (x >>> (y.toInt64 &&& 63)) :: st, h) Q) : zk_W X d M (pc, lv, .int y :: .long x :: st, h) Q := zk_w_loc hi rfl rfl kk
theorem zi_lushr {x : Int64} {y : Int32} (hi : zk_ins M pc = some (.lushr, nx, tg)) (kk : zk_W X d M (nx, lv, .long (x.toUInt64 >>> (y.toInt64.toUInt64 &&& Int64.toUInt64 63)).toInt64 :: st, h) Q) : zk_W X d M (pc, lv, .int y :: .long x :: st, h) Q := zk_w_loc hi rfl rfl kk
theorem zi_i2l {x : Int32} (hi : zk_ins M pc = some (.i2l, nx, tg)) (kk : zk_W X d M (nx, lv, .long x.toInt64 :: st, h) Q) : zk_W X d M (pc, lv, .int x :: st, h) Q := zk_w_loc hi rfl rfl kk
theorem zi_l2i {x : Int64} (hi : zk_ins M pc = some (.l2i, nx, tg)) (kk : zk_W X d M (nx, lv, .int x.toInt32 :: st, h) Q) : zk_W X d M (pc, lv, .long x :: st, h) Q := zk_w_loc hi rfl rfl kk
theorem zi_lcmp {x y : Int64} (hi : zk_ins M pc = some (.lcmp, nx, tg)) (kk : zk_W X d M (nx, lv, .int (lg_cmp x y) :: st, h) Q) : zk_W X d M (pc, lv, .long y :: .long x :: st, h) Q := zk_w_loc hi rfl rfl kk
theorem zi_goto {off : Int} (hi : zk_ins M pc = some (.goto off, nx, tg)) (kk : zk_W X d M (tg, lv, st, h) Q) : zk_W X d M (pc, lv, st, h) Q := zk_w_loc hi rfl rfl kk
theorem zi_topi {x y : Int32} (hy : x = y) (kk : zk_W X d M (pc, lv, .int y :: st, h) Q) : zk_W X d M (pc, lv, .int x :: st, h) Q := by rw [hy]; exact kk
theorem zi_topl {x y : Int64} (hy : x = y) (kk : zk_W X d M (pc, lv, .long y :: st, h) Q) : zk_W X d M (pc, lv, .long x :: st, h) Q := by rw [hy]; exact kk
theorem zk_ifT {c : ClassFile.Cond} {off : Int} {x : Int32} (hi : zk_ins M pc = some (.ifCond c off, nx, tg)) (hc : zk_if c x = true) (kk : zk_W X d M (tg, lv, st, h) Q) : zk_W X d M (pc, lv, .int x :: st, h) Q := zk_w_loc hi rfl (by simp only [zk_loc, zk_loc1, zk_loc2, zk_loc3, hc, cond_true]) kk
theorem zk_ifF {c : ClassFile.Cond} {off : Int} {x : Int32} (hi : zk_ins M pc = some (.ifCond c off, nx, tg)) (hc : zk_if c x = false) (kk : zk_W X d M (nx, lv, st, h) Q) : zk_W X d M (pc, lv, .int x :: st, h) Q := zk_w_loc hi rfl (by simp only [zk_loc, zk_loc1, zk_loc2, zk_loc3, hc, cond_false]) kk
theorem zk_icT {c : ClassFile.Cond} {off : Int} {x y : Int32} (hi : zk_ins M pc = some (.if_icmp c off, nx, tg)) (hc : zk_icmp c x y = true) (kk : zk_W X d M (tg, lv, st, h) Q) : zk_W X d M (pc, lv, .int y :: .int x :: st, h) Q := zk_w_loc hi rfl (by simp only [zk_loc, zk_loc1, zk_loc2, zk_loc3, hc, cond_true]) kk
theorem zk_icF {c : ClassFile.Cond} {off : Int} {x y : Int32} (hi : zk_ins M pc = some (.if_icmp c off, nx, tg)) (hc : zk_icmp c x y = false) (kk : zk_W X d M (nx, lv, st, h) Q) : zk_W X d M (pc, lv, .int y :: .int x :: st, h) Q := zk_w_loc hi rfl (by simp only [zk_loc, zk_loc1, zk_loc2, zk_loc3, hc, cond_false]) kk
theorem zi_ifeqT {off : Int} {x : Int32} (hi : zk_ins M pc = some (.ifCond .eq off, nx, tg)) (hc : x = 0) (kk : zk_W X d M (tg, lv, st, h) Q) : zk_W X d M (pc, lv, .int x :: st, h) Q := zk_ifT hi (by simp only [zk_if]; exact decide_eq_true hc) kk
theorem zi_ifeqF {off : Int} {x : Int32} (hi : zk_ins M pc = some (.ifCond .eq off, nx, tg)) (hc : ¬ x = 0) (kk : zk_W X d M (nx, lv, st, h) Q) : zk_W X d M (pc, lv, .int x :: st, h) Q := zk_ifF hi (by simp only [zk_if]; exact decide_eq_false hc) kk
theorem zi_ifeq {off : Int} {x : Int32} (hi : zk_ins M pc = some (.ifCond .eq off, nx, tg)) (kt : x = 0 → zk_W X d M (tg, lv, st, h) Q) (kf : ¬ x = 0 → zk_W X d M (nx, lv, st, h) Q) : zk_W X d M (pc, lv, .int x :: st, h) Q := by
  by_cases hc : x = 0
  · exact zi_ifeqT hi hc (kt hc)
  · exact zi_ifeqF hi hc (kf hc)
theorem zi_ifneT {off : Int} {x : Int32} (hi : zk_ins M pc = some (.ifCond .ne off, nx, tg)) (hc : ¬ x = 0) (kk : zk_W X d M (tg, lv, st, h) Q) : zk_W X d M (pc, lv, .int x :: st, h) Q := zk_ifT hi (by simp only [zk_if]; exact decide_eq_true hc) kk
theorem zi_ifneF {off : Int} {x : Int32} (hi : zk_ins M pc = some (.ifCond .ne off, nx, tg)) (hc : x = 0) (kk : zk_W X d M (nx, lv, st, h) Q) : zk_W X d M (pc, lv, .int x :: st, h) Q := zk_ifF hi (by simp only [zk_if]; exact decide_eq_false (fun q => q hc)) kk
theorem zi_ifne {off : Int} {x : Int32} (hi : zk_ins M pc = some (.ifCond .ne off, nx, tg)) (kt : ¬ x = 0 → zk_W X d M (tg, lv, st, h) Q) (kf : x = 0 → zk_W X d M (nx, lv, st, h) Q) : zk_W X d M (pc, lv, .int x :: st, h) Q := by
  by_cases hc : x = 0
  · exact zi_ifneF hi hc (kf hc)
  · exact zi_ifneT hi hc (kt hc)
theorem zi_ifltT {off : Int} {x : Int32} (hi : zk_ins M pc = some (.ifCond .lt off, nx, tg)) (hc : x < 0) (kk : zk_W X d M (tg, lv, st, h) Q) : zk_W X d M (pc, lv, .int x :: st, h) Q := zk_ifT hi (by simp only [zk_if]; exact decide_eq_true hc) kk
theorem zi_ifltF {off : Int} {x : Int32} (hi : zk_ins M pc = some (.ifCond .lt off, nx, tg)) (hc : ¬ x < 0) (kk : zk_W X d M (nx, lv, st, h) Q) : zk_W X d M (pc, lv, .int x :: st, h) Q := zk_ifF hi (by simp only [zk_if]; exact decide_eq_false hc) kk
theorem zi_iflt {off : Int} {x : Int32} (hi : zk_ins M pc = some (.ifCond .lt off, nx, tg)) (kt : x < 0 → zk_W X d M (tg, lv, st, h) Q) (kf : ¬ x < 0 → zk_W X d M (nx, lv, st, h) Q) : zk_W X d M (pc, lv, .int x :: st, h) Q := by
  by_cases hc : x < 0
  · exact zi_ifltT hi hc (kt hc)
  · exact zi_ifltF hi hc (kf hc)
theorem zi_ifgeT {off : Int} {x : Int32} (hi : zk_ins M pc = some (.ifCond .ge off, nx, tg)) (hc : 0 ≤ x) (kk : zk_W X d M (tg, lv, st, h) Q) : zk_W X d M (pc, lv, .int x :: st, h) Q := zk_ifT hi (by simp only [zk_if]; exact decide_eq_true hc) kk
theorem zi_ifgeF {off : Int} {x : Int32} (hi : zk_ins M pc = some (.ifCond .ge off, nx, tg)) (hc : ¬ 0 ≤ x) (kk : zk_W X d M (nx, lv, st, h) Q) : zk_W X d M (pc, lv, .int x :: st, h) Q := zk_ifF hi (by simp only [zk_if]; exact decide_eq_false hc) kk
theorem zi_ifge {off : Int} {x : Int32} (hi : zk_ins M pc = some (.ifCond .ge off, nx, tg)) (kt : 0 ≤ x → zk_W X d M (tg, lv, st, h) Q) (kf : ¬ 0 ≤ x → zk_W X d M (nx, lv, st, h) Q) : zk_W X d M (pc, lv, .int x :: st, h) Q := by
  by_cases hc : 0 ≤ x
  · exact zi_ifgeT hi hc (kt hc)
  · exact zi_ifgeF hi hc (kf hc)
theorem zi_ifgtT {off : Int} {x : Int32} (hi : zk_ins M pc = some (.ifCond .gt off, nx, tg)) (hc : 0 < x) (kk : zk_W X d M (tg, lv, st, h) Q) : zk_W X d M (pc, lv, .int x :: st, h) Q := zk_ifT hi (by simp only [zk_if]; exact decide_eq_true hc) kk
theorem zi_ifgtF {off : Int} {x : Int32} (hi : zk_ins M pc = some (.ifCond .gt off, nx, tg)) (hc : ¬ 0 < x) (kk : zk_W X d M (nx, lv, st, h) Q) : zk_W X d M (pc, lv, .int x :: st, h) Q := zk_ifF hi (by simp only [zk_if]; exact decide_eq_false hc) kk
theorem zi_ifgt {off : Int} {x : Int32} (hi : zk_ins M pc = some (.ifCond .gt off, nx, tg)) (kt : 0 < x → zk_W X d M (tg, lv, st, h) Q) (kf : ¬ 0 < x → zk_W X d M (nx, lv, st, h) Q) : zk_W X d M (pc, lv, .int x :: st, h) Q := by
  by_cases hc : 0 < x
  · exact zi_ifgtT hi hc (kt hc)
  · exact zi_ifgtF hi hc (kf hc)
theorem zi_ifleT {off : Int} {x : Int32} (hi : zk_ins M pc = some (.ifCond .le off, nx, tg)) (hc : x ≤ 0) (kk : zk_W X d M (tg, lv, st, h) Q) : zk_W X d M (pc, lv, .int x :: st, h) Q := zk_ifT hi (by simp only [zk_if]; exact decide_eq_true hc) kk
theorem zi_ifleF {off : Int} {x : Int32} (hi : zk_ins M pc = some (.ifCond .le off, nx, tg)) (hc : ¬ x ≤ 0) (kk : zk_W X d M (nx, lv, st, h) Q) : zk_W X d M (pc, lv, .int x :: st, h) Q := zk_ifF hi (by simp only [zk_if]; exact decide_eq_false hc) kk
theorem zi_ifle {off : Int} {x : Int32} (hi : zk_ins M pc = some (.ifCond .le off, nx, tg)) (kt : x ≤ 0 → zk_W X d M (tg, lv, st, h) Q) (kf : ¬ x ≤ 0 → zk_W X d M (nx, lv, st, h) Q) : zk_W X d M (pc, lv, .int x :: st, h) Q := by
  by_cases hc : x ≤ 0
  · exact zi_ifleT hi hc (kt hc)
  · exact zi_ifleF hi hc (kf hc)
theorem zi_iceqT {off : Int} {x y : Int32} (hi : zk_ins M pc = some (.if_icmp .eq off, nx, tg)) (hc : x = y) (kk : zk_W X d M (tg, lv, st, h) Q) : zk_W X d M (pc, lv, .int y :: .int x :: st, h) Q := zk_icT hi (by simp only [zk_icmp]; exact decide_eq_true hc) kk
theorem zi_iceqF {off : Int} {x y : Int32} (hi : zk_ins M pc = some (.if_icmp .eq off, nx, tg)) (hc : ¬ x = y) (kk : zk_W X d M (nx, lv, st, h) Q) : zk_W X d M (pc, lv, .int y :: .int x :: st, h) Q := zk_icF hi (by simp only [zk_icmp]; exact decide_eq_false hc) kk
theorem zi_iceq {off : Int} {x y : Int32} (hi : zk_ins M pc = some (.if_icmp .eq off, nx, tg)) (kt : x = y → zk_W X d M (tg, lv, st, h) Q) (kf : ¬ x = y → zk_W X d M (nx, lv, st, h) Q) : zk_W X d M (pc, lv, .int y :: .int x :: st, h) Q := by
  by_cases hc : x = y
  · exact zi_iceqT hi hc (kt hc)
  · exact zi_iceqF hi hc (kf hc)
theorem zi_icneT {off : Int} {x y : Int32} (hi : zk_ins M pc = some (.if_icmp .ne off, nx, tg)) (hc : ¬ x = y) (kk : zk_W X d M (tg, lv, st, h) Q) : zk_W X d M (pc, lv, .int y :: .int x :: st, h) Q := zk_icT hi (by simp only [zk_icmp]; exact decide_eq_true hc) kk
theorem zi_icneF {off : Int} {x y : Int32} (hi : zk_ins M pc = some (.if_icmp .ne off, nx, tg)) (hc : x = y) (kk : zk_W X d M (nx, lv, st, h) Q) : zk_W X d M (pc, lv, .int y :: .int x :: st, h) Q := zk_icF hi (by simp only [zk_icmp]; exact decide_eq_false (fun q => q hc)) kk
theorem zi_icne {off : Int} {x y : Int32} (hi : zk_ins M pc = some (.if_icmp .ne off, nx, tg)) (kt : ¬ x = y → zk_W X d M (tg, lv, st, h) Q) (kf : x = y → zk_W X d M (nx, lv, st, h) Q) : zk_W X d M (pc, lv, .int y :: .int x :: st, h) Q := by
  by_cases hc : x = y
  · exact zi_icneF hi hc (kf hc)
  · exact zi_icneT hi hc (kt hc)
theorem zi_icltT {off : Int} {x y : Int32} (hi : zk_ins M pc = some (.if_icmp .lt off, nx, tg)) (hc : x < y) (kk : zk_W X d M (tg, lv, st, h) Q) : zk_W X d M (pc, lv, .int y :: .int x :: st, h) Q := zk_icT hi (by simp only [zk_icmp]; exact decide_eq_true hc) kk
theorem zi_icltF {off : Int} {x y : Int32} (hi : zk_ins M pc = some (.if_icmp .lt off, nx, tg)) (hc : ¬ x < y) (kk : zk_W X d M (nx, lv, st, h) Q) : zk_W X d M (pc, lv, .int y :: .int x :: st, h) Q := zk_icF hi (by simp only [zk_icmp]; exact decide_eq_false hc) kk
theorem zi_iclt {off : Int} {x y : Int32} (hi : zk_ins M pc = some (.if_icmp .lt off, nx, tg)) (kt : x < y → zk_W X d M (tg, lv, st, h) Q) (kf : ¬ x < y → zk_W X d M (nx, lv, st, h) Q) : zk_W X d M (pc, lv, .int y :: .int x :: st, h) Q := by
  by_cases hc : x < y
  · exact zi_icltT hi hc (kt hc)
  · exact zi_icltF hi hc (kf hc)
theorem zi_icgeT {off : Int} {x y : Int32} (hi : zk_ins M pc = some (.if_icmp .ge off, nx, tg)) (hc : y ≤ x) (kk : zk_W X d M (tg, lv, st, h) Q) : zk_W X d M (pc, lv, .int y :: .int x :: st, h) Q := zk_icT hi (by simp only [zk_icmp]; exact decide_eq_true hc) kk
theorem zi_icgeF {off : Int} {x y : Int32} (hi : zk_ins M pc = some (.if_icmp .ge off, nx, tg)) (hc : ¬ y ≤ x) (kk : zk_W X d M (nx, lv, st, h) Q) : zk_W X d M (pc, lv, .int y :: .int x :: st, h) Q := zk_icF hi (by simp only [zk_icmp]; exact decide_eq_false hc) kk
theorem zi_icge {off : Int} {x y : Int32} (hi : zk_ins M pc = some (.if_icmp .ge off, nx, tg)) (kt : y ≤ x → zk_W X d M (tg, lv, st, h) Q) (kf : ¬ y ≤ x → zk_W X d M (nx, lv, st, h) Q) : zk_W X d M (pc, lv, .int y :: .int x :: st, h) Q := by
  by_cases hc : y ≤ x
  · exact zi_icgeT hi hc (kt hc)
  · exact zi_icgeF hi hc (kf hc)
theorem zi_icgtT {off : Int} {x y : Int32} (hi : zk_ins M pc = some (.if_icmp .gt off, nx, tg)) (hc : y < x) (kk : zk_W X d M (tg, lv, st, h) Q) : zk_W X d M (pc, lv, .int y :: .int x :: st, h) Q := zk_icT hi (by simp only [zk_icmp]; exact decide_eq_true hc) kk
theorem zi_icgtF {off : Int} {x y : Int32} (hi : zk_ins M pc = some (.if_icmp .gt off, nx, tg)) (hc : ¬ y < x) (kk : zk_W X d M (nx, lv, st, h) Q) : zk_W X d M (pc, lv, .int y :: .int x :: st, h) Q := zk_icF hi (by simp only [zk_icmp]; exact decide_eq_false hc) kk
theorem zi_icgt {off : Int} {x y : Int32} (hi : zk_ins M pc = some (.if_icmp .gt off, nx, tg)) (kt : y < x → zk_W X d M (tg, lv, st, h) Q) (kf : ¬ y < x → zk_W X d M (nx, lv, st, h) Q) : zk_W X d M (pc, lv, .int y :: .int x :: st, h) Q := by
  by_cases hc : y < x
  · exact zi_icgtT hi hc (kt hc)
  · exact zi_icgtF hi hc (kf hc)
theorem zi_icleT {off : Int} {x y : Int32} (hi : zk_ins M pc = some (.if_icmp .le off, nx, tg)) (hc : x ≤ y) (kk : zk_W X d M (tg, lv, st, h) Q) : zk_W X d M (pc, lv, .int y :: .int x :: st, h) Q := zk_icT hi (by simp only [zk_icmp]; exact decide_eq_true hc) kk
theorem zi_icleF {off : Int} {x y : Int32} (hi : zk_ins M pc = some (.if_icmp .le off, nx, tg)) (hc : ¬ x ≤ y) (kk : zk_W X d M (nx, lv, st, h) Q) : zk_W X d M (pc, lv, .int y :: .int x :: st, h) Q := zk_icF hi (by simp only [zk_icmp]; exact decide_eq_false hc) kk
theorem zi_icle {off : Int} {x y : Int32} (hi : zk_ins M pc = some (.if_icmp .le off, nx, tg)) (kt : x ≤ y → zk_W X d M (tg, lv, st, h) Q) (kf : ¬ x ≤ y → zk_W X d M (nx, lv, st, h) Q) : zk_W X d M (pc, lv, .int y :: .int x :: st, h) Q := by
  by_cases hc : x ≤ y
  · exact zi_icleT hi hc (kt hc)
  · exact zi_icleF hi hc (kf hc)
theorem zi_getfield {k a ci j : Nat} {fs : List Value} {v : Value} (hi : zk_ins M pc = some (.getfield k, nx, tg)) (hf : zk_fl M k = some (ci, j)) (hc : zk_cell h a = some (.inr (ci, fs))) (hv : fs[j]? = some v) (kk : zk_W X d M (nx, lv, v :: st, h) Q) : zk_W X d M (pc, lv, .ref a :: st, h) Q :=
  zk_w_loc hi rfl (by simp only [zk_loc, zk_loc1, zk_loc2, zk_loc3, zk_loc4, hf, hc, hv, Nat.beq_refl, cond_true]) kk
theorem zi_putfield {k a ci j : Nat} {fs fs2 : List Value} {v : Value} {h2 : zkH} (hi : zk_ins M pc = some (.putfield k, nx, tg)) (hf : zk_fl M k = some (ci, j)) (hc : zk_cell h a = some (.inr (ci, fs))) (hok : (zk_fit (zk_fty ci j) v && Nat.blt j fs.length && zk_fin M ci j) = true) (hs : fs.set j v = fs2) (hh : zk_set h a (.inr (ci, fs2)) = h2) (kk : zk_W X d M (nx, lv, st, h2) Q) : zk_W X d M (pc, lv, v :: .ref a :: st, h) Q :=
  zk_w_loc hi rfl (by
    have hok2 : (Nat.beq ci ci && zk_fit (zk_fty ci j) v && Nat.blt j fs.length && zk_fin M ci j) = true := by
      rw [Nat.beq_refl, Bool.true_and]; exact hok
    simp only [zk_loc, zk_loc1, zk_loc2, zk_loc3, zk_loc4, hf, hc, hok2, hs, hh, cond_true]) kk
theorem zk_ald_i {n : Nat} {f : Nat → Int32} {i : Int32} (hin : vp_in i n) : zk_aldi (.inl (.int, n, .inl f)) i = some (.int (f i.toNatClampNeg)) := by
  unfold vp_in at hin
  simp only [zk_aldi]
  rw [if_pos ⟨Int32.not_lt.mp fun q => hin (Or.inl q), Nat.not_le.mp fun q => hin (Or.inr q)⟩]
theorem zk_ast_i {n : Nat} {f : Nat → Int32} {i : Int32} {x : Int32} (hin : vp_in i n) : zk_asti (.inl (.int, n, .inl f)) i x = some (.inl (.int, n, .inl (upd f i.toNatClampNeg x))) := by
  unfold vp_in at hin
  simp only [zk_asti]
  rw [if_pos ⟨Int32.not_lt.mp fun q => hin (Or.inl q), Nat.not_le.mp fun q => hin (Or.inr q)⟩]
theorem zk_ald_z {n : Nat} {f : Nat → Int32} {i : Int32} (hin : vp_in i n) : zk_aldz (.inl (.boolean, n, .inl f)) i = some (.int (f i.toNatClampNeg)) := by
  unfold vp_in at hin
  simp only [zk_aldz]
  rw [if_pos ⟨Int32.not_lt.mp fun q => hin (Or.inl q), Nat.not_le.mp fun q => hin (Or.inr q)⟩]
theorem zk_ast_z {n : Nat} {f : Nat → Int32} {i : Int32} {x : Int32} (hin : vp_in i n) : zk_astz (.inl (.boolean, n, .inl f)) i x = some (.inl (.boolean, n, .inl (upd f i.toNatClampNeg (vp_nar .boolean x)))) := by
  unfold vp_in at hin
  simp only [zk_astz]
  rw [if_pos ⟨Int32.not_lt.mp fun q => hin (Or.inl q), Nat.not_le.mp fun q => hin (Or.inr q)⟩]
theorem zk_ald_l {n : Nat} {f : Nat → Int64} {i : Int32} (hin : vp_in i n) : zk_aldl (.inl (.long, n, .inr (.inl f))) i = some (.long (f i.toNatClampNeg)) := by
  unfold vp_in at hin
  simp only [zk_aldl]
  rw [if_pos ⟨Int32.not_lt.mp fun q => hin (Or.inl q), Nat.not_le.mp fun q => hin (Or.inr q)⟩]
theorem zk_ast_l {n : Nat} {f : Nat → Int64} {i : Int32} {x : Int64} (hin : vp_in i n) : zk_astl (.inl (.long, n, .inr (.inl f))) i x = some (.inl (.long, n, .inr (.inl (vp_updL f i.toNatClampNeg x)))) := by
  unfold vp_in at hin
  simp only [zk_astl]
  rw [if_pos ⟨Int32.not_lt.mp fun q => hin (Or.inl q), Nat.not_le.mp fun q => hin (Or.inr q)⟩]
theorem zk_arr_cell {a : Nat} {e : zkE} (ha : zk_cell h a = some e) (h0 : h.2[0]? = some none) : zk_arr X h a = some e := by
  cases a with
  | zero => simp [zk_cell, h0] at ha
  | succ a => exact ha
theorem zi_iaload {a n : Nat} {f : Nat → Int32} {i : Int32} (hi : zk_ins M pc = some (.iaload, nx, tg)) (hc : zk_arr X h a = some (.inl (.int, n, .inl f))) (hin : vp_in i n) (kk : zk_W X d M (nx, lv, .int (f i.toNatClampNeg) :: st, h) Q) : zk_W X d M (pc, lv, .int i :: .ref a :: st, h) Q :=
  zk_w_loc hi rfl (by simp only [zk_loc, zk_loc1, zk_loc2, zk_loc3, zk_loc4, hc, zk_ald_i hin]) kk
theorem zi_laload {a n : Nat} {f : Nat → Int64} {i : Int32} (hi : zk_ins M pc = some (.laload, nx, tg)) (hc : zk_cell h a = some (.inl (.long, n, .inr (.inl f)))) (hin : vp_in i n) (kk : zk_W X d M (nx, lv, .long (f i.toNatClampNeg) :: st, h) Q) : zk_W X d M (pc, lv, .int i :: .ref a :: st, h) Q :=
  zk_w_loc hi rfl (by simp only [zk_loc, zk_loc1, zk_loc2, zk_loc3, zk_loc4, hc, zk_ald_l hin]) kk
theorem zi_baload {a n : Nat} {f : Nat → Int32} {i : Int32} (hi : zk_ins M pc = some (.baload, nx, tg)) (hc : zk_cell h a = some (.inl (.boolean, n, .inl f))) (hin : vp_in i n) (kk : zk_W X d M (nx, lv, .int (f i.toNatClampNeg) :: st, h) Q) : zk_W X d M (pc, lv, .int i :: .ref a :: st, h) Q :=
  zk_w_loc hi rfl (by simp only [zk_loc, zk_loc1, zk_loc2, zk_loc3, zk_loc4, hc, zk_ald_z hin]) kk
theorem zi_iastore {a n : Nat} {f : Nat → Int32} {i x : Int32} {h2 : zkH} (hi : zk_ins M pc = some (.iastore, nx, tg)) (hc : zk_cell h a = some (.inl (.int, n, .inl f))) (hin : vp_in i n) (hh : zk_set h a (.inl (.int, n, .inl (upd f i.toNatClampNeg x))) = h2) (kk : zk_W X d M (nx, lv, st, h2) Q) : zk_W X d M (pc, lv, .int x :: .int i :: .ref a :: st, h) Q :=
  zk_w_loc hi rfl (by simp only [zk_loc, zk_loc1, zk_loc2, zk_loc3, zk_loc4, hc, zk_ast_i hin, hh]) kk
theorem zi_lastore {a n : Nat} {f : Nat → Int64} {i : Int32} {x : Int64} {h2 : zkH} (hi : zk_ins M pc = some (.lastore, nx, tg)) (hc : zk_cell h a = some (.inl (.long, n, .inr (.inl f)))) (hin : vp_in i n) (hh : zk_set h a (.inl (.long, n, .inr (.inl (vp_updL f i.toNatClampNeg x)))) = h2) (kk : zk_W X d M (nx, lv, st, h2) Q) : zk_W X d M (pc, lv, .long x :: .int i :: .ref a :: st, h) Q :=
  zk_w_loc hi rfl (by simp only [zk_loc, zk_loc1, zk_loc2, zk_loc3, zk_loc4, hc, zk_ast_l hin, hh]) kk
theorem zi_bastore {a n : Nat} {f : Nat → Int32} {i x y : Int32} {h2 : zkH} (hi : zk_ins M pc = some (.bastore, nx, tg)) (hc : zk_cell h a = some (.inl (.boolean, n, .inl f))) (hin : vp_in i n) (hy : vp_nar .boolean x = y) (hh : zk_set h a (.inl (.boolean, n, .inl (upd f i.toNatClampNeg y))) = h2) (kk : zk_W X d M (nx, lv, st, h2) Q) : zk_W X d M (pc, lv, .int x :: .int i :: .ref a :: st, h) Q :=
  zk_w_loc hi rfl (by simp only [zk_loc, zk_loc1, zk_loc2, zk_loc3, zk_loc4, hc, zk_ast_z hin, hy, hh]) kk
theorem zi_alen_i {a n : Nat} {f : Nat → Int32} {v : Int32} (hi : zk_ins M pc = some (.arraylength, nx, tg)) (hc : zk_arr X h a = some (.inl (.int, n, .inl f))) (hv : Int32.ofNat n = v) (kk : zk_W X d M (nx, lv, .int v :: st, h) Q) : zk_W X d M (pc, lv, .ref a :: st, h) Q :=
  zk_w_loc hi rfl (by simp only [zk_loc, zk_loc1, zk_loc2, zk_loc3, zk_loc4, hc, zk_alen, hv]) kk
theorem zi_alen_l {a n : Nat} {f : Nat → Int64} {v : Int32} (hi : zk_ins M pc = some (.arraylength, nx, tg)) (hc : zk_arr X h a = some (.inl (.long, n, .inr (.inl f)))) (hv : Int32.ofNat n = v) (kk : zk_W X d M (nx, lv, .int v :: st, h) Q) : zk_W X d M (pc, lv, .ref a :: st, h) Q :=
  zk_w_loc hi rfl (by simp only [zk_loc, zk_loc1, zk_loc2, zk_loc3, zk_loc4, hc, zk_alen, hv]) kk
theorem zi_newarray {t : ArrayType} {x : Int32} {n : Nat} {e : zkE} (hi : zk_ins M pc = some (.newarray t, nx, tg)) (hx : x = nI n) (hn : n ≤ 1000000) (hb : zk_blank t n = some e) (kk : zk_W X d M (nx, lv, .ref (zk_len h) :: st, zk_push h n (some e)) Q) : zk_W X d M (pc, lv, .int x :: st, h) Q := by
  subst hx
  have h1 : (nI n).toNatClampNeg = n := nI_clamp (by omega)
  refine zk_w_loc hi rfl (s2 := (nx, lv, .ref (zk_len h) :: st, zk_push h n (some e))) ?_ kk
  simp only [zk_loc, zk_loc1, zk_loc2, zk_loc3, zk_loc4, h1, hb]
  rw [if_pos ⟨nI_pos' (by omega), hn⟩]
theorem zi_new {k ci : Nat} {fs : List Value} (hi : zk_ins M pc = some (.new k, nx, tg)) (hx : zk_xc M k = none) (hc : zk_cl M k = some ci) (hf : zk_df ci = fs) (kk : zk_W X d M (nx, lv, .ref (zk_len h) :: st, zk_push h fs.length (some (.inr (ci, fs)))) Q) : zk_W X d M (pc, lv, st, h) Q := by
  subst hf
  exact zk_w_loc hi (by simp only [zk_bud, hx]) (by simp only [zk_loc, zk_loc1, zk_loc2, zk_loc3, zk_loc4, hc]) kk
theorem zi_objinit {k a q1 q3 q4 : Nat} (hi : zk_ins M pc = some (.invokespecial k, nx, tg)) (hm : zk_mt M k = some (q1, 3, q3, q4)) (hd : Nat.ble 1 d = true) (hs : Nat.ble ((st.map Value.category).sum) 8 = true) (kk : zk_W X d M (nx, lv, st, h) Q) : zk_W X d M (pc, lv, .ref a :: st, h) Q :=
  zk_w_loc hi (by simp only [zk_bud, hm, hd]) (by simp only [zk_loc, zk_loc1, zk_loc2, zk_loc3, zk_loc4, zk_loc5, hm, hs, cond_true]) kk
theorem zi_arraycopy {k a2 dd q1 q3 q4 n0 n1 : Nat} {f g : Nat → Int64} {n dp sp : Int32} {h2 : zkH} (hi : zk_ins M pc = some (.invokestatic k, nx, tg)) (hm : zk_mt M k = some (q1, 4, q3, q4)) (hd : Nat.ble 1 d = true) (hc0 : zk_cell h a2 = some (.inl (.long, n0, .inr (.inl f)))) (hc1 : zk_cell h dd = some (.inl (.long, n1, .inr (.inl g))))
    (hok : (0 ≤ sp ∧ 0 ≤ dp ∧ 0 ≤ n) ∧ sp.toNatClampNeg + n.toNatClampNeg ≤ n0 ∧ dp.toNatClampNeg + n.toNatClampNeg ≤ n1 ∧ (st.map Value.category).sum ≤ 8) (hh : zk_set h dd (.inl (.long, n1, .inr (.inl (va_cpy f g sp.toNatClampNeg dp.toNatClampNeg n.toNatClampNeg)))) = h2) (kk : zk_W X d M (nx, lv, st, h2) Q) : zk_W X d M (pc, lv, .int n :: .int dp :: .ref dd :: .int sp :: .ref a2 :: st, h) Q :=
  zk_w_loc hi (by simp only [zk_bud, hm, hd]) (by simp only [zk_loc, zk_loc1, zk_loc2, zk_loc3, zk_loc4, zk_loc5, hm, hc0, hc1, if_pos hok, hh]) kk
theorem zi_ireturn {x : Int32} (hi : zk_ins M pc = some (.ireturn, nx, tg)) (hr : zk_rt M = some .int) (kk : Q (.inl (some (.int x)), h)) : zk_W X d M (pc, lv, [.int x], h) Q :=
  zk_w_end hi rfl (by simp only [zk_loc, zk_loc1, zk_loc2, zk_loc3, zk_loc4, zk_loc5]) (by simp only [zk_end, hr]) kk
theorem zi_zreturn {x : Int32} (hi : zk_ins M pc = some (.ireturn, nx, tg)) (hr : zk_rt M = some .boolean) (hx : vp_nar .boolean x = x) (kk : Q (.inl (some (.int x)), h)) : zk_W X d M (pc, lv, [.int x], h) Q :=
  zk_w_end hi rfl (by simp only [zk_loc, zk_loc1, zk_loc2, zk_loc3, zk_loc4, zk_loc5]) (by simp only [zk_end, hr, if_pos hx]) kk
theorem zi_lreturn {x : Int64} (hi : zk_ins M pc = some (.lreturn, nx, tg)) (hr : zk_rt M = some .long) (kk : Q (.inl (some (.long x)), h)) : zk_W X d M (pc, lv, [.long x], h) Q :=
  zk_w_end hi rfl (by simp only [zk_loc, zk_loc1, zk_loc2, zk_loc3, zk_loc4, zk_loc5]) (by simp only [zk_end, hr]) kk
theorem zi_areturn {x : Nat} {t : FieldType} (hi : zk_ins M pc = some (.areturn, nx, tg)) (hr : zk_rt M = some (.array t)) (kk : Q (.inl (some (.ref x)), h)) : zk_W X d M (pc, lv, [.ref x], h) Q :=
  zk_w_end hi rfl (by simp only [zk_loc, zk_loc1, zk_loc2, zk_loc3, zk_loc4, zk_loc5]) (by simp only [zk_end, hr]) kk
theorem zi_return (hi : zk_ins M pc = some (.return_, nx, tg)) (hr : zk_rt M = none) (kk : Q (.inl none, h)) : zk_W X d M (pc, lv, [], h) Q :=
  zk_w_end hi rfl (by simp only [zk_loc, zk_loc1, zk_loc2, zk_loc3, zk_loc4, zk_loc5]) (by simp only [zk_end, hr]) kk
/-- throw new: the frame has changed nothing -/
theorem zi_throw {k x : Nat} (hi : zk_ins M pc = some (.new k, nx, tg)) (hd : Nat.ble 6 d = true) (hc : zk_cl M k = none) (hx : zk_xc M k = some x) (ht : zk_thr M (.new k) nx (pc, lv, st, h) = some (.inr x, zk_push h 6 none)) (kk : Q (.inr x, zk_push h 6 none)) : zk_W X d M (pc, lv, st, h) Q :=
  zk_w_thr hi (by simp only [zk_bud, hx, hd]) (by simp only [zk_loc, zk_loc1, zk_loc2, zk_loc3, zk_loc4, zk_loc5, hc]) (by simp only [zk_end]) ht kk
/-- calls -/
theorem zi_callV {k M2 n ci b : Nat} {as rest : List Value} {fs : List Value} (hi : zk_ins M pc = some (.invokevirtual k, nx, tg)) (hm : zk_mt M k = some (M2, 0, n, ci)) (hp : zk_pop n [] st = some (as, .ref b :: rest)) (hc : zk_cell h b = some (.inr (ci, fs))) (hs : Nat.ble ((rest.map Value.category).sum) 8 = true) (kk : zk_C X d M2 (.ref b :: as) h (zk_K X d M pc nx lv rest Q)) : zk_W X d M (pc, lv, st, h) Q :=
  zk_w_call hi rfl (by simp only [zk_loc, zk_loc1, zk_loc2, zk_loc3, zk_loc4, zk_loc5]) (by simp only [zk_end]) (by simp only [zk_thr]) (by simp only [zk_inv, hm, hp, hc, hs, Nat.beq_refl, Bool.and_true, cond_true]) kk
theorem zi_callS {k M2 n ci : Nat} {as rest : List Value} (hi : zk_ins M pc = some (.invokestatic k, nx, tg)) (hm : zk_mt M k = some (M2, 1, n, ci)) (hp : zk_pop n [] st = some (as, rest)) (hs : Nat.ble ((rest.map Value.category).sum) 8 = true) (kk : zk_C X d M2 as h (zk_K X d M pc nx lv rest Q)) : zk_W X d M (pc, lv, st, h) Q :=
  zk_w_call hi (by simp only [zk_bud, hm]) (by simp only [zk_loc, zk_loc1, zk_loc2, zk_loc3, zk_loc4, zk_loc5, hm]) (by simp only [zk_end]) (by simp only [zk_thr]) (by simp only [zk_inv, hm, hp, hs, cond_true]) kk
theorem zi_callI {k M2 n ci b : Nat} {as rest : List Value} (hi : zk_ins M pc = some (.invokespecial k, nx, tg)) (hm : zk_mt M k = some (M2, 2, n, ci)) (hp : zk_pop n [] st = some (as, .ref b :: rest)) (hs : Nat.ble ((rest.map Value.category).sum) 8 = true) (kk : zk_C X d M2 (.ref b :: as) h (zk_K X d M pc nx lv rest Q)) : zk_W X d M (pc, lv, st, h) Q :=
  zk_w_call hi (by simp only [zk_bud, hm]) (by simp only [zk_loc, zk_loc1, zk_loc2, zk_loc3, zk_loc4, zk_loc5, hm]) (by simp only [zk_end]) (by simp only [zk_thr]) (by simp only [zk_inv, hm, hp, hs, cond_true]) kk
/-- behind a call: it came back -/
theorem zk_K.ok {rest : List Value} {v : Option Value} {h2 : zkH} {o : zkO} (ho : o = (.inl v, h2)) (kk : zk_W X d M (nx, lv, v.toList ++ rest, h2) Q) : zk_K X d M pc nx lv rest Q o := by
  subst ho
  exact kk
theorem zk_K.okv {rest : List Value} {v : Value} {h2 : zkH} {o : zkO} (ho : o = (.inl (some v), h2)) (kk : zk_W X d M (nx, lv, v :: rest, h2) Q) : zk_K X d M pc nx lv rest Q o := by
  subst ho
  exact kk
theorem zk_K.okn {rest : List Value} {h2 : zkH} {o : zkO} (ho : o = (.inl none, h2)) (kk : zk_W X d M (nx, lv, rest, h2) Q) : zk_K X d M pc nx lv rest Q o := by
  subst ho
  exact kk
/-- it threw, and nobody here catches -/
theorem zk_K.thr {rest : List Value} {x : Nat} {h2 : zkH} {o : zkO} (ho : o = (.inr x, h2)) (hh : zk_hd M = []) (kk : Q (.inr x, h2)) : zk_K X d M pc nx lv rest Q o := by
  subst ho
  simp only [zk_K, hh, zk_catch]
  exact kk
/-- it threw, and a handler is here -/
theorem zk_K.cat {rest : List Value} {x hp n2 : Nat} {h2 : zkH} {o : zkO} (ho : o = (.inr x, h2)) (hc : zk_catch M pc x (zk_hd M) = some (some hp)) (hh : zk_hnd M hp lv = some (n2, lv2)) (kk : zk_W X d M (n2, lv2, [], h2) Q) : zk_K X d M pc nx lv rest Q o := by
  subst ho
  simp only [zk_K, hc, hh]
  exact kk
end ZR

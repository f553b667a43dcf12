/-! the constructors: the model; the start of the law -/
def zRf0 : List Value := [.int 0, .null, .int 0, .null, .null, .null, .int 0, .int 0, .null, .null, .null, .null, .null, .null, .null, .null, .int 0, .long 0, .int 0, .long 0]
def zRh0 (t : zSt) : zkH := (581, [none, some (.inr (3, [.ref 2, .ref 3, .ref 6, .int 0, .long 0, .int 0, .long 0])), some (.inr (2, [.ref 3])), some (.inr (1, zfM t 5)), some (zcA .int 27 (gA t 0)), some (zcB (gN t) (gB t 0)), some (.inr (0, zdf0)), some (.inr (4, zRf0))])
def zRf1 : List Value := [.int 0, .ref 8, .int 0, .null, .null, .null, .int 0, .int 0, .null, .null, .null, .null, .null, .null, .null, .null, .int 0, .long 0, .int 0, .long 0]
def zRh1 (t : zSt) : zkH := (581 + 24, [none, some (.inr (3, [.ref 2, .ref 3, .ref 6, .int 0, .long 0, .int 0, .long 0])), some (.inr (2, [.ref 3])), some (.inr (1, zfM t 5)), some (zcA .int 27 (gA t 0)), some (zcB (gN t) (gB t 0)), some (.inr (0, zdf0)), some (.inr (4, zRf1)), some (zcA .int 24 (fun _ => 0))])
def zRf2 : List Value := [.int 0, .ref 8, .int 1, .null, .null, .null, .int 0, .int 0, .null, .null, .null, .null, .null, .null, .null, .null, .int 0, .long 0, .int 0, .long 0]
def zRh2 (t : zSt) : zkH := (581 + 24, [none, some (.inr (3, [.ref 2, .ref 3, .ref 6, .int 0, .long 0, .int 0, .long 0])), some (.inr (2, [.ref 3])), some (.inr (1, zfM t 5)), some (zcA .int 27 (gA t 0)), some (zcB (gN t) (gB t 0)), some (.inr (0, zdf0)), some (.inr (4, zRf2)), some (zcA .int 24 (fun _ => 0))])
def zRf3 : List Value := [.int 0, .ref 8, .int 1, .ref 9, .null, .null, .int 0, .int 0, .null, .null, .null, .null, .null, .null, .null, .null, .int 0, .long 0, .int 0, .long 0]
def zRh3 (t : zSt) : zkH := (581 + 24 + 4200, [none, some (.inr (3, [.ref 2, .ref 3, .ref 6, .int 0, .long 0, .int 0, .long 0])), some (.inr (2, [.ref 3])), some (.inr (1, zfM t 5)), some (zcA .int 27 (gA t 0)), some (zcB (gN t) (gB t 0)), some (.inr (0, zdf0)), some (.inr (4, zRf3)), some (zcA .int 24 (fun _ => 0)), some (zcA .int 4200 (fun _ => 0))])
def zRf4 : List Value := [.int 0, .ref 8, .int 1, .ref 9, .ref 10, .null, .int 0, .int 0, .null, .null, .null, .null, .null, .null, .null, .null, .int 0, .long 0, .int 0, .long 0]
def zRh4 (t : zSt) : zkH := (581 + 24 + 4200 + 4200, [none, some (.inr (3, [.ref 2, .ref 3, .ref 6, .int 0, .long 0, .int 0, .long 0])), some (.inr (2, [.ref 3])), some (.inr (1, zfM t 5)), some (zcA .int 27 (gA t 0)), some (zcB (gN t) (gB t 0)), some (.inr (0, zdf0)), some (.inr (4, zRf4)), some (zcA .int 24 (fun _ => 0)), some (zcA .int 4200 (fun _ => 0)), some (zcA .boolean 4200 (fun _ => 0))])
def zRf5 : List Value := [.int 0, .ref 8, .int 1, .ref 9, .ref 10, .ref 11, .int 0, .int 0, .null, .null, .null, .null, .null, .null, .null, .null, .int 0, .long 0, .int 0, .long 0]
def zRh5 (t : zSt) : zkH := (581 + 24 + 4200 + 4200 + 4200, [none, some (.inr (3, [.ref 2, .ref 3, .ref 6, .int 0, .long 0, .int 0, .long 0])), some (.inr (2, [.ref 3])), some (.inr (1, zfM t 5)), some (zcA .int 27 (gA t 0)), some (zcB (gN t) (gB t 0)), some (.inr (0, zdf0)), some (.inr (4, zRf5)), some (zcA .int 24 (fun _ => 0)), some (zcA .int 4200 (fun _ => 0)), some (zcA .boolean 4200 (fun _ => 0)), some (zcA .boolean 4200 (fun _ => 0))])
def zRf6 : List Value := [.int 0, .ref 8, .int 1, .ref 9, .ref 10, .ref 11, .int 0, .int 0, .ref 12, .null, .null, .null, .null, .null, .null, .null, .int 0, .long 0, .int 0, .long 0]
def zRh6 (t : zSt) : zkH := (581 + 24 + 4200 + 4200 + 4200 + 8400, [none, some (.inr (3, [.ref 2, .ref 3, .ref 6, .int 0, .long 0, .int 0, .long 0])), some (.inr (2, [.ref 3])), some (.inr (1, zfM t 5)), some (zcA .int 27 (gA t 0)), some (zcB (gN t) (gB t 0)), some (.inr (0, zdf0)), some (.inr (4, zRf6)), some (zcA .int 24 (fun _ => 0)), some (zcA .int 4200 (fun _ => 0)), some (zcA .boolean 4200 (fun _ => 0)), some (zcA .boolean 4200 (fun _ => 0)), some (zcA .int 8400 (fun _ => 0))])
def zRf7 : List Value := [.int 0, .ref 8, .int 1, .ref 9, .ref 10, .ref 11, .int 0, .int 0, .ref 12, .ref 13, .null, .null, .null, .null, .null, .null, .int 0, .long 0, .int 0, .long 0]
def zRh7 (t : zSt) : zkH := (581 + 24 + 4200 + 4200 + 4200 + 8400 + 8400, [none, some (.inr (3, [.ref 2, .ref 3, .ref 6, .int 0, .long 0, .int 0, .long 0])), some (.inr (2, [.ref 3])), some (.inr (1, zfM t 5)), some (zcA .int 27 (gA t 0)), some (zcB (gN t) (gB t 0)), some (.inr (0, zdf0)), some (.inr (4, zRf7)), some (zcA .int 24 (fun _ => 0)), some (zcA .int 4200 (fun _ => 0)), some (zcA .boolean 4200 (fun _ => 0)), some (zcA .boolean 4200 (fun _ => 0)), some (zcA .int 8400 (fun _ => 0)), some (zcB 8400 (fun _ => 0))])
def zRf8 : List Value := [.int 0, .ref 8, .int 1, .ref 9, .ref 10, .ref 11, .int 0, .int 0, .ref 12, .ref 13, .ref 14, .null, .null, .null, .null, .null, .int 0, .long 0, .int 0, .long 0]
def zRh8 (t : zSt) : zkH := (581 + 24 + 4200 + 4200 + 4200 + 8400 + 8400 + 8400, [none, some (.inr (3, [.ref 2, .ref 3, .ref 6, .int 0, .long 0, .int 0, .long 0])), some (.inr (2, [.ref 3])), some (.inr (1, zfM t 5)), some (zcA .int 27 (gA t 0)), some (zcB (gN t) (gB t 0)), some (.inr (0, zdf0)), some (.inr (4, zRf8)), some (zcA .int 24 (fun _ => 0)), some (zcA .int 4200 (fun _ => 0)), some (zcA .boolean 4200 (fun _ => 0)), some (zcA .boolean 4200 (fun _ => 0)), some (zcA .int 8400 (fun _ => 0)), some (zcB 8400 (fun _ => 0)), some (zcA .int 8400 (fun _ => 0))])
def zRf9 : List Value := [.int 0, .ref 8, .int 1, .ref 9, .ref 10, .ref 11, .int 0, .int 0, .ref 12, .ref 13, .ref 14, .ref 15, .null, .null, .null, .null, .int 0, .long 0, .int 0, .long 0]
def zRh9 (t : zSt) : zkH := (581 + 24 + 4200 + 4200 + 4200 + 8400 + 8400 + 8400 + 8400, [none, some (.inr (3, [.ref 2, .ref 3, .ref 6, .int 0, .long 0, .int 0, .long 0])), some (.inr (2, [.ref 3])), some (.inr (1, zfM t 5)), some (zcA .int 27 (gA t 0)), some (zcB (gN t) (gB t 0)), some (.inr (0, zdf0)), some (.inr (4, zRf9)), some (zcA .int 24 (fun _ => 0)), some (zcA .int 4200 (fun _ => 0)), some (zcA .boolean 4200 (fun _ => 0)), some (zcA .boolean 4200 (fun _ => 0)), some (zcA .int 8400 (fun _ => 0)), some (zcB 8400 (fun _ => 0)), some (zcA .int 8400 (fun _ => 0)), some (zcA .int 8400 (fun _ => 0))])
def zRf10 : List Value := [.int 0, .ref 8, .int 1, .ref 9, .ref 10, .ref 11, .int 0, .int 0, .ref 12, .ref 13, .ref 14, .ref 15, .ref 16, .null, .null, .null, .int 0, .long 0, .int 0, .long 0]
def zRh10 (t : zSt) : zkH := (581 + 24 + 4200 + 4200 + 4200 + 8400 + 8400 + 8400 + 8400 + 8400, [none, some (.inr (3, [.ref 2, .ref 3, .ref 6, .int 0, .long 0, .int 0, .long 0])), some (.inr (2, [.ref 3])), some (.inr (1, zfM t 5)), some (zcA .int 27 (gA t 0)), some (zcB (gN t) (gB t 0)), some (.inr (0, zdf0)), some (.inr (4, zRf10)), some (zcA .int 24 (fun _ => 0)), some (zcA .int 4200 (fun _ => 0)), some (zcA .boolean 4200 (fun _ => 0)), some (zcA .boolean 4200 (fun _ => 0)), some (zcA .int 8400 (fun _ => 0)), some (zcB 8400 (fun _ => 0)), some (zcA .int 8400 (fun _ => 0)), some (zcA .int 8400 (fun _ => 0)), some (zcA .int 8400 (fun _ => 0))])
def zRf11 : List Value := [.int 0, .ref 8, .int 1, .ref 9, .ref 10, .ref 11, .int 0, .int 0, .ref 12, .ref 13, .ref 14, .ref 15, .ref 16, .ref 17, .null, .null, .int 0, .long 0, .int 0, .long 0]
def zRh11 (t : zSt) : zkH := (581 + 24 + 4200 + 4200 + 4200 + 8400 + 8400 + 8400 + 8400 + 8400 + 8400, [none, some (.inr (3, [.ref 2, .ref 3, .ref 6, .int 0, .long 0, .int 0, .long 0])), some (.inr (2, [.ref 3])), some (.inr (1, zfM t 5)), some (zcA .int 27 (gA t 0)), some (zcB (gN t) (gB t 0)), some (.inr (0, zdf0)), some (.inr (4, zRf11)), some (zcA .int 24 (fun _ => 0)), some (zcA .int 4200 (fun _ => 0)), some (zcA .boolean 4200 (fun _ => 0)), some (zcA .boolean 4200 (fun _ => 0)), some (zcA .int 8400 (fun _ => 0)), some (zcB 8400 (fun _ => 0)), some (zcA .int 8400 (fun _ => 0)), some (zcA .int 8400 (fun _ => 0)), some (zcA .int 8400 (fun _ => 0)), some (zcB 8400 (fun _ => 0))])
def zRf12 : List Value := [.int 0, .ref 8, .int 1, .ref 9, .ref 10, .ref 11, .int 0, .int 0, .ref 12, .ref 13, .ref 14, .ref 15, .ref 16, .ref 17, .ref 18, .null, .int 0, .long 0, .int 0, .long 0]
def zRh12 (t : zSt) : zkH := (581 + 24 + 4200 + 4200 + 4200 + 8400 + 8400 + 8400 + 8400 + 8400 + 8400 + 8400, [none, some (.inr (3, [.ref 2, .ref 3, .ref 6, .int 0, .long 0, .int 0, .long 0])), some (.inr (2, [.ref 3])), some (.inr (1, zfM t 5)), some (zcA .int 27 (gA t 0)), some (zcB (gN t) (gB t 0)), some (.inr (0, zdf0)), some (.inr (4, zRf12)), some (zcA .int 24 (fun _ => 0)), some (zcA .int 4200 (fun _ => 0)), some (zcA .boolean 4200 (fun _ => 0)), some (zcA .boolean 4200 (fun _ => 0)), some (zcA .int 8400 (fun _ => 0)), some (zcB 8400 (fun _ => 0)), some (zcA .int 8400 (fun _ => 0)), some (zcA .int 8400 (fun _ => 0)), some (zcA .int 8400 (fun _ => 0)), some (zcB 8400 (fun _ => 0)), some (zcA .int 8400 (fun _ => 0))])
def zRf13 : List Value := [.int 0, .ref 8, .int 1, .ref 9, .ref 10, .ref 11, .int 0, .int 0, .ref 12, .ref 13, .ref 14, .ref 15, .ref 16, .ref 17, .ref 18, .ref 19, .int 0, .long 0, .int 0, .long 0]
def zRh13 (t : zSt) : zkH := (581 + 24 + 4200 + 4200 + 4200 + 8400 + 8400 + 8400 + 8400 + 8400 + 8400 + 8400 + 8400, [none, some (.inr (3, [.ref 2, .ref 3, .ref 6, .int 0, .long 0, .int 0, .long 0])), some (.inr (2, [.ref 3])), some (.inr (1, zfM t 5)), some (zcA .int 27 (gA t 0)), some (zcB (gN t) (gB t 0)), some (.inr (0, zdf0)), some (.inr (4, zRf13)), some (zcA .int 24 (fun _ => 0)), some (zcA .int 4200 (fun _ => 0)), some (zcA .boolean 4200 (fun _ => 0)), some (zcA .boolean 4200 (fun _ => 0)), some (zcA .int 8400 (fun _ => 0)), some (zcB 8400 (fun _ => 0)), some (zcA .int 8400 (fun _ => 0)), some (zcA .int 8400 (fun _ => 0)), some (zcA .int 8400 (fun _ => 0)), some (zcB 8400 (fun _ => 0)), some (zcA .int 8400 (fun _ => 0)), some (zcA .int 8400 (fun _ => 0))])
theorem z_R0 {X : zkX} {t : zSt} {Q : zkO → Prop} (k : zk_W X 1 m_R_init (12, [(0, .ref 7)], [], zRh1 t) Q) : zk_W X 1 m_R_init (4, [(0, .ref 7)], [], zRh0 t) Q := by
  refine zi_aload_n rfl rfl ?_
  refine zi_bipush (v := (24 : Int32)) rfl rfl ?_
  refine zi_newarray (n := 24) (e := zcA .int 24 (fun _ => 0)) rfl rfl (by decide) rfl ?_
  exact zi_putfield (fs := zRf0) (fs2 := zRf1) (h2 := zRh1 t) rfl rfl rfl rfl rfl rfl k
theorem z_R1 {X : zkX} {t : zSt} {Q : zkO → Prop} (k : zk_W X 1 m_R_init (17, [(0, .ref 7)], [], zRh2 t) Q) : zk_W X 1 m_R_init (12, [(0, .ref 7)], [], zRh1 t) Q := by
  refine zi_aload_n rfl rfl ?_
  refine zi_iconst (v := (1 : Int32)) rfl rfl ?_
  exact zi_putfield (fs := zRf1) (fs2 := zRf2) (h2 := zRh2 t) rfl rfl rfl rfl rfl rfl k
theorem z_R2 {X : zkX} {t : zSt} {Q : zkO → Prop} (k : zk_W X 1 m_R_init (26, [(0, .ref 7)], [], zRh3 t) Q) : zk_W X 1 m_R_init (17, [(0, .ref 7)], [], zRh2 t) Q := by
  refine zi_aload_n rfl rfl ?_
  refine zi_sipush (v := (4200 : Int32)) rfl rfl ?_
  refine zi_newarray (n := 4200) (e := zcA .int 4200 (fun _ => 0)) rfl rfl (by decide) rfl ?_
  exact zi_putfield (fs := zRf2) (fs2 := zRf3) (h2 := zRh3 t) rfl rfl rfl rfl rfl rfl k
theorem z_R3 {X : zkX} {t : zSt} {Q : zkO → Prop} (k : zk_W X 1 m_R_init (35, [(0, .ref 7)], [], zRh4 t) Q) : zk_W X 1 m_R_init (26, [(0, .ref 7)], [], zRh3 t) Q := by
  refine zi_aload_n rfl rfl ?_
  refine zi_sipush (v := (4200 : Int32)) rfl rfl ?_
  refine zi_newarray (n := 4200) (e := zcA .boolean 4200 (fun _ => 0)) rfl rfl (by decide) rfl ?_
  exact zi_putfield (fs := zRf3) (fs2 := zRf4) (h2 := zRh4 t) rfl rfl rfl rfl rfl rfl k
theorem z_R4 {X : zkX} {t : zSt} {Q : zkO → Prop} (k : zk_W X 1 m_R_init (44, [(0, .ref 7)], [], zRh5 t) Q) : zk_W X 1 m_R_init (35, [(0, .ref 7)], [], zRh4 t) Q := by
  refine zi_aload_n rfl rfl ?_
  refine zi_sipush (v := (4200 : Int32)) rfl rfl ?_
  refine zi_newarray (n := 4200) (e := zcA .boolean 4200 (fun _ => 0)) rfl rfl (by decide) rfl ?_
  exact zi_putfield (fs := zRf4) (fs2 := zRf5) (h2 := zRh5 t) rfl rfl rfl rfl rfl rfl k
theorem z_R5 {X : zkX} {t : zSt} {Q : zkO → Prop} (k : zk_W X 1 m_R_init (53, [(0, .ref 7)], [], zRh6 t) Q) : zk_W X 1 m_R_init (44, [(0, .ref 7)], [], zRh5 t) Q := by
  refine zi_aload_n rfl rfl ?_
  refine zi_sipush (v := (8400 : Int32)) rfl rfl ?_
  refine zi_newarray (n := 8400) (e := zcA .int 8400 (fun _ => 0)) rfl rfl (by decide) rfl ?_
  exact zi_putfield (fs := zRf5) (fs2 := zRf6) (h2 := zRh6 t) rfl rfl rfl rfl rfl rfl k
theorem z_R6 {X : zkX} {t : zSt} {Q : zkO → Prop} (k : zk_W X 1 m_R_init (62, [(0, .ref 7)], [], zRh7 t) Q) : zk_W X 1 m_R_init (53, [(0, .ref 7)], [], zRh6 t) Q := by
  refine zi_aload_n rfl rfl ?_
  refine zi_sipush (v := (8400 : Int32)) rfl rfl ?_
  refine zi_newarray (n := 8400) (e := zcB 8400 (fun _ => 0)) rfl rfl (by decide) rfl ?_
  exact zi_putfield (fs := zRf6) (fs2 := zRf7) (h2 := zRh7 t) rfl rfl rfl rfl rfl rfl k
theorem z_R7 {X : zkX} {t : zSt} {Q : zkO → Prop} (k : zk_W X 1 m_R_init (71, [(0, .ref 7)], [], zRh8 t) Q) : zk_W X 1 m_R_init (62, [(0, .ref 7)], [], zRh7 t) Q := by
  refine zi_aload_n rfl rfl ?_
  refine zi_sipush (v := (8400 : Int32)) rfl rfl ?_
  refine zi_newarray (n := 8400) (e := zcA .int 8400 (fun _ => 0)) rfl rfl (by decide) rfl ?_
  exact zi_putfield (fs := zRf7) (fs2 := zRf8) (h2 := zRh8 t) rfl rfl rfl rfl rfl rfl k
theorem z_R8 {X : zkX} {t : zSt} {Q : zkO → Prop} (k : zk_W X 1 m_R_init (80, [(0, .ref 7)], [], zRh9 t) Q) : zk_W X 1 m_R_init (71, [(0, .ref 7)], [], zRh8 t) Q := by
  refine zi_aload_n rfl rfl ?_
  refine zi_sipush (v := (8400 : Int32)) rfl rfl ?_
  refine zi_newarray (n := 8400) (e := zcA .int 8400 (fun _ => 0)) rfl rfl (by decide) rfl ?_
  exact zi_putfield (fs := zRf8) (fs2 := zRf9) (h2 := zRh9 t) rfl rfl rfl rfl rfl rfl k
theorem z_R9 {X : zkX} {t : zSt} {Q : zkO → Prop} (k : zk_W X 1 m_R_init (89, [(0, .ref 7)], [], zRh10 t) Q) : zk_W X 1 m_R_init (80, [(0, .ref 7)], [], zRh9 t) Q := by
  refine zi_aload_n rfl rfl ?_
  refine zi_sipush (v := (8400 : Int32)) rfl rfl ?_
  refine zi_newarray (n := 8400) (e := zcA .int 8400 (fun _ => 0)) rfl rfl (by decide) rfl ?_
  exact zi_putfield (fs := zRf9) (fs2 := zRf10) (h2 := zRh10 t) rfl rfl rfl rfl rfl rfl k
theorem z_R10 {X : zkX} {t : zSt} {Q : zkO → Prop} (k : zk_W X 1 m_R_init (98, [(0, .ref 7)], [], zRh11 t) Q) : zk_W X 1 m_R_init (89, [(0, .ref 7)], [], zRh10 t) Q := by
  refine zi_aload_n rfl rfl ?_
  refine zi_sipush (v := (8400 : Int32)) rfl rfl ?_
  refine zi_newarray (n := 8400) (e := zcB 8400 (fun _ => 0)) rfl rfl (by decide) rfl ?_
  exact zi_putfield (fs := zRf10) (fs2 := zRf11) (h2 := zRh11 t) rfl rfl rfl rfl rfl rfl k
theorem z_R11 {X : zkX} {t : zSt} {Q : zkO → Prop} (k : zk_W X 1 m_R_init (107, [(0, .ref 7)], [], zRh12 t) Q) : zk_W X 1 m_R_init (98, [(0, .ref 7)], [], zRh11 t) Q := by
  refine zi_aload_n rfl rfl ?_
  refine zi_sipush (v := (8400 : Int32)) rfl rfl ?_
  refine zi_newarray (n := 8400) (e := zcA .int 8400 (fun _ => 0)) rfl rfl (by decide) rfl ?_
  exact zi_putfield (fs := zRf11) (fs2 := zRf12) (h2 := zRh12 t) rfl rfl rfl rfl rfl rfl k
theorem z_R12 {X : zkX} {t : zSt} {Q : zkO → Prop} (k : zk_W X 1 m_R_init (116, [(0, .ref 7)], [], zRh13 t) Q) : zk_W X 1 m_R_init (107, [(0, .ref 7)], [], zRh12 t) Q := by
  refine zi_aload_n rfl rfl ?_
  refine zi_sipush (v := (8400 : Int32)) rfl rfl ?_
  refine zi_newarray (n := 8400) (e := zcA .int 8400 (fun _ => 0)) rfl rfl (by decide) rfl ?_
  exact zi_putfield (fs := zRf12) (fs2 := zRf13) (h2 := zRh13 t) rfl rfl rfl rfl rfl rfl k
theorem z_Rinit {X : zkX} {t : zSt} : zk_C X 2 m_R_init [.ref 7] (zRh0 t) (fun o => o = (.inl none, zRh13 t)) := by
  refine zk_enter (lv := [(0, .ref 7)]) rfl rfl ?_
  refine zi_aload_n rfl rfl ?_
  refine zi_objinit rfl rfl rfl rfl ?_
  exact z_R0 (z_R1 (z_R2 (z_R3 (z_R4 (z_R5 (z_R6 (z_R7 (z_R8 (z_R9 (z_R10 (z_R11 (z_R12 (zi_return rfl rfl rfl)))))))))))))
def zHL (t : zSt) : zkH := (581 + 24 + 4200 + 4200 + 4200 + 8400 + 8400 + 8400 + 8400 + 8400 + 8400 + 8400 + 8400 + 1, [none, some (.inr (3, [.ref 2, .ref 3, .ref 6, .int 0, .long 0, .int 0, .long 0])), some (.inr (2, [.ref 3])), some (.inr (1, zfM t 5)), some (zcA .int 27 (gA t 0)), some (zcB (gN t) (gB t 0)), some (.inr (0, zdf0)), some (.inr (4, [.int 0, .ref 8, .int 1, .ref 9, .ref 10, .ref 11, .int 0, .int 0, .ref 12, .ref 13, .ref 14, .ref 15, .ref 16, .ref 17, .ref 18, .ref 19, .int 0, .long 0, .int 0, .long 0])), some (zcA .int 24 (fun _ => 0)), some (zcA .int 4200 (fun _ => 0)), some (zcA .boolean 4200 (fun _ => 0)), some (zcA .boolean 4200 (fun _ => 0)), some (zcA .int 8400 (fun _ => 0)), some (zcB 8400 (fun _ => 0)), some (zcA .int 8400 (fun _ => 0)), some (zcA .int 8400 (fun _ => 0)), some (zcA .int 8400 (fun _ => 0)), some (zcB 8400 (fun _ => 0)), some (zcA .int 8400 (fun _ => 0)), some (zcA .int 8400 (fun _ => 0)), some (zcB 1 (fun _ => 0))])
theorem zHL_eq {FL : List Nat} {t : zSt} (h : zI5 zs0 0 FL t) : zHL t = zHp t := by
  obtain ⟨h1, ⟨hI, hJ, hA, hB⟩, hE, -⟩ := h
  have iI : ∀ k, (k < 2 ∨ 7 ≤ k) → k ≠ 14 → gI t k = 0 := fun k hk h14 => by
    rw [hI k hk]
    show (bif Nat.beq k 2 then 64 else (bif Nat.beq k 14 then 1 else 0)) = (0 : Int32)
    rw [show Nat.beq k 2 = false from by
      cases hb : Nat.beq k 2 with
      | false => rfl
      | true => exact absurd (Nat.eq_of_beq_eq_true hb) (by omega), show Nat.beq k 14 = false from by
      cases hb : Nat.beq k 14 with
      | false => rfl
      | true => exact absurd (Nat.eq_of_beq_eq_true hb) h14]
    rfl
  have i14 : gI t 14 = 1 := hI 14 (by decide)
  have iJ : ∀ k, gJ t k = 0 := fun k => hJ k
  have iA : ∀ k, gA t k = fun _ => 0 := fun k => hA k
  have iB1 : gB t 1 = fun _ => 0 := hB 0
  have iB2 : gB t 2 = fun _ => 0 := hB 1
  have iB3 : gB t 3 = fun _ => 0 := hB 2
  have eE : gE t = (80406, .inl []) := hE
  unfold zHp
  rw [eE]
  show zHL t = (80406, none :: some (.inr (3, zfX t)) :: some (.inr (2, zfO)) :: some (.inr (1, zfM t 5)) :: some (zcA .int 27 (gA t 0)) :: some (zcB (gN t) (gB t 0)) :: some (.inr (0, zfD t)) :: (zmo t ++ []))
  have hs : (581 + 24 + 4200 + 4200 + 4200 + 8400 + 8400 + 8400 + 8400 + 8400 + 8400 + 8400 + 8400 + 1 : Nat) = 80406 := by decide
  unfold zHL zmo zdf0 zfX zfD zfR zfO
  rw [hs, List.append_nil, iI 0 (by decide) (by decide), iI 1 (by decide) (by decide), iI 7 (by decide) (by decide), iI 8 (by decide) (by decide), iI 9 (by decide) (by decide), iI 10 (by decide) (by decide), iI 11 (by decide) (by decide), iI 12 (by decide) (by decide), iI 13 (by decide) (by decide), i14, iI 15 (by decide) (by decide), iI 16 (by decide) (by decide), iI 17 (by decide) (by decide), iI 18 (by decide) (by decide), iJ 0, iJ 1, iJ 2, iJ 3, iJ 4, iA 1, iA 2, iA 3, iA 4, iA 5, iA 6, iA 7, iA 8, iA 9, iA 10, iB1, iB2, iB3]
def zσ0 : zSg := (1, fun _ => (0, false, true, []), fun _ => 0, 0, 0, 0, 0)
theorem zLI_0 {FL : List Nat} {t : zSt} (h : zI5 zs0 0 FL t) : zLI 80406 0 zσ0 0 t := by
  obtain ⟨h1, ⟨hI, hJ, hA, hB⟩, hE, h2, h3, h4, h5, h6⟩ := h
  have e0 : zWv 0 0 0 := zWv0
  refine ⟨⟨by decide, by decide, fun i _ => by show (0 : Nat) < 1; omega, fun o o1 o2 => ?_, e0, e0, rfl⟩, by decide, ?_, 0, Nat.le_refl _, ?_⟩
  · have o2 : o < 1 := o2
    omega
  · refine ⟨[], fun _ => 0, fun _ => [], 64, FL, ⟨⟨⟨Or.inl rfl, h1, h2, h3, fun c _ _ => h6 c, by omega⟩, List.nodup_nil, fun b hb => ?_, rfl, ?_, fun o ho => ?_, fun o ho => ?_, fun i hi => ⟨?_, Or.inl rfl⟩⟩, hI 0 (by decide), hJ 0, hI 1 (by decide), hJ 1⟩, ?_, ?_⟩
    · cases hb
    · exact List.not_mem_nil
    · cases ho
    · cases ho
    · rw [hA 0]; rfl
    · rw [hE]; show 80406 ≤ 80406 + 6 * 0 + 16 * 64; omega
    · rw [hE]; show 0 ≤ 0 + 0 + 64; omega
  · refine ⟨fun _ => [], fun _ => 0, fun _ => 0, 0, ⟨hI 14 (by decide), hI 15 (by decide), hI 16 (by decide), Nat.le_refl _, by decide⟩, fun o o1 o2 => ?_, fun o _ => ?_, fun i _ => ?_, ⟨hI 17 (by decide), hJ 3, hI 18 (by decide), hJ 4⟩, fun i hi => absurd hi (by omega), fun o o1 o2 => ?_⟩
    · have o2 : o < 1 := o2
      omega
    · rw [hA 4]; rfl
    · rw [hA 1]; rfl
    · have o2 : o < 1 := o2
      omega
theorem zk_pure (X : zkX) (hX : X.1 ≤ 4096) : zk_W X 13 162 (0, [(0, .ref 0)], [], (0, [none])) zk_Lq := by
  refine zi_new (fs := zdf3) rfl rfl rfl rfl ?_
  refine zi_dupa rfl ?_
  refine zi_callI rfl rfl rfl rfl (zk_C.to (zk_C.up (by decide) z_Xinit) (fun o ho => ?_))
  obtain ⟨t, FL, e, hI⟩ := ho
  refine zk_K.okn e ?_
  refine zi_astore_n rfl rfl rfl ?_
  refine zi_new (fs := zdf4) rfl rfl rfl rfl ?_
  refine zi_dupa rfl ?_
  refine zi_callI rfl rfl rfl rfl (zk_C.to (zk_C.up (by decide) (z_Rinit (t := t))) (fun o ho => zk_K.okn ho ?_))
  refine zi_astore_n rfl rfl rfl ?_
  refine zi_iconst (v := (1 : Int32)) rfl rfl ?_
  refine zi_newarray (n := 1) (e := zcB 1 (fun _ => 0)) rfl rfl (by decide) rfl ?_
  refine zi_astore_n rfl rfl rfl ?_
  have hw := law_W hX (zLI_0 hI) (by decide) (by decide)
  rw [← zHL_eq hI] at hw
  exact zk_sb (zk_W.up (by decide) hw) rfl ⟨rfl, rfl, rfl, rfl, trivial⟩

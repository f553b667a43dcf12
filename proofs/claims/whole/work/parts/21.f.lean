/-! m_R_highest -/
def F_R_highest_65 (K6 : Int32 → Int64 → Int32 → Int32 → zSt → Option (Int32 × zSt)) (x1 : Int32) (x2 : Int64) (x4 : Int32) (x5 : Int32) (s : zSt) : Option (Int32 × zSt) := K6 (x1) (x2) (x4) ((x5 + (1 : Int32))) s
def F_R_highest_61 (K6 : Int32 → Int64 → Int32 → Int32 → zSt → Option (Int32 × zSt)) (x1 : Int32) (x2 : Int64) (x5 : Int32) (s : zSt) : Option (Int32 × zSt) := F_R_highest_65  K6  (x1) (x2) (x5) (x5) s
def F_R_highest_6  : Nat → Int32 → Int64 → Int32 → Int32 → zSt → Option (Int32 × zSt)
  | 0, _, _, _, _, _ => none
  | n + 1, x1, x2, x4, x5, s => (if (gI s 15) ≤ x5 then some (x4, s) else (if zin x5 8400 then (if (gA s 5 (x5).toNatClampNeg) = x1 then (if zin x5 8400 then (if (lg_cmp (gB s 1 (x5).toNatClampNeg) x2) < 0 then F_R_highest_65  (F_R_highest_6  n)  (x1) (x2) (x4) (x5) s else (if x4 < 0 then F_R_highest_61  (F_R_highest_6  n)  (x1) (x2) (x5) s else (if zin x5 8400 then (if zin x4 8400 then (if (lg_cmp (gB s 1 (x5).toNatClampNeg) (gB s 1 (x4).toNatClampNeg)) ≤ 0 then F_R_highest_65  (F_R_highest_6  n)  (x1) (x2) (x4) (x5) s else F_R_highest_61  (F_R_highest_6  n)  (x1) (x2) (x5) s) else none) else none))) else none) else F_R_highest_65  (F_R_highest_6  n)  (x1) (x2) (x4) (x5) s) else none))
def F_R_highest (p1 : Int32) (p2 : Int64) (s : zSt) : Option (Int32 × zSt) := F_R_highest_6   zFuel (p1) (p2) ((-1 : Int32)) ((0 : Int32)) s
theorem zJ_R_highest_65 {X : zkX} (K6 : Int32 → Int64 → Int32 → Int32 → zSt → Option (Int32 × zSt)) (hK6 : ∀ (x1 : Int32) (x2 : Int64) (x4 : Int32) (x5 : Int32) (s : zSt) r, K6 x1 x2 x4 x5 s = some r → zk_W X 0 m_R_highest (6, [(0, .ref 7), (1, .int x1), (2, .long x2), (4, .int x4), (5, .int x5)], [], zHp s) (fun o => o = zoI r)) (x1 : Int32) (x2 : Int64) (x4 : Int32) (x5 : Int32) (s : zSt) (r) (hF : F_R_highest_65  K6 x1 x2 x4 x5 s = some r) : zk_W X 0 m_R_highest (65, [(0, .ref 7), (1, .int x1), (2, .long x2), (4, .int x4), (5, .int x5)], [], zHp s) (fun o => o = zoI r) := by
  unfold F_R_highest_65 at hF
  refine zi_iinc (y := (x5 + (1 : Int32))) rfl rfl rfl rfl rfl ?_
  refine zi_goto rfl ?_
  exact zk_sb (hK6 _ _ _ _ _ _ hF) rfl ⟨rfl, rfl, rfl, rfl, rfl, trivial⟩
theorem zJ_R_highest_61 {X : zkX} (K6 : Int32 → Int64 → Int32 → Int32 → zSt → Option (Int32 × zSt)) (hK6 : ∀ (x1 : Int32) (x2 : Int64) (x4 : Int32) (x5 : Int32) (s : zSt) r, K6 x1 x2 x4 x5 s = some r → zk_W X 0 m_R_highest (6, [(0, .ref 7), (1, .int x1), (2, .long x2), (4, .int x4), (5, .int x5)], [], zHp s) (fun o => o = zoI r)) (x1 : Int32) (x2 : Int64) (x5 : Int32) (s : zSt) (r) (hF : F_R_highest_61  K6 x1 x2 x5 s = some r) : zk_W X 0 m_R_highest (61, [(0, .ref 7), (1, .int x1), (2, .long x2), (5, .int x5)], [], zHp s) (fun o => o = zoI r) := by
  unfold F_R_highest_61 at hF
  refine zi_iload rfl rfl ?_
  refine zi_istore rfl rfl rfl ?_
  exact zk_sb (zJ_R_highest_65 K6 hK6  _ _ _ _ _ _ hF) rfl ⟨rfl, rfl, rfl, rfl, rfl, trivial⟩
theorem zJ_R_highest_6 {X : zkX} : ∀ (n : Nat) (x1 : Int32) (x2 : Int64) (x4 : Int32) (x5 : Int32) (s : zSt) (r), F_R_highest_6   n x1 x2 x4 x5 s = some r → zk_W X 0 m_R_highest (6, [(0, .ref 7), (1, .int x1), (2, .long x2), (4, .int x4), (5, .int x5)], [], zHp s) (fun o => o = zoI r) := by
  intro n
  induction n with
  | zero => intro x1 x2 x4 x5 s r hF; cases hF
  | succ n ih =>
    intro x1 x2 x4 x5 s r hF
    rw [F_R_highest_6] at hF
    refine zi_iload rfl rfl ?_
    refine zi_aload_n rfl rfl ?_
    refine zi_getfield rfl rfl (zh_R _) rfl ?_
    refine zi_icge rfl (fun hc => ?_) (fun hc => ?_)
    · have hF := zf_p hc hF
      refine zi_iload rfl rfl ?_
      cases hF
      exact zi_ireturn rfl rfl rfl
    · have hF := zf_n hc hF
      refine zi_aload_n rfl rfl ?_
      refine zi_getfield rfl rfl (zh_R _) rfl ?_
      refine zi_iload rfl rfl ?_
      obtain ⟨hb, hF⟩ := zf_g hF
      refine zi_iaload rfl (zr_A5 _ _) (zin_ok hb) ?_
      refine zi_iload_n rfl rfl ?_
      refine zi_icne rfl (fun hc => ?_) (fun hc => ?_)
      · have hF := zf_n hc hF
        exact zk_sb (zJ_R_highest_65 (F_R_highest_6  n) ih  _ _ _ _ _ _ hF) rfl ⟨rfl, rfl, rfl, rfl, rfl, trivial⟩
      · have hF := zf_p hc hF
        refine zi_aload_n rfl rfl ?_
        refine zi_getfield rfl rfl (zh_R _) rfl ?_
        refine zi_iload rfl rfl ?_
        obtain ⟨hb, hF⟩ := zf_g hF
        refine zi_laload rfl (zh_B1 _) (zin_ok hb) ?_
        refine zi_lload_n rfl rfl ?_
        refine zi_lcmp rfl ?_
        refine zi_iflt rfl (fun hc => ?_) (fun hc => ?_)
        · have hF := zf_p hc hF
          exact zk_sb (zJ_R_highest_65 (F_R_highest_6  n) ih  _ _ _ _ _ _ hF) rfl ⟨rfl, rfl, rfl, rfl, rfl, trivial⟩
        · have hF := zf_n hc hF
          refine zi_iload rfl rfl ?_
          refine zi_iflt rfl (fun hc => ?_) (fun hc => ?_)
          · have hF := zf_p hc hF
            exact zk_sb (zJ_R_highest_61 (F_R_highest_6  n) ih  _ _ _ _ _ hF) rfl ⟨rfl, rfl, rfl, rfl, trivial⟩
          · have hF := zf_n hc hF
            refine zi_aload_n rfl rfl ?_
            refine zi_getfield rfl rfl (zh_R _) rfl ?_
            refine zi_iload rfl rfl ?_
            obtain ⟨hb, hF⟩ := zf_g hF
            refine zi_laload rfl (zh_B1 _) (zin_ok hb) ?_
            refine zi_aload_n rfl rfl ?_
            refine zi_getfield rfl rfl (zh_R _) rfl ?_
            refine zi_iload rfl rfl ?_
            obtain ⟨hb, hF⟩ := zf_g hF
            refine zi_laload rfl (zh_B1 _) (zin_ok hb) ?_
            refine zi_lcmp rfl ?_
            refine zi_ifle rfl (fun hc => ?_) (fun hc => ?_)
            · have hF := zf_p hc hF
              exact zk_sb (zJ_R_highest_65 (F_R_highest_6  n) ih  _ _ _ _ _ _ hF) rfl ⟨rfl, rfl, rfl, rfl, rfl, trivial⟩
            · have hF := zf_n hc hF
              exact zk_sb (zJ_R_highest_61 (F_R_highest_6  n) ih  _ _ _ _ _ hF) rfl ⟨rfl, rfl, rfl, rfl, trivial⟩
theorem zF_R_highest {X : zkX} {p1 : Int32} {p2 : Int64} {s : zSt} {r} (hF : F_R_highest p1 p2 s = some r) : zk_C X 1 m_R_highest [.ref 7, .int p1, .long p2] (zHp s) (fun o => o = zoI r) := by
  unfold F_R_highest at hF
  refine zk_enter (lv := [(0, .ref 7), (1, .int p1), (2, .long p2)]) rfl rfl ?_
  refine zi_iconst (v := (-1 : Int32)) rfl rfl ?_
  refine zi_istore rfl rfl rfl ?_
  refine zi_iconst (v := (0 : Int32)) rfl rfl ?_
  refine zi_istore rfl rfl rfl ?_
  exact zk_sb (zJ_R_highest_6  zFuel _ _ _ _ _ _ hF) rfl ⟨rfl, rfl, rfl, rfl, rfl, trivial⟩
/-! m_R_defineLength -/
def F_R_defineLength_229 (y0 : Int32) (s : zSt) : Option (Int32 × zSt) := some (y0, s)
def F_R_defineLength_219 (x12 : Int32) (s : zSt) : Option (Int32 × zSt) := (if x12 < 0 then F_R_defineLength_229    ((0 : Int32)) s else F_R_defineLength_229    ((2 : Int32)) s)
def F_R_defineLength_206 (x9 : Int32) (x10 : Int32) (x12 : Int32) (s : zSt) : Option (Int32 × zSt) := (if x10 = 0 then F_R_defineLength_219    (x12) s else (zb (F_R_put_0 (x9) ((2 : Int32)) ((0 : Int32)) s) (fun v15 s16 => F_R_defineLength_219    (x12) s16)))
def F_R_defineLength_182 (x9 : Int32) (x10 : Int32) (x12 : Int32) (s : zSt) : Option (Int32 × zSt) := (if x12 < 0 then F_R_defineLength_206    (x9) (x10) (x12) s else (if zin x12 8400 then (zb (F_R_bitsOf (((gB s 1 (x12).toNatClampNeg) + (1 : Int64))) s) (fun v17 s18 => (if zin x9 8400 then F_R_defineLength_206    (x9) (x10) (x12) (sB s18 2 (vp_updL (gB s18 2) (x9).toNatClampNeg v17)) else none))) else none))
def F_R_defineLength_146  : Nat → Int32 → Int64 → Int32 → Int32 → Int32 → zSt → Option (Int32 × zSt)
  | 0, _, _, _, _, _, _ => none
  | n + 1, x1, x7, x9, x10, x12, s => (if x12 < 0 then F_R_defineLength_182    (x9) (x10) (x12) s else (zb (F_R_has_0 (x12) ((32 : Int32)) s) (fun v19 s20 => (if v19 = 0 then F_R_defineLength_182    (x9) (x10) (x12) s20 else (if zin x12 8400 then (zb (F_R_highest (x1) (x7) (sA s20 5 (upd (gA s20 5) (x12).toNatClampNeg (0 : Int32)))) (fun v21 s22 => F_R_defineLength_146  n (x1) (x7) (x9) (x10) (v21) s22)) else none)))))
def F_R_defineLength_117 (x1 : Int32) (x7 : Int64) (x9 : Int32) (x10 : Int32) (y0 : Int32) (y1 : Int32) (y2 : Int64) (y3 : Int32) (s : zSt) : Option (Int32 × zSt) := (zb (F_R_bitsOf (x7) s) (fun v9 s10 => (zb (F_R_defineAny (y3) (y2) (y1) (y0) ((4 : Int32)) (v9) ((0 : Int32)) s10) (fun v11 s12 => (if v11 ≤ 0 then (zb (F_R_highest (x1) (x7) s12) (fun v13 s14 => F_R_defineLength_146   zFuel (x1) (x7) (x9) (x10) (v13) s14)) else some (v11, s12))))))
def F_R_defineLength_97 (x1 : Int32) (x2 : Int32) (x3 : Int32) (x7 : Int64) (x9 : Int32) (y0 : Int32) (s : zSt) : Option (Int32 × zSt) := (if y0 = 0 then F_R_defineLength_117    (x1) (x7) (x9) (y0) (x3) (x2) ((-1 : Int64)) (x1) s else F_R_defineLength_117    (x1) (x7) (x9) (y0) ((x3 ||| (2 : Int32))) (x2) ((-1 : Int64)) (x1) s)
def F_R_defineLength_96 (x1 : Int32) (x2 : Int32) (x3 : Int32) (x7 : Int64) (x9 : Int32) (s : zSt) : Option (Int32 × zSt) := F_R_defineLength_97    (x1) (x2) (x3) (x7) (x9) ((0 : Int32)) s
def F_R_defineLength_54 (x1 : Int32) (x2 : Int32) (x3 : Int32) (x7 : Int64) (s : zSt) : Option (Int32 × zSt) := (zb (F_R_find (x1) ((-1 : Int64)) s) (fun v3 s4 => (zb (F_R_has_0 (v3) ((2 : Int32)) s4) (fun v5 s6 => (if v5 = 0 then some ((2 : Int32), s6) else (zb (F_R_isTold (x2) ((2 : Int32)) s6) (fun v7 s8 => (if v7 = 0 then F_R_defineLength_96    (x1) (x2) (x3) (x7) (v3) s8 else (zb (F_R_isTold (x3) ((2 : Int32)) s8) (fun v23 s24 => (if v23 = 0 then F_R_defineLength_97    (x1) (x2) (x3) (x7) (v3) ((1 : Int32)) s24 else F_R_defineLength_96    (x1) (x2) (x3) (x7) (v3) s24)))))))))))
def F_R_defineLength (p1 : Int32) (p2 : Int32) (p3 : Int32) (p4 : Int32) (p5 : Int64) (s : zSt) : Option (Int32 × zSt) := (zb (F_R_asLength (p4) (p5) s) (fun v1 s2 => (if 0 ≤ (lg_cmp v1 (0 : Int64)) then (if (p2 &&& (12 : Int32)) = 0 then (zb (F_R_lengthOf (p1) s2) (fun v25 s26 => (if (lg_cmp v1 v25) < 0 then F_R_defineLength_54    (p1) (p2) (p3) (v1) s26 else (zb (F_R_bitsOf (v1) s26) (fun v27 s28 => (zb (F_R_defineAny (p1) ((-1 : Int64)) (p2) (p3) ((4 : Int32)) (v27) ((0 : Int32)) s28) (fun v29 s30 => some (v29, s30)))))))) else F_R_defineLength_54    (p1) (p2) (p3) (v1) s2) else some ((3 : Int32), s2))))
theorem zJ_R_defineLength_229 {X : zkX} (y0 : Int32) (s : zSt) (r) (hF : F_R_defineLength_229   y0 s = some r) : zk_W X 3 m_R_defineLength (229, [], [.int y0], zHp s) (fun o => o = zoI r) := by
  unfold F_R_defineLength_229 at hF
  cases hF
  exact zi_ireturn rfl rfl rfl
theorem zJ_R_defineLength_219 {X : zkX} (x12 : Int32) (s : zSt) (r) (hF : F_R_defineLength_219   x12 s = some r) : zk_W X 3 m_R_defineLength (219, [(12, .int x12)], [], zHp s) (fun o => o = zoI r) := by
  unfold F_R_defineLength_219 at hF
  refine zi_iload rfl rfl ?_
  refine zi_iflt rfl (fun hc => ?_) (fun hc => ?_)
  · have hF := zf_p hc hF
    refine zi_iconst (v := (0 : Int32)) rfl rfl ?_
    exact zk_sb (zJ_R_defineLength_229   _ _ _ hF) rfl trivial
  · have hF := zf_n hc hF
    refine zi_iconst (v := (2 : Int32)) rfl rfl ?_
    refine zi_goto rfl ?_
    exact zk_sb (zJ_R_defineLength_229   _ _ _ hF) rfl trivial
theorem zJ_R_defineLength_206 {X : zkX} (x9 : Int32) (x10 : Int32) (x12 : Int32) (s : zSt) (r) (hF : F_R_defineLength_206   x9 x10 x12 s = some r) : zk_W X 3 m_R_defineLength (206, [(0, .ref 7), (9, .int x9), (10, .int x10), (12, .int x12)], [], zHp s) (fun o => o = zoI r) := by
  unfold F_R_defineLength_206 at hF
  refine zi_iload rfl rfl ?_
  refine zi_ifeq rfl (fun hc => ?_) (fun hc => ?_)
  · have hF := zf_p hc hF
    exact zk_sb (zJ_R_defineLength_219   _ _ _ hF) rfl ⟨rfl, trivial⟩
  · have hF := zf_n hc hF
    refine zi_aload_n rfl rfl ?_
    refine zi_iload rfl rfl ?_
    refine zi_iconst (v := (2 : Int32)) rfl rfl ?_
    refine zi_iconst (v := (0 : Int32)) rfl rfl ?_
    obtain ⟨v15, s16, hm, hF⟩ := zf_b hF
    refine zi_callV rfl rfl rfl (zh_R _) rfl (zk_C.to (zk_C.up (by decide) (zF_R_put_0 hm)) (fun o ho => zk_K.okn ho ?_))
    exact zk_sb (zJ_R_defineLength_219   _ _ _ hF) rfl ⟨rfl, trivial⟩
theorem zJ_R_defineLength_182 {X : zkX} (x9 : Int32) (x10 : Int32) (x12 : Int32) (s : zSt) (r) (hF : F_R_defineLength_182   x9 x10 x12 s = some r) : zk_W X 3 m_R_defineLength (182, [(0, .ref 7), (9, .int x9), (10, .int x10), (12, .int x12)], [], zHp s) (fun o => o = zoI r) := by
  unfold F_R_defineLength_182 at hF
  refine zi_iload rfl rfl ?_
  refine zi_iflt rfl (fun hc => ?_) (fun hc => ?_)
  · have hF := zf_p hc hF
    exact zk_sb (zJ_R_defineLength_206   _ _ _ _ _ hF) rfl ⟨rfl, rfl, rfl, rfl, trivial⟩
  · have hF := zf_n hc hF
    refine zi_aload_n rfl rfl ?_
    refine zi_getfield rfl rfl (zh_R _) rfl ?_
    refine zi_iload rfl rfl ?_
    refine zi_aload_n rfl rfl ?_
    refine zi_getfield rfl rfl (zh_R _) rfl ?_
    refine zi_iload rfl rfl ?_
    obtain ⟨hb, hF⟩ := zf_g hF
    refine zi_laload rfl (zh_B1 _) (zin_ok hb) ?_
    refine zi_lconst (v := (1 : Int64)) rfl rfl ?_
    refine zi_ladd rfl ?_
    obtain ⟨v17, s18, hm, hF⟩ := zf_b hF
    refine zi_callS rfl rfl rfl rfl (zk_C.to (zk_C.up (by decide) (zF_R_bitsOf hm)) (fun o ho => zk_K.okv ho ?_))
    obtain ⟨hb, hF⟩ := zf_g hF
    refine zi_lastore rfl (zh_B2 _) (zin_ok hb) (zs_B2 _ _) ?_
    exact zk_sb (zJ_R_defineLength_206   _ _ _ _ _ hF) rfl ⟨rfl, rfl, rfl, rfl, trivial⟩
theorem zJ_R_defineLength_146 {X : zkX} : ∀ (n : Nat) (x1 : Int32) (x7 : Int64) (x9 : Int32) (x10 : Int32) (x12 : Int32) (s : zSt) (r), F_R_defineLength_146   n x1 x7 x9 x10 x12 s = some r → zk_W X 3 m_R_defineLength (146, [(0, .ref 7), (1, .int x1), (7, .long x7), (9, .int x9), (10, .int x10), (12, .int x12)], [], zHp s) (fun o => o = zoI r) := by
  intro n
  induction n with
  | zero => intro x1 x7 x9 x10 x12 s r hF; cases hF
  | succ n ih =>
    intro x1 x7 x9 x10 x12 s r hF
    rw [F_R_defineLength_146] at hF
    refine zi_iload rfl rfl ?_
    refine zi_iflt rfl (fun hc => ?_) (fun hc => ?_)
    · have hF := zf_p hc hF
      exact zk_sb (zJ_R_defineLength_182   _ _ _ _ _ hF) rfl ⟨rfl, rfl, rfl, rfl, trivial⟩
    · have hF := zf_n hc hF
      refine zi_aload_n rfl rfl ?_
      refine zi_iload rfl rfl ?_
      refine zi_bipush (v := (32 : Int32)) rfl rfl ?_
      obtain ⟨v19, s20, hm, hF⟩ := zf_b hF
      refine zi_callV rfl rfl rfl (zh_R _) rfl (zk_C.to (zk_C.up (by decide) (zF_R_has_0 hm)) (fun o ho => zk_K.okv ho ?_))
      refine zi_ifeq rfl (fun hc => ?_) (fun hc => ?_)
      · have hF := zf_p hc hF
        exact zk_sb (zJ_R_defineLength_182   _ _ _ _ _ hF) rfl ⟨rfl, rfl, rfl, rfl, trivial⟩
      · have hF := zf_n hc hF
        refine zi_aload_n rfl rfl ?_
        refine zi_getfield rfl rfl (zh_R _) rfl ?_
        refine zi_iload rfl rfl ?_
        refine zi_iconst (v := (0 : Int32)) rfl rfl ?_
        obtain ⟨hb, hF⟩ := zf_g hF
        refine zi_iastore rfl (zh_A5 _) (zin_ok hb) (zs_A5 _ _) ?_
        refine zi_aload_n rfl rfl ?_
        refine zi_iload_n rfl rfl ?_
        refine zi_lload rfl rfl ?_
        obtain ⟨v21, s22, hm, hF⟩ := zf_b hF
        refine zi_callV rfl rfl rfl (zh_R _) rfl (zk_C.to (zk_C.up (by decide) (zF_R_highest hm)) (fun o ho => zk_K.okv ho ?_))
        refine zi_istore rfl rfl rfl ?_
        refine zi_goto rfl ?_
        exact zk_sb (ih _ _ _ _ _ _ _ hF) rfl ⟨rfl, rfl, rfl, rfl, rfl, rfl, trivial⟩
theorem zJ_R_defineLength_117 {X : zkX} (x1 : Int32) (x7 : Int64) (x9 : Int32) (x10 : Int32) (y0 : Int32) (y1 : Int32) (y2 : Int64) (y3 : Int32) (s : zSt) (r) (hF : F_R_defineLength_117   x1 x7 x9 x10 y0 y1 y2 y3 s = some r) : zk_W X 3 m_R_defineLength (117, [(0, .ref 7), (1, .int x1), (7, .long x7), (9, .int x9), (10, .int x10)], [.int y0, .int y1, .long y2, .int y3, .ref 7], zHp s) (fun o => o = zoI r) := by
  unfold F_R_defineLength_117 at hF
  refine zi_iconst (v := (4 : Int32)) rfl rfl ?_
  refine zi_lload rfl rfl ?_
  obtain ⟨v9, s10, hm, hF⟩ := zf_b hF
  refine zi_callS rfl rfl rfl rfl (zk_C.to (zk_C.up (by decide) (zF_R_bitsOf hm)) (fun o ho => zk_K.okv ho ?_))
  refine zi_iconst (v := (0 : Int32)) rfl rfl ?_
  obtain ⟨v11, s12, hm, hF⟩ := zf_b hF
  refine zi_callV rfl rfl rfl (zh_R _) rfl (zk_C.to (zk_C.up (by decide) (zF_R_defineAny hm)) (fun o ho => zk_K.okv ho ?_))
  refine zi_istore rfl rfl rfl ?_
  refine zi_iload rfl rfl ?_
  refine zi_ifle rfl (fun hc => ?_) (fun hc => ?_)
  · have hF := zf_p hc hF
    refine zi_aload_n rfl rfl ?_
    refine zi_iload_n rfl rfl ?_
    refine zi_lload rfl rfl ?_
    obtain ⟨v13, s14, hm, hF⟩ := zf_b hF
    refine zi_callV rfl rfl rfl (zh_R _) rfl (zk_C.to (zk_C.up (by decide) (zF_R_highest hm)) (fun o ho => zk_K.okv ho ?_))
    refine zi_istore rfl rfl rfl ?_
    exact zk_sb (zJ_R_defineLength_146  zFuel _ _ _ _ _ _ _ hF) rfl ⟨rfl, rfl, rfl, rfl, rfl, rfl, trivial⟩
  · have hF := zf_n hc hF
    refine zi_iload rfl rfl ?_
    cases hF
    exact zi_ireturn rfl rfl rfl
theorem zJ_R_defineLength_97 {X : zkX} (x1 : Int32) (x2 : Int32) (x3 : Int32) (x7 : Int64) (x9 : Int32) (y0 : Int32) (s : zSt) (r) (hF : F_R_defineLength_97   x1 x2 x3 x7 x9 y0 s = some r) : zk_W X 3 m_R_defineLength (97, [(0, .ref 7), (1, .int x1), (2, .int x2), (3, .int x3), (7, .long x7), (9, .int x9)], [.int y0], zHp s) (fun o => o = zoI r) := by
  unfold F_R_defineLength_97 at hF
  refine zi_istore rfl rfl rfl ?_
  refine zi_aload_n rfl rfl ?_
  refine zi_iload_n rfl rfl ?_
  refine zi_ldc2_w (v := (-1 : Int64)) rfl rfl ?_
  refine zi_iload_n rfl rfl ?_
  refine zi_iload rfl rfl ?_
  refine zi_ifeq rfl (fun hc => ?_) (fun hc => ?_)
  · have hF := zf_p hc hF
    refine zi_iload_n rfl rfl ?_
    exact zk_sb (zJ_R_defineLength_117   _ _ _ _ _ _ _ _ _ _ hF) rfl ⟨rfl, rfl, rfl, rfl, rfl, trivial⟩
  · have hF := zf_n hc hF
    refine zi_iload_n rfl rfl ?_
    refine zi_iconst (v := (2 : Int32)) rfl rfl ?_
    refine zi_ior rfl ?_
    refine zi_goto rfl ?_
    exact zk_sb (zJ_R_defineLength_117   _ _ _ _ _ _ _ _ _ _ hF) rfl ⟨rfl, rfl, rfl, rfl, rfl, trivial⟩
theorem zJ_R_defineLength_96 {X : zkX} (x1 : Int32) (x2 : Int32) (x3 : Int32) (x7 : Int64) (x9 : Int32) (s : zSt) (r) (hF : F_R_defineLength_96   x1 x2 x3 x7 x9 s = some r) : zk_W X 3 m_R_defineLength (96, [(0, .ref 7), (1, .int x1), (2, .int x2), (3, .int x3), (7, .long x7), (9, .int x9)], [], zHp s) (fun o => o = zoI r) := by
  unfold F_R_defineLength_96 at hF
  refine zi_iconst (v := (0 : Int32)) rfl rfl ?_
  exact zk_sb (zJ_R_defineLength_97   _ _ _ _ _ _ _ _ hF) rfl ⟨rfl, rfl, rfl, rfl, rfl, rfl, trivial⟩
theorem zJ_R_defineLength_54 {X : zkX} (x1 : Int32) (x2 : Int32) (x3 : Int32) (x7 : Int64) (s : zSt) (r) (hF : F_R_defineLength_54   x1 x2 x3 x7 s = some r) : zk_W X 3 m_R_defineLength (54, [(0, .ref 7), (1, .int x1), (2, .int x2), (3, .int x3), (7, .long x7)], [], zHp s) (fun o => o = zoI r) := by
  unfold F_R_defineLength_54 at hF
  refine zi_aload_n rfl rfl ?_
  refine zi_iload_n rfl rfl ?_
  refine zi_ldc2_w (v := (-1 : Int64)) rfl rfl ?_
  obtain ⟨v3, s4, hm, hF⟩ := zf_b hF
  refine zi_callV rfl rfl rfl (zh_R _) rfl (zk_C.to (zk_C.up (by decide) (zF_R_find hm)) (fun o ho => zk_K.okv ho ?_))
  refine zi_istore rfl rfl rfl ?_
  refine zi_aload_n rfl rfl ?_
  refine zi_iload rfl rfl ?_
  refine zi_iconst (v := (2 : Int32)) rfl rfl ?_
  obtain ⟨v5, s6, hm, hF⟩ := zf_b hF
  refine zi_callV rfl rfl rfl (zh_R _) rfl (zk_C.to (zk_C.up (by decide) (zF_R_has_0 hm)) (fun o ho => zk_K.okv ho ?_))
  refine zi_ifne rfl (fun hc => ?_) (fun hc => ?_)
  · have hF := zf_n hc hF
    refine zi_iload_n rfl rfl ?_
    refine zi_iconst (v := (2 : Int32)) rfl rfl ?_
    obtain ⟨v7, s8, hm, hF⟩ := zf_b hF
    refine zi_callS rfl rfl rfl rfl (zk_C.to (zk_C.up (by decide) (zF_R_isTold hm)) (fun o ho => zk_K.okv ho ?_))
    refine zi_ifeq rfl (fun hc => ?_) (fun hc => ?_)
    · have hF := zf_p hc hF
      exact zk_sb (zJ_R_defineLength_96   _ _ _ _ _ _ _ hF) rfl ⟨rfl, rfl, rfl, rfl, rfl, rfl, trivial⟩
    · have hF := zf_n hc hF
      refine zi_iload_n rfl rfl ?_
      refine zi_iconst (v := (2 : Int32)) rfl rfl ?_
      obtain ⟨v23, s24, hm, hF⟩ := zf_b hF
      refine zi_callS rfl rfl rfl rfl (zk_C.to (zk_C.up (by decide) (zF_R_isTold hm)) (fun o ho => zk_K.okv ho ?_))
      refine zi_ifne rfl (fun hc => ?_) (fun hc => ?_)
      · have hF := zf_n hc hF
        exact zk_sb (zJ_R_defineLength_96   _ _ _ _ _ _ _ hF) rfl ⟨rfl, rfl, rfl, rfl, rfl, rfl, trivial⟩
      · have hF := zf_p hc hF
        refine zi_iconst (v := (1 : Int32)) rfl rfl ?_
        refine zi_goto rfl ?_
        exact zk_sb (zJ_R_defineLength_97   _ _ _ _ _ _ _ _ hF) rfl ⟨rfl, rfl, rfl, rfl, rfl, rfl, trivial⟩
  · have hF := zf_p hc hF
    refine zi_iconst (v := (2 : Int32)) rfl rfl ?_
    cases hF
    exact zi_ireturn rfl rfl rfl
theorem zF_R_defineLength {X : zkX} {p1 : Int32} {p2 : Int32} {p3 : Int32} {p4 : Int32} {p5 : Int64} {s : zSt} {r} (hF : F_R_defineLength p1 p2 p3 p4 p5 s = some r) : zk_C X 4 m_R_defineLength [.ref 7, .int p1, .int p2, .int p3, .int p4, .long p5] (zHp s) (fun o => o = zoI r) := by
  unfold F_R_defineLength at hF
  refine zk_enter (lv := [(0, .ref 7), (1, .int p1), (2, .int p2), (3, .int p3), (4, .int p4), (5, .long p5)]) rfl rfl ?_
  refine zi_iload rfl rfl ?_
  refine zi_lload rfl rfl ?_
  obtain ⟨v1, s2, hm, hF⟩ := zf_b hF
  refine zi_callS rfl rfl rfl rfl (zk_C.to (zk_C.up (by decide) (zF_R_asLength hm)) (fun o ho => zk_K.okv ho ?_))
  refine zi_lstore rfl rfl rfl ?_
  refine zi_lload rfl rfl ?_
  refine zi_lconst (v := (0 : Int64)) rfl rfl ?_
  refine zi_lcmp rfl ?_
  refine zi_ifge rfl (fun hc => ?_) (fun hc => ?_)
  · have hF := zf_p hc hF
    refine zi_iload_n rfl rfl ?_
    refine zi_bipush (v := (12 : Int32)) rfl rfl ?_
    refine zi_iand rfl ?_
    refine zi_ifne rfl (fun hc => ?_) (fun hc => ?_)
    · have hF := zf_n hc hF
      exact zk_sb (zJ_R_defineLength_54   _ _ _ _ _ _ hF) rfl ⟨rfl, rfl, rfl, rfl, rfl, trivial⟩
    · have hF := zf_p hc hF
      refine zi_lload rfl rfl ?_
      refine zi_aload_n rfl rfl ?_
      refine zi_iload_n rfl rfl ?_
      obtain ⟨v25, s26, hm, hF⟩ := zf_b hF
      refine zi_callV rfl rfl rfl (zh_R _) rfl (zk_C.to (zk_C.up (by decide) (zF_R_lengthOf hm)) (fun o ho => zk_K.okv ho ?_))
      refine zi_lcmp rfl ?_
      refine zi_iflt rfl (fun hc => ?_) (fun hc => ?_)
      · have hF := zf_p hc hF
        exact zk_sb (zJ_R_defineLength_54   _ _ _ _ _ _ hF) rfl ⟨rfl, rfl, rfl, rfl, rfl, trivial⟩
      · have hF := zf_n hc hF
        refine zi_aload_n rfl rfl ?_
        refine zi_iload_n rfl rfl ?_
        refine zi_ldc2_w (v := (-1 : Int64)) rfl rfl ?_
        refine zi_iload_n rfl rfl ?_
        refine zi_iload_n rfl rfl ?_
        refine zi_iconst (v := (4 : Int32)) rfl rfl ?_
        refine zi_lload rfl rfl ?_
        obtain ⟨v27, s28, hm, hF⟩ := zf_b hF
        refine zi_callS rfl rfl rfl rfl (zk_C.to (zk_C.up (by decide) (zF_R_bitsOf hm)) (fun o ho => zk_K.okv ho ?_))
        refine zi_iconst (v := (0 : Int32)) rfl rfl ?_
        obtain ⟨v29, s30, hm, hF⟩ := zf_b hF
        refine zi_callV rfl rfl rfl (zh_R _) rfl (zk_C.to (zk_C.up (by decide) (zF_R_defineAny hm)) (fun o ho => zk_K.okv ho ?_))
        cases hF
        exact zi_ireturn rfl rfl rfl
  · have hF := zf_n hc hF
    refine zi_iconst (v := (3 : Int32)) rfl rfl ?_
    cases hF
    exact zi_ireturn rfl rfl rfl
/-! m_R_defineOwn -/
def F_R_defineOwn_59 (x1 : Int32) (x2 : Int64) (x4 : Int32) (x5 : Int32) (x6 : Int32) (x7 : Int64) (x9 : Int32) (s : zSt) : Option (Int32 × zSt) := (zb (F_R_defineAny (x1) (x2) (x4) (x5) (x6) (x7) (x9) s) (fun v1 s2 => some (v1, s2)))
def F_R_defineOwn_134 (x11 : Int32) (s : zSt) : Option (Int32 × zSt) := some (x11, s)
def F_R_defineOwn_40 (x1 : Int32) (x2 : Int64) (x4 : Int32) (x5 : Int32) (x6 : Int32) (x7 : Int64) (x9 : Int32) (s : zSt) : Option (Int32 × zSt) := (if zin x1 4200 then (if (gA s 3 (x1).toNatClampNeg) = 0 then F_R_defineOwn_59    (x1) (x2) (x4) (x5) (x6) (x7) (x9) s else (zb (F_R_lengthOf (x1) s) (fun v3 s4 => (if 0 ≤ (lg_cmp x2 v3) then (zb (F_R_find (x1) ((-1 : Int64)) s4) (fun v5 s6 => (zb (F_R_has_0 (v5) ((2 : Int32)) s6) (fun v7 s8 => (if v7 = 0 then some ((2 : Int32), s8) else (zb (F_R_defineAny (x1) (x2) (x4) (x5) (x6) (x7) (x9) s8) (fun v9 s10 => (if v9 = 0 then (zb (F_R_bitsOf ((x2 + (1 : Int64))) s10) (fun v11 s12 => (if zin v5 8400 then F_R_defineOwn_134    (v9) (sB s12 2 (vp_updL (gB s12 2) (v5).toNatClampNeg v11)) else none))) else F_R_defineOwn_134    (v9) s10)))))))) else F_R_defineOwn_59    (x1) (x2) (x4) (x5) (x6) (x7) (x9) s4)))) else none)
def F_R_defineOwn (p1 : Int32) (p2 : Int64) (p4 : Int32) (p5 : Int32) (p6 : Int32) (p7 : Int64) (p9 : Int32) (s : zSt) : Option (Int32 × zSt) := (if zin p1 4200 then (if (gA s 3 (p1).toNatClampNeg) = 0 then F_R_defineOwn_40    (p1) (p2) (p4) (p5) (p6) (p7) (p9) s else (if (lg_cmp p2 (-1 : Int64)) = 0 then (zb (F_R_isTold (p4) ((1 : Int32)) s) (fun v13 s14 => (if v13 = 0 then F_R_defineOwn_40    (p1) (p2) (p4) (p5) (p6) (p7) (p9) s14 else (zb (F_R_defineLength (p1) (p4) (p5) (p6) (p7) s14) (fun v15 s16 => some (v15, s16)))))) else F_R_defineOwn_40    (p1) (p2) (p4) (p5) (p6) (p7) (p9) s)) else none)
theorem zJ_R_defineOwn_59 {X : zkX} (x1 : Int32) (x2 : Int64) (x4 : Int32) (x5 : Int32) (x6 : Int32) (x7 : Int64) (x9 : Int32) (s : zSt) (r) (hF : F_R_defineOwn_59   x1 x2 x4 x5 x6 x7 x9 s = some r) : zk_W X 4 m_R_defineOwn (59, [(0, .ref 7), (1, .int x1), (2, .long x2), (4, .int x4), (5, .int x5), (6, .int x6), (7, .long x7), (9, .int x9)], [], zHp s) (fun o => o = zoI r) := by
  unfold F_R_defineOwn_59 at hF
  refine zi_aload_n rfl rfl ?_
  refine zi_iload_n rfl rfl ?_
  refine zi_lload_n rfl rfl ?_
  refine zi_iload rfl rfl ?_
  refine zi_iload rfl rfl ?_
  refine zi_iload rfl rfl ?_
  refine zi_lload rfl rfl ?_
  refine zi_iload rfl rfl ?_
  obtain ⟨v1, s2, hm, hF⟩ := zf_b hF
  refine zi_callV rfl rfl rfl (zh_R _) rfl (zk_C.to (zk_C.up (by decide) (zF_R_defineAny hm)) (fun o ho => zk_K.okv ho ?_))
  cases hF
  exact zi_ireturn rfl rfl rfl
theorem zJ_R_defineOwn_134 {X : zkX} (x11 : Int32) (s : zSt) (r) (hF : F_R_defineOwn_134   x11 s = some r) : zk_W X 4 m_R_defineOwn (134, [(11, .int x11)], [], zHp s) (fun o => o = zoI r) := by
  unfold F_R_defineOwn_134 at hF
  refine zi_iload rfl rfl ?_
  cases hF
  exact zi_ireturn rfl rfl rfl
theorem zJ_R_defineOwn_40 {X : zkX} (x1 : Int32) (x2 : Int64) (x4 : Int32) (x5 : Int32) (x6 : Int32) (x7 : Int64) (x9 : Int32) (s : zSt) (r) (hF : F_R_defineOwn_40   x1 x2 x4 x5 x6 x7 x9 s = some r) : zk_W X 4 m_R_defineOwn (40, [(0, .ref 7), (1, .int x1), (2, .long x2), (4, .int x4), (5, .int x5), (6, .int x6), (7, .long x7), (9, .int x9)], [], zHp s) (fun o => o = zoI r) := by
  unfold F_R_defineOwn_40 at hF
  refine zi_aload_n rfl rfl ?_
  refine zi_getfield rfl rfl (zh_R _) rfl ?_
  refine zi_iload_n rfl rfl ?_
  obtain ⟨hb, hF⟩ := zf_g hF
  refine zi_baload rfl (zh_A3 _) (zin_ok hb) ?_
  refine zi_ifeq rfl (fun hc => ?_) (fun hc => ?_)
  · have hF := zf_p hc hF
    exact zk_sb (zJ_R_defineOwn_59   _ _ _ _ _ _ _ _ _ hF) rfl ⟨rfl, rfl, rfl, rfl, rfl, rfl, rfl, rfl, trivial⟩
  · have hF := zf_n hc hF
    refine zi_lload_n rfl rfl ?_
    refine zi_aload_n rfl rfl ?_
    refine zi_iload_n rfl rfl ?_
    obtain ⟨v3, s4, hm, hF⟩ := zf_b hF
    refine zi_callV rfl rfl rfl (zh_R _) rfl (zk_C.to (zk_C.up (by decide) (zF_R_lengthOf hm)) (fun o ho => zk_K.okv ho ?_))
    refine zi_lcmp rfl ?_
    refine zi_ifge rfl (fun hc => ?_) (fun hc => ?_)
    · have hF := zf_p hc hF
      refine zi_aload_n rfl rfl ?_
      refine zi_iload_n rfl rfl ?_
      refine zi_ldc2_w (v := (-1 : Int64)) rfl rfl ?_
      obtain ⟨v5, s6, hm, hF⟩ := zf_b hF
      refine zi_callV rfl rfl rfl (zh_R _) rfl (zk_C.to (zk_C.up (by decide) (zF_R_find hm)) (fun o ho => zk_K.okv ho ?_))
      refine zi_istore rfl rfl rfl ?_
      refine zi_aload_n rfl rfl ?_
      refine zi_iload rfl rfl ?_
      refine zi_iconst (v := (2 : Int32)) rfl rfl ?_
      obtain ⟨v7, s8, hm, hF⟩ := zf_b hF
      refine zi_callV rfl rfl rfl (zh_R _) rfl (zk_C.to (zk_C.up (by decide) (zF_R_has_0 hm)) (fun o ho => zk_K.okv ho ?_))
      refine zi_ifne rfl (fun hc => ?_) (fun hc => ?_)
      · have hF := zf_n hc hF
        refine zi_aload_n rfl rfl ?_
        refine zi_iload_n rfl rfl ?_
        refine zi_lload_n rfl rfl ?_
        refine zi_iload rfl rfl ?_
        refine zi_iload rfl rfl ?_
        refine zi_iload rfl rfl ?_
        refine zi_lload rfl rfl ?_
        refine zi_iload rfl rfl ?_
        obtain ⟨v9, s10, hm, hF⟩ := zf_b hF
        refine zi_callV rfl rfl rfl (zh_R _) rfl (zk_C.to (zk_C.up (by decide) (zF_R_defineAny hm)) (fun o ho => zk_K.okv ho ?_))
        refine zi_istore rfl rfl rfl ?_
        refine zi_iload rfl rfl ?_
        refine zi_ifne rfl (fun hc => ?_) (fun hc => ?_)
        · have hF := zf_n hc hF
          exact zk_sb (zJ_R_defineOwn_134   _ _ _ hF) rfl ⟨rfl, trivial⟩
        · have hF := zf_p hc hF
          refine zi_aload_n rfl rfl ?_
          refine zi_getfield rfl rfl (zh_R _) rfl ?_
          refine zi_iload rfl rfl ?_
          refine zi_lload_n rfl rfl ?_
          refine zi_lconst (v := (1 : Int64)) rfl rfl ?_
          refine zi_ladd rfl ?_
          obtain ⟨v11, s12, hm, hF⟩ := zf_b hF
          refine zi_callS rfl rfl rfl rfl (zk_C.to (zk_C.up (by decide) (zF_R_bitsOf hm)) (fun o ho => zk_K.okv ho ?_))
          obtain ⟨hb, hF⟩ := zf_g hF
          refine zi_lastore rfl (zh_B2 _) (zin_ok hb) (zs_B2 _ _) ?_
          exact zk_sb (zJ_R_defineOwn_134   _ _ _ hF) rfl ⟨rfl, trivial⟩
      · have hF := zf_p hc hF
        refine zi_iconst (v := (2 : Int32)) rfl rfl ?_
        cases hF
        exact zi_ireturn rfl rfl rfl
    · have hF := zf_n hc hF
      exact zk_sb (zJ_R_defineOwn_59   _ _ _ _ _ _ _ _ _ hF) rfl ⟨rfl, rfl, rfl, rfl, rfl, rfl, rfl, rfl, trivial⟩
theorem zF_R_defineOwn {X : zkX} {p1 : Int32} {p2 : Int64} {p4 : Int32} {p5 : Int32} {p6 : Int32} {p7 : Int64} {p9 : Int32} {s : zSt} {r} (hF : F_R_defineOwn p1 p2 p4 p5 p6 p7 p9 s = some r) : zk_C X 5 m_R_defineOwn [.ref 7, .int p1, .long p2, .int p4, .int p5, .int p6, .long p7, .int p9] (zHp s) (fun o => o = zoI r) := by
  unfold F_R_defineOwn at hF
  refine zk_enter (lv := [(0, .ref 7), (1, .int p1), (2, .long p2), (4, .int p4), (5, .int p5), (6, .int p6), (7, .long p7), (9, .int p9)]) rfl rfl ?_
  refine zi_aload_n rfl rfl ?_
  refine zi_getfield rfl rfl (zh_R _) rfl ?_
  refine zi_iload_n rfl rfl ?_
  obtain ⟨hb, hF⟩ := zf_g hF
  refine zi_baload rfl (zh_A3 _) (zin_ok hb) ?_
  refine zi_ifeq rfl (fun hc => ?_) (fun hc => ?_)
  · have hF := zf_p hc hF
    exact zk_sb (zJ_R_defineOwn_40   _ _ _ _ _ _ _ _ _ hF) rfl ⟨rfl, rfl, rfl, rfl, rfl, rfl, rfl, rfl, trivial⟩
  · have hF := zf_n hc hF
    refine zi_lload_n rfl rfl ?_
    refine zi_ldc2_w (v := (-1 : Int64)) rfl rfl ?_
    refine zi_lcmp rfl ?_
    refine zi_ifne rfl (fun hc => ?_) (fun hc => ?_)
    · have hF := zf_n hc hF
      exact zk_sb (zJ_R_defineOwn_40   _ _ _ _ _ _ _ _ _ hF) rfl ⟨rfl, rfl, rfl, rfl, rfl, rfl, rfl, rfl, trivial⟩
    · have hF := zf_p hc hF
      refine zi_iload rfl rfl ?_
      refine zi_iconst (v := (1 : Int32)) rfl rfl ?_
      obtain ⟨v13, s14, hm, hF⟩ := zf_b hF
      refine zi_callS rfl rfl rfl rfl (zk_C.to (zk_C.up (by decide) (zF_R_isTold hm)) (fun o ho => zk_K.okv ho ?_))
      refine zi_ifeq rfl (fun hc => ?_) (fun hc => ?_)
      · have hF := zf_p hc hF
        exact zk_sb (zJ_R_defineOwn_40   _ _ _ _ _ _ _ _ _ hF) rfl ⟨rfl, rfl, rfl, rfl, rfl, rfl, rfl, rfl, trivial⟩
      · have hF := zf_n hc hF
        refine zi_aload_n rfl rfl ?_
        refine zi_iload_n rfl rfl ?_
        refine zi_iload rfl rfl ?_
        refine zi_iload rfl rfl ?_
        refine zi_iload rfl rfl ?_
        refine zi_lload rfl rfl ?_
        obtain ⟨v15, s16, hm, hF⟩ := zf_b hF
        refine zi_callV rfl rfl rfl (zh_R _) rfl (zk_C.to (zk_C.up (by decide) (zF_R_defineLength hm)) (fun o ho => zk_K.okv ho ?_))
        cases hF
        exact zi_ireturn rfl rfl rfl
/-! m_R_define -/
def F_R_define_171 (x1 : Int32) (x2 : Int64) (x4 : Int32) (x5 : Int32) (x9 : Int32) (y0 : Int32) (s : zSt) : Option (Int32 × zSt) := (if zin x1 24 then (zb (F_R_defineOwn ((gA s 1 (x1).toNatClampNeg)) (x2) (x4) (x5) ((gI s 17)) ((gJ s 3)) (((x9 * (4200 : Int32)) + y0)) s) (fun v9 s10 => some (v9, s10))) else none)
def F_R_define_170 (x1 : Int32) (x2 : Int64) (x4 : Int32) (x5 : Int32) (x9 : Int32) (s : zSt) : Option (Int32 × zSt) := F_R_define_171    (x1) (x2) (x4) (x5) (x9) ((0 : Int32)) s
def F_R_define_143 (x1 : Int32) (x2 : Int64) (x4 : Int32) (x5 : Int32) (x7 : Int32) (y0 : Int32) (s : zSt) : Option (Int32 × zSt) := (zb (F_R_isTold (x4) ((8 : Int32)) s) (fun v7 s8 => (if v7 = 0 then F_R_define_170    (x1) (x2) (x4) (x5) (y0) s8 else (if x7 < 0 then F_R_define_170    (x1) (x2) (x4) (x5) (y0) s8 else (if zin x7 24 then F_R_define_171    (x1) (x2) (x4) (x5) (y0) ((gA s8 1 (x7).toNatClampNeg)) s8 else none)))))
def F_R_define_142 (x1 : Int32) (x2 : Int64) (x4 : Int32) (x5 : Int32) (x7 : Int32) (s : zSt) : Option (Int32 × zSt) := F_R_define_143    (x1) (x2) (x4) (x5) (x7) ((0 : Int32)) s
def F_R_define_110 (x1 : Int32) (x2 : Int64) (x4 : Int32) (x5 : Int32) (x6 : Int32) (x7 : Int32) (y0 : Int32) (s : zSt) : Option (Int32 × zSt) := (zb (F_R_says (y0) s) (fun v3 s4 => (if v3 = 0 then some ((0 : Int32), s4) else (zb (F_R_isTold (x4) ((4 : Int32)) s4) (fun v5 s6 => (if v5 = 0 then F_R_define_142    (x1) (x2) (x4) (x5) (x7) s6 else (if x6 < 0 then F_R_define_142    (x1) (x2) (x4) (x5) (x7) s6 else (if zin x6 24 then F_R_define_143    (x1) (x2) (x4) (x5) (x7) ((gA s6 1 (x6).toNatClampNeg)) s6 else none))))))))
def F_R_define_109 (x1 : Int32) (x2 : Int64) (x4 : Int32) (x5 : Int32) (x6 : Int32) (x7 : Int32) (s : zSt) : Option (Int32 × zSt) := F_R_define_110    (x1) (x2) (x4) (x5) (x6) (x7) ((0 : Int32)) s
def F_R_define_105 (x1 : Int32) (x2 : Int64) (x4 : Int32) (x5 : Int32) (x6 : Int32) (x7 : Int32) (s : zSt) : Option (Int32 × zSt) := F_R_define_110    (x1) (x2) (x4) (x5) (x6) (x7) ((1 : Int32)) s
def F_R_define_86 (x1 : Int32) (x2 : Int64) (x4 : Int32) (x5 : Int32) (x6 : Int32) (x7 : Int32) (s : zSt) : Option (Int32 × zSt) := (zb (F_R_isTold (x4) ((8 : Int32)) s) (fun v13 s14 => (if v13 = 0 then F_R_define_105    (x1) (x2) (x4) (x5) (x6) (x7) s14 else (zb (F_R_isPart (x7) s14) (fun v15 s16 => (if v15 = 0 then F_R_define_109    (x1) (x2) (x4) (x5) (x6) (x7) s16 else F_R_define_105    (x1) (x2) (x4) (x5) (x6) (x7) s16))))))
def F_R_define_60 (x1 : Int32) (x2 : Int64) (x4 : Int32) (x5 : Int32) (x6 : Int32) (x7 : Int32) (y0 : Int32) (s : zSt) : Option (Int32 × zSt) := (if y0 = 0 then F_R_define_109    (x1) (x2) (x4) (x5) (x6) (x7) s else (zb (F_R_isTold (x4) ((4 : Int32)) s) (fun v11 s12 => (if v11 = 0 then F_R_define_86    (x1) (x2) (x4) (x5) (x6) (x7) s12 else (zb (F_R_isPart (x6) s12) (fun v17 s18 => (if v17 = 0 then F_R_define_109    (x1) (x2) (x4) (x5) (x6) (x7) s18 else F_R_define_86    (x1) (x2) (x4) (x5) (x6) (x7) s18)))))))
def F_R_define_59 (x1 : Int32) (x2 : Int64) (x4 : Int32) (x5 : Int32) (x6 : Int32) (x7 : Int32) (s : zSt) : Option (Int32 × zSt) := F_R_define_60    (x1) (x2) (x4) (x5) (x6) (x7) ((0 : Int32)) s
def F_R_define_55 (x1 : Int32) (x2 : Int64) (x4 : Int32) (x5 : Int32) (x6 : Int32) (x7 : Int32) (s : zSt) : Option (Int32 × zSt) := F_R_define_60    (x1) (x2) (x4) (x5) (x6) (x7) ((1 : Int32)) s
def F_R_define_33 (x1 : Int32) (x2 : Int64) (x4 : Int32) (x5 : Int32) (x6 : Int32) (x7 : Int32) (y0 : Int32) (s : zSt) : Option (Int32 × zSt) := (if y0 = 0 then F_R_define_59    (x1) (x2) (x4) (x5) (x6) (x7) s else (if (x4 &&& (3 : Int32)) = 0 then F_R_define_55    (x1) (x2) (x4) (x5) (x6) (x7) s else (if (x4 &&& (12 : Int32)) = 0 then F_R_define_55    (x1) (x2) (x4) (x5) (x6) (x7) s else F_R_define_59    (x1) (x2) (x4) (x5) (x6) (x7) s)))
def F_R_define_32 (x1 : Int32) (x2 : Int64) (x4 : Int32) (x5 : Int32) (x6 : Int32) (x7 : Int32) (s : zSt) : Option (Int32 × zSt) := F_R_define_33    (x1) (x2) (x4) (x5) (x6) (x7) ((0 : Int32)) s
def F_R_define (p1 : Int32) (p2 : Int64) (p4 : Int32) (p5 : Int32) (p6 : Int32) (p7 : Int32) (s : zSt) : Option (Int32 × zSt) := (zb (F_R_holds (p1) s) (fun v1 s2 => (if v1 = 0 then F_R_define_32    (p1) (p2) (p4) (p5) (p6) (p7) s2 else (zb (F_R_isKey (p2) s2) (fun v19 s20 => (if v19 = 0 then F_R_define_32    (p1) (p2) (p4) (p5) (p6) (p7) s20 else (zb (F_R_in ((p4).toInt64) ((0 : Int64)) ((63 : Int64)) s20) (fun v21 s22 => (if v21 = 0 then F_R_define_32    (p1) (p2) (p4) (p5) (p6) (p7) s22 else F_R_define_33    (p1) (p2) (p4) (p5) (p6) (p7) ((1 : Int32)) s22)))))))))
theorem zJ_R_define_171 {X : zkX} (x1 : Int32) (x2 : Int64) (x4 : Int32) (x5 : Int32) (x9 : Int32) (y0 : Int32) (s : zSt) (r) (hF : F_R_define_171   x1 x2 x4 x5 x9 y0 s = some r) : zk_W X 5 m_R_define (171, [(0, .ref 7), (1, .int x1), (2, .long x2), (4, .int x4), (5, .int x5), (9, .int x9)], [.int y0], zHp s) (fun o => o = zoI r) := by
  unfold F_R_define_171 at hF
  refine zi_istore rfl rfl rfl ?_
  refine zi_aload_n rfl rfl ?_
  refine zi_aload_n rfl rfl ?_
  refine zi_getfield rfl rfl (zh_R _) rfl ?_
  refine zi_iload_n rfl rfl ?_
  obtain ⟨hb, hF⟩ := zf_g hF
  refine zi_iaload rfl (zr_A1 _ _) (zin_ok hb) ?_
  refine zi_lload_n rfl rfl ?_
  refine zi_iload rfl rfl ?_
  refine zi_iload rfl rfl ?_
  refine zi_aload_n rfl rfl ?_
  refine zi_getfield rfl rfl (zh_R _) rfl ?_
  refine zi_aload_n rfl rfl ?_
  refine zi_getfield rfl rfl (zh_R _) rfl ?_
  refine zi_iload rfl rfl ?_
  refine zi_sipush (v := (4200 : Int32)) rfl rfl ?_
  refine zi_imul rfl ?_
  refine zi_iload rfl rfl ?_
  refine zi_iadd rfl ?_
  obtain ⟨v9, s10, hm, hF⟩ := zf_b hF
  refine zi_callV rfl rfl rfl (zh_R _) rfl (zk_C.to (zk_C.up (by decide) (zF_R_defineOwn hm)) (fun o ho => zk_K.okv ho ?_))
  cases hF
  exact zi_ireturn rfl rfl rfl
theorem zJ_R_define_170 {X : zkX} (x1 : Int32) (x2 : Int64) (x4 : Int32) (x5 : Int32) (x9 : Int32) (s : zSt) (r) (hF : F_R_define_170   x1 x2 x4 x5 x9 s = some r) : zk_W X 5 m_R_define (170, [(0, .ref 7), (1, .int x1), (2, .long x2), (4, .int x4), (5, .int x5), (9, .int x9)], [], zHp s) (fun o => o = zoI r) := by
  unfold F_R_define_170 at hF
  refine zi_iconst (v := (0 : Int32)) rfl rfl ?_
  exact zk_sb (zJ_R_define_171   _ _ _ _ _ _ _ _ hF) rfl ⟨rfl, rfl, rfl, rfl, rfl, rfl, trivial⟩
theorem zJ_R_define_143 {X : zkX} (x1 : Int32) (x2 : Int64) (x4 : Int32) (x5 : Int32) (x7 : Int32) (y0 : Int32) (s : zSt) (r) (hF : F_R_define_143   x1 x2 x4 x5 x7 y0 s = some r) : zk_W X 5 m_R_define (143, [(0, .ref 7), (1, .int x1), (2, .long x2), (4, .int x4), (5, .int x5), (7, .int x7)], [.int y0], zHp s) (fun o => o = zoI r) := by
  unfold F_R_define_143 at hF
  refine zi_istore rfl rfl rfl ?_
  refine zi_iload rfl rfl ?_
  refine zi_bipush (v := (8 : Int32)) rfl rfl ?_
  obtain ⟨v7, s8, hm, hF⟩ := zf_b hF
  refine zi_callS rfl rfl rfl rfl (zk_C.to (zk_C.up (by decide) (zF_R_isTold hm)) (fun o ho => zk_K.okv ho ?_))
  refine zi_ifeq rfl (fun hc => ?_) (fun hc => ?_)
  · have hF := zf_p hc hF
    exact zk_sb (zJ_R_define_170   _ _ _ _ _ _ _ hF) rfl ⟨rfl, rfl, rfl, rfl, rfl, rfl, trivial⟩
  · have hF := zf_n hc hF
    refine zi_iload rfl rfl ?_
    refine zi_iflt rfl (fun hc => ?_) (fun hc => ?_)
    · have hF := zf_p hc hF
      exact zk_sb (zJ_R_define_170   _ _ _ _ _ _ _ hF) rfl ⟨rfl, rfl, rfl, rfl, rfl, rfl, trivial⟩
    · have hF := zf_n hc hF
      refine zi_aload_n rfl rfl ?_
      refine zi_getfield rfl rfl (zh_R _) rfl ?_
      refine zi_iload rfl rfl ?_
      obtain ⟨hb, hF⟩ := zf_g hF
      refine zi_iaload rfl (zr_A1 _ _) (zin_ok hb) ?_
      refine zi_goto rfl ?_
      exact zk_sb (zJ_R_define_171   _ _ _ _ _ _ _ _ hF) rfl ⟨rfl, rfl, rfl, rfl, rfl, rfl, trivial⟩
theorem zJ_R_define_142 {X : zkX} (x1 : Int32) (x2 : Int64) (x4 : Int32) (x5 : Int32) (x7 : Int32) (s : zSt) (r) (hF : F_R_define_142   x1 x2 x4 x5 x7 s = some r) : zk_W X 5 m_R_define (142, [(0, .ref 7), (1, .int x1), (2, .long x2), (4, .int x4), (5, .int x5), (7, .int x7)], [], zHp s) (fun o => o = zoI r) := by
  unfold F_R_define_142 at hF
  refine zi_iconst (v := (0 : Int32)) rfl rfl ?_
  exact zk_sb (zJ_R_define_143   _ _ _ _ _ _ _ _ hF) rfl ⟨rfl, rfl, rfl, rfl, rfl, rfl, trivial⟩
theorem zJ_R_define_110 {X : zkX} (x1 : Int32) (x2 : Int64) (x4 : Int32) (x5 : Int32) (x6 : Int32) (x7 : Int32) (y0 : Int32) (s : zSt) (r) (hF : F_R_define_110   x1 x2 x4 x5 x6 x7 y0 s = some r) : zk_W X 5 m_R_define (110, [(0, .ref 7), (1, .int x1), (2, .long x2), (4, .int x4), (5, .int x5), (6, .int x6), (7, .int x7)], [.int y0, .ref 7], zHp s) (fun o => o = zoI r) := by
  unfold F_R_define_110 at hF
  obtain ⟨v3, s4, hm, hF⟩ := zf_b hF
  refine zi_callV rfl rfl rfl (zh_R _) rfl (zk_C.to (zk_C.up (by decide) (zF_R_says hm)) (fun o ho => zk_K.okv ho ?_))
  refine zi_ifne rfl (fun hc => ?_) (fun hc => ?_)
  · have hF := zf_n hc hF
    refine zi_iload rfl rfl ?_
    refine zi_iconst (v := (4 : Int32)) rfl rfl ?_
    obtain ⟨v5, s6, hm, hF⟩ := zf_b hF
    refine zi_callS rfl rfl rfl rfl (zk_C.to (zk_C.up (by decide) (zF_R_isTold hm)) (fun o ho => zk_K.okv ho ?_))
    refine zi_ifeq rfl (fun hc => ?_) (fun hc => ?_)
    · have hF := zf_p hc hF
      exact zk_sb (zJ_R_define_142   _ _ _ _ _ _ _ hF) rfl ⟨rfl, rfl, rfl, rfl, rfl, rfl, trivial⟩
    · have hF := zf_n hc hF
      refine zi_iload rfl rfl ?_
      refine zi_iflt rfl (fun hc => ?_) (fun hc => ?_)
      · have hF := zf_p hc hF
        exact zk_sb (zJ_R_define_142   _ _ _ _ _ _ _ hF) rfl ⟨rfl, rfl, rfl, rfl, rfl, rfl, trivial⟩
      · have hF := zf_n hc hF
        refine zi_aload_n rfl rfl ?_
        refine zi_getfield rfl rfl (zh_R _) rfl ?_
        refine zi_iload rfl rfl ?_
        obtain ⟨hb, hF⟩ := zf_g hF
        refine zi_iaload rfl (zr_A1 _ _) (zin_ok hb) ?_
        refine zi_goto rfl ?_
        exact zk_sb (zJ_R_define_143   _ _ _ _ _ _ _ _ hF) rfl ⟨rfl, rfl, rfl, rfl, rfl, rfl, trivial⟩
  · have hF := zf_p hc hF
    refine zi_iconst (v := (0 : Int32)) rfl rfl ?_
    cases hF
    exact zi_ireturn rfl rfl rfl
theorem zJ_R_define_109 {X : zkX} (x1 : Int32) (x2 : Int64) (x4 : Int32) (x5 : Int32) (x6 : Int32) (x7 : Int32) (s : zSt) (r) (hF : F_R_define_109   x1 x2 x4 x5 x6 x7 s = some r) : zk_W X 5 m_R_define (109, [(0, .ref 7), (1, .int x1), (2, .long x2), (4, .int x4), (5, .int x5), (6, .int x6), (7, .int x7)], [.ref 7], zHp s) (fun o => o = zoI r) := by
  unfold F_R_define_109 at hF
  refine zi_iconst (v := (0 : Int32)) rfl rfl ?_
  exact zk_sb (zJ_R_define_110   _ _ _ _ _ _ _ _ _ hF) rfl ⟨rfl, rfl, rfl, rfl, rfl, rfl, rfl, trivial⟩
theorem zJ_R_define_105 {X : zkX} (x1 : Int32) (x2 : Int64) (x4 : Int32) (x5 : Int32) (x6 : Int32) (x7 : Int32) (s : zSt) (r) (hF : F_R_define_105   x1 x2 x4 x5 x6 x7 s = some r) : zk_W X 5 m_R_define (105, [(0, .ref 7), (1, .int x1), (2, .long x2), (4, .int x4), (5, .int x5), (6, .int x6), (7, .int x7)], [.ref 7], zHp s) (fun o => o = zoI r) := by
  unfold F_R_define_105 at hF
  refine zi_iconst (v := (1 : Int32)) rfl rfl ?_
  refine zi_goto rfl ?_
  exact zk_sb (zJ_R_define_110   _ _ _ _ _ _ _ _ _ hF) rfl ⟨rfl, rfl, rfl, rfl, rfl, rfl, rfl, trivial⟩
theorem zJ_R_define_86 {X : zkX} (x1 : Int32) (x2 : Int64) (x4 : Int32) (x5 : Int32) (x6 : Int32) (x7 : Int32) (s : zSt) (r) (hF : F_R_define_86   x1 x2 x4 x5 x6 x7 s = some r) : zk_W X 5 m_R_define (86, [(0, .ref 7), (1, .int x1), (2, .long x2), (4, .int x4), (5, .int x5), (6, .int x6), (7, .int x7)], [.ref 7], zHp s) (fun o => o = zoI r) := by
  unfold F_R_define_86 at hF
  refine zi_iload rfl rfl ?_
  refine zi_bipush (v := (8 : Int32)) rfl rfl ?_
  obtain ⟨v13, s14, hm, hF⟩ := zf_b hF
  refine zi_callS rfl rfl rfl rfl (zk_C.to (zk_C.up (by decide) (zF_R_isTold hm)) (fun o ho => zk_K.okv ho ?_))
  refine zi_ifeq rfl (fun hc => ?_) (fun hc => ?_)
  · have hF := zf_p hc hF
    exact zk_sb (zJ_R_define_105   _ _ _ _ _ _ _ _ hF) rfl ⟨rfl, rfl, rfl, rfl, rfl, rfl, rfl, trivial⟩
  · have hF := zf_n hc hF
    refine zi_aload_n rfl rfl ?_
    refine zi_iload rfl rfl ?_
    obtain ⟨v15, s16, hm, hF⟩ := zf_b hF
    refine zi_callV rfl rfl rfl (zh_R _) rfl (zk_C.to (zk_C.up (by decide) (zF_R_isPart hm)) (fun o ho => zk_K.okv ho ?_))
    refine zi_ifeq rfl (fun hc => ?_) (fun hc => ?_)
    · have hF := zf_p hc hF
      exact zk_sb (zJ_R_define_109   _ _ _ _ _ _ _ _ hF) rfl ⟨rfl, rfl, rfl, rfl, rfl, rfl, rfl, trivial⟩
    · have hF := zf_n hc hF
      exact zk_sb (zJ_R_define_105   _ _ _ _ _ _ _ _ hF) rfl ⟨rfl, rfl, rfl, rfl, rfl, rfl, rfl, trivial⟩
theorem zJ_R_define_60 {X : zkX} (x1 : Int32) (x2 : Int64) (x4 : Int32) (x5 : Int32) (x6 : Int32) (x7 : Int32) (y0 : Int32) (s : zSt) (r) (hF : F_R_define_60   x1 x2 x4 x5 x6 x7 y0 s = some r) : zk_W X 5 m_R_define (60, [(0, .ref 7), (1, .int x1), (2, .long x2), (4, .int x4), (5, .int x5), (6, .int x6), (7, .int x7)], [.int y0], zHp s) (fun o => o = zoI r) := by
  unfold F_R_define_60 at hF
  refine zi_istore rfl rfl rfl ?_
  refine zi_aload_n rfl rfl ?_
  refine zi_iload rfl rfl ?_
  refine zi_ifeq rfl (fun hc => ?_) (fun hc => ?_)
  · have hF := zf_p hc hF
    exact zk_sb (zJ_R_define_109   _ _ _ _ _ _ _ _ hF) rfl ⟨rfl, rfl, rfl, rfl, rfl, rfl, rfl, trivial⟩
  · have hF := zf_n hc hF
    refine zi_iload rfl rfl ?_
    refine zi_iconst (v := (4 : Int32)) rfl rfl ?_
    obtain ⟨v11, s12, hm, hF⟩ := zf_b hF
    refine zi_callS rfl rfl rfl rfl (zk_C.to (zk_C.up (by decide) (zF_R_isTold hm)) (fun o ho => zk_K.okv ho ?_))
    refine zi_ifeq rfl (fun hc => ?_) (fun hc => ?_)
    · have hF := zf_p hc hF
      exact zk_sb (zJ_R_define_86   _ _ _ _ _ _ _ _ hF) rfl ⟨rfl, rfl, rfl, rfl, rfl, rfl, rfl, trivial⟩
    · have hF := zf_n hc hF
      refine zi_aload_n rfl rfl ?_
      refine zi_iload rfl rfl ?_
      obtain ⟨v17, s18, hm, hF⟩ := zf_b hF
      refine zi_callV rfl rfl rfl (zh_R _) rfl (zk_C.to (zk_C.up (by decide) (zF_R_isPart hm)) (fun o ho => zk_K.okv ho ?_))
      refine zi_ifeq rfl (fun hc => ?_) (fun hc => ?_)
      · have hF := zf_p hc hF
        exact zk_sb (zJ_R_define_109   _ _ _ _ _ _ _ _ hF) rfl ⟨rfl, rfl, rfl, rfl, rfl, rfl, rfl, trivial⟩
      · have hF := zf_n hc hF
        exact zk_sb (zJ_R_define_86   _ _ _ _ _ _ _ _ hF) rfl ⟨rfl, rfl, rfl, rfl, rfl, rfl, rfl, trivial⟩
theorem zJ_R_define_59 {X : zkX} (x1 : Int32) (x2 : Int64) (x4 : Int32) (x5 : Int32) (x6 : Int32) (x7 : Int32) (s : zSt) (r) (hF : F_R_define_59   x1 x2 x4 x5 x6 x7 s = some r) : zk_W X 5 m_R_define (59, [(0, .ref 7), (1, .int x1), (2, .long x2), (4, .int x4), (5, .int x5), (6, .int x6), (7, .int x7)], [], zHp s) (fun o => o = zoI r) := by
  unfold F_R_define_59 at hF
  refine zi_iconst (v := (0 : Int32)) rfl rfl ?_
  exact zk_sb (zJ_R_define_60   _ _ _ _ _ _ _ _ _ hF) rfl ⟨rfl, rfl, rfl, rfl, rfl, rfl, rfl, trivial⟩
theorem zJ_R_define_55 {X : zkX} (x1 : Int32) (x2 : Int64) (x4 : Int32) (x5 : Int32) (x6 : Int32) (x7 : Int32) (s : zSt) (r) (hF : F_R_define_55   x1 x2 x4 x5 x6 x7 s = some r) : zk_W X 5 m_R_define (55, [(0, .ref 7), (1, .int x1), (2, .long x2), (4, .int x4), (5, .int x5), (6, .int x6), (7, .int x7)], [], zHp s) (fun o => o = zoI r) := by
  unfold F_R_define_55 at hF
  refine zi_iconst (v := (1 : Int32)) rfl rfl ?_
  refine zi_goto rfl ?_
  exact zk_sb (zJ_R_define_60   _ _ _ _ _ _ _ _ _ hF) rfl ⟨rfl, rfl, rfl, rfl, rfl, rfl, rfl, trivial⟩
theorem zJ_R_define_33 {X : zkX} (x1 : Int32) (x2 : Int64) (x4 : Int32) (x5 : Int32) (x6 : Int32) (x7 : Int32) (y0 : Int32) (s : zSt) (r) (hF : F_R_define_33   x1 x2 x4 x5 x6 x7 y0 s = some r) : zk_W X 5 m_R_define (33, [(0, .ref 7), (1, .int x1), (2, .long x2), (4, .int x4), (5, .int x5), (6, .int x6), (7, .int x7)], [.int y0], zHp s) (fun o => o = zoI r) := by
  unfold F_R_define_33 at hF
  refine zi_istore rfl rfl rfl ?_
  refine zi_iload rfl rfl ?_
  refine zi_ifeq rfl (fun hc => ?_) (fun hc => ?_)
  · have hF := zf_p hc hF
    exact zk_sb (zJ_R_define_59   _ _ _ _ _ _ _ _ hF) rfl ⟨rfl, rfl, rfl, rfl, rfl, rfl, rfl, trivial⟩
  · have hF := zf_n hc hF
    refine zi_iload rfl rfl ?_
    refine zi_iconst (v := (3 : Int32)) rfl rfl ?_
    refine zi_iand rfl ?_
    refine zi_ifeq rfl (fun hc => ?_) (fun hc => ?_)
    · have hF := zf_p hc hF
      exact zk_sb (zJ_R_define_55   _ _ _ _ _ _ _ _ hF) rfl ⟨rfl, rfl, rfl, rfl, rfl, rfl, rfl, trivial⟩
    · have hF := zf_n hc hF
      refine zi_iload rfl rfl ?_
      refine zi_bipush (v := (12 : Int32)) rfl rfl ?_
      refine zi_iand rfl ?_
      refine zi_ifne rfl (fun hc => ?_) (fun hc => ?_)
      · have hF := zf_n hc hF
        exact zk_sb (zJ_R_define_59   _ _ _ _ _ _ _ _ hF) rfl ⟨rfl, rfl, rfl, rfl, rfl, rfl, rfl, trivial⟩
      · have hF := zf_p hc hF
        exact zk_sb (zJ_R_define_55   _ _ _ _ _ _ _ _ hF) rfl ⟨rfl, rfl, rfl, rfl, rfl, rfl, rfl, trivial⟩
theorem zJ_R_define_32 {X : zkX} (x1 : Int32) (x2 : Int64) (x4 : Int32) (x5 : Int32) (x6 : Int32) (x7 : Int32) (s : zSt) (r) (hF : F_R_define_32   x1 x2 x4 x5 x6 x7 s = some r) : zk_W X 5 m_R_define (32, [(0, .ref 7), (1, .int x1), (2, .long x2), (4, .int x4), (5, .int x5), (6, .int x6), (7, .int x7)], [], zHp s) (fun o => o = zoI r) := by
  unfold F_R_define_32 at hF
  refine zi_iconst (v := (0 : Int32)) rfl rfl ?_
  exact zk_sb (zJ_R_define_33   _ _ _ _ _ _ _ _ _ hF) rfl ⟨rfl, rfl, rfl, rfl, rfl, rfl, rfl, trivial⟩
theorem zF_R_define {X : zkX} {p1 : Int32} {p2 : Int64} {p4 : Int32} {p5 : Int32} {p6 : Int32} {p7 : Int32} {s : zSt} {r} (hF : F_R_define p1 p2 p4 p5 p6 p7 s = some r) : zk_C X 6 m_R_define [.ref 7, .int p1, .long p2, .int p4, .int p5, .int p6, .int p7] (zHp s) (fun o => o = zoI r) := by
  unfold F_R_define at hF
  refine zk_enter (lv := [(0, .ref 7), (1, .int p1), (2, .long p2), (4, .int p4), (5, .int p5), (6, .int p6), (7, .int p7)]) rfl rfl ?_
  refine zi_aload_n rfl rfl ?_
  refine zi_iload_n rfl rfl ?_
  obtain ⟨v1, s2, hm, hF⟩ := zf_b hF
  refine zi_callV rfl rfl rfl (zh_R _) rfl (zk_C.to (zk_C.up (by decide) (zF_R_holds hm)) (fun o ho => zk_K.okv ho ?_))
  refine zi_ifeq rfl (fun hc => ?_) (fun hc => ?_)
  · have hF := zf_p hc hF
    exact zk_sb (zJ_R_define_32   _ _ _ _ _ _ _ _ hF) rfl ⟨rfl, rfl, rfl, rfl, rfl, rfl, rfl, trivial⟩
  · have hF := zf_n hc hF
    refine zi_lload_n rfl rfl ?_
    obtain ⟨v19, s20, hm, hF⟩ := zf_b hF
    refine zi_callS rfl rfl rfl rfl (zk_C.to (zk_C.up (by decide) (zF_R_isKey hm)) (fun o ho => zk_K.okv ho ?_))
    refine zi_ifeq rfl (fun hc => ?_) (fun hc => ?_)
    · have hF := zf_p hc hF
      exact zk_sb (zJ_R_define_32   _ _ _ _ _ _ _ _ hF) rfl ⟨rfl, rfl, rfl, rfl, rfl, rfl, rfl, trivial⟩
    · have hF := zf_n hc hF
      refine zi_iload rfl rfl ?_
      refine zi_i2l rfl ?_
      refine zi_lconst (v := (0 : Int64)) rfl rfl ?_
      refine zi_ldc2_w (v := (63 : Int64)) rfl rfl ?_
      obtain ⟨v21, s22, hm, hF⟩ := zf_b hF
      refine zi_callS rfl rfl rfl rfl (zk_C.to (zk_C.up (by decide) (zF_R_in hm)) (fun o ho => zk_K.okv ho ?_))
      refine zi_ifeq rfl (fun hc => ?_) (fun hc => ?_)
      · have hF := zf_p hc hF
        exact zk_sb (zJ_R_define_32   _ _ _ _ _ _ _ _ hF) rfl ⟨rfl, rfl, rfl, rfl, rfl, rfl, rfl, trivial⟩
      · have hF := zf_n hc hF
        refine zi_iconst (v := (1 : Int32)) rfl rfl ?_
        refine zi_goto rfl ?_
        exact zk_sb (zJ_R_define_33   _ _ _ _ _ _ _ _ _ hF) rfl ⟨rfl, rfl, rfl, rfl, rfl, rfl, rfl, trivial⟩
/-! m_R_lookUp -/
def F_R_lookUp_48 (x5 : Int32) (s : zSt) : Option (Int32 × zSt) := some (x5, s)
def F_R_lookUp_12  : Nat → Int64 → Int32 → Int32 → zSt → Option (Int32 × zSt)
  | 0, _, _, _, _ => none
  | n + 1, x2, x4, x5, s => (if 0 ≤ x5 then F_R_lookUp_48    (x5) s else (if zin x4 4200 then (if (gA s 2 (x4).toNatClampNeg) ≤ 0 then F_R_lookUp_48    (x5) s else (if zin x4 4200 then (zb (F_R_find ((gA s 2 (x4).toNatClampNeg)) (x2) s) (fun v3 s4 => F_R_lookUp_12  n (x2) ((gA s 2 (x4).toNatClampNeg)) (v3) s4)) else none)) else none))
def F_R_lookUp (p1 : Int32) (p2 : Int64) (s : zSt) : Option (Int32 × zSt) := (zb (F_R_find (p1) (p2) s) (fun v1 s2 => F_R_lookUp_12   zFuel (p2) (p1) (v1) s2))
theorem zJ_R_lookUp_48 {X : zkX} (x5 : Int32) (s : zSt) (r) (hF : F_R_lookUp_48   x5 s = some r) : zk_W X 1 m_R_lookUp (48, [(5, .int x5)], [], zHp s) (fun o => o = zoI r) := by
  unfold F_R_lookUp_48 at hF
  refine zi_iload rfl rfl ?_
  cases hF
  exact zi_ireturn rfl rfl rfl
theorem zJ_R_lookUp_12 {X : zkX} : ∀ (n : Nat) (x2 : Int64) (x4 : Int32) (x5 : Int32) (s : zSt) (r), F_R_lookUp_12   n x2 x4 x5 s = some r → zk_W X 1 m_R_lookUp (12, [(0, .ref 7), (2, .long x2), (4, .int x4), (5, .int x5)], [], zHp s) (fun o => o = zoI r) := by
  intro n
  induction n with
  | zero => intro x2 x4 x5 s r hF; cases hF
  | succ n ih =>
    intro x2 x4 x5 s r hF
    rw [F_R_lookUp_12] at hF
    refine zi_iload rfl rfl ?_
    refine zi_ifge rfl (fun hc => ?_) (fun hc => ?_)
    · have hF := zf_p hc hF
      exact zk_sb (zJ_R_lookUp_48   _ _ _ hF) rfl ⟨rfl, trivial⟩
    · have hF := zf_n hc hF
      refine zi_aload_n rfl rfl ?_
      refine zi_getfield rfl rfl (zh_R _) rfl ?_
      refine zi_iload rfl rfl ?_
      obtain ⟨hb, hF⟩ := zf_g hF
      refine zi_iaload rfl (zr_A2 _ _) (zin_ok hb) ?_
      refine zi_ifle rfl (fun hc => ?_) (fun hc => ?_)
      · have hF := zf_p hc hF
        exact zk_sb (zJ_R_lookUp_48   _ _ _ hF) rfl ⟨rfl, trivial⟩
      · have hF := zf_n hc hF
        refine zi_aload_n rfl rfl ?_
        refine zi_getfield rfl rfl (zh_R _) rfl ?_
        refine zi_iload rfl rfl ?_
        obtain ⟨hb, hF⟩ := zf_g hF
        refine zi_iaload rfl (zr_A2 _ _) (zin_ok hb) ?_
        refine zi_istore rfl rfl rfl ?_
        refine zi_aload_n rfl rfl ?_
        refine zi_iload rfl rfl ?_
        refine zi_lload_n rfl rfl ?_
        obtain ⟨v3, s4, hm, hF⟩ := zf_b hF
        refine zi_callV rfl rfl rfl (zh_R _) rfl (zk_C.to (zk_C.up (by decide) (zF_R_find hm)) (fun o ho => zk_K.okv ho ?_))
        refine zi_istore rfl rfl rfl ?_
        refine zi_goto rfl ?_
        exact zk_sb (ih _ _ _ _ _ hF) rfl ⟨rfl, rfl, rfl, rfl, trivial⟩
theorem zF_R_lookUp {X : zkX} {p1 : Int32} {p2 : Int64} {s : zSt} {r} (hF : F_R_lookUp p1 p2 s = some r) : zk_C X 2 m_R_lookUp [.ref 7, .int p1, .long p2] (zHp s) (fun o => o = zoI r) := by
  unfold F_R_lookUp at hF
  refine zk_enter (lv := [(0, .ref 7), (1, .int p1), (2, .long p2)]) rfl rfl ?_
  refine zi_iload_n rfl rfl ?_
  refine zi_istore rfl rfl rfl ?_
  refine zi_aload_n rfl rfl ?_
  refine zi_iload rfl rfl ?_
  refine zi_lload_n rfl rfl ?_
  obtain ⟨v1, s2, hm, hF⟩ := zf_b hF
  refine zi_callV rfl rfl rfl (zh_R _) rfl (zk_C.to (zk_C.up (by decide) (zF_R_find hm)) (fun o ho => zk_K.okv ho ?_))
  refine zi_istore rfl rfl rfl ?_
  exact zk_sb (zJ_R_lookUp_12  zFuel _ _ _ _ _ hF) rfl ⟨rfl, rfl, rfl, rfl, trivial⟩
/-! m_R_result -/
def F_R_result_21 (y0 : Int64) (s : zSt) : Option (Unit × zSt) := some ((), (sJ s 4 y0))
def F_R_result_16 (x2 : Int64) (s : zSt) : Option (Unit × zSt) := F_R_result_21    (x2) s
def F_R_result (p1 : Int32) (p2 : Int64) (s : zSt) : Option (Unit × zSt) := (if p1 = (4 : Int32) then F_R_result_16    (p2) (sI s 18 p1) else (if p1 = (5 : Int32) then F_R_result_16    (p2) (sI s 18 p1) else F_R_result_21    ((0 : Int64)) (sI s 18 p1)))
theorem zJ_R_result_21 {X : zkX} (y0 : Int64) (s : zSt) (r) (hF : F_R_result_21   y0 s = some r) : zk_W X 0 m_R_result (21, [], [.long y0, .ref 7], zHp s) (fun o => o = zoU r) := by
  unfold F_R_result_21 at hF
  refine zi_putfield rfl rfl (zh_R _) rfl rfl (zs_J4 _ _) ?_
  cases hF
  exact zi_return rfl rfl rfl
theorem zJ_R_result_16 {X : zkX} (x2 : Int64) (s : zSt) (r) (hF : F_R_result_16   x2 s = some r) : zk_W X 0 m_R_result (16, [(2, .long x2)], [.ref 7], zHp s) (fun o => o = zoU r) := by
  unfold F_R_result_16 at hF
  refine zi_lload_n rfl rfl ?_
  refine zi_goto rfl ?_
  exact zk_sb (zJ_R_result_21   _ _ _ hF) rfl trivial
theorem zF_R_result {X : zkX} {p1 : Int32} {p2 : Int64} {s : zSt} {r} (hF : F_R_result p1 p2 s = some r) : zk_C X 1 m_R_result [.ref 7, .int p1, .long p2] (zHp s) (fun o => o = zoU r) := by
  unfold F_R_result at hF
  refine zk_enter (lv := [(0, .ref 7), (1, .int p1), (2, .long p2)]) rfl rfl ?_
  refine zi_aload_n rfl rfl ?_
  refine zi_iload_n rfl rfl ?_
  refine zi_putfield rfl rfl (zh_R _) rfl rfl (zs_I18 _ _) ?_
  refine zi_aload_n rfl rfl ?_
  refine zi_iload_n rfl rfl ?_
  refine zi_iconst (v := (4 : Int32)) rfl rfl ?_
  refine zi_iceq rfl (fun hc => ?_) (fun hc => ?_)
  · have hF := zf_p hc hF
    exact zk_sb (zJ_R_result_16   _ _ _ hF) rfl ⟨rfl, trivial⟩
  · have hF := zf_n hc hF
    refine zi_iload_n rfl rfl ?_
    refine zi_iconst (v := (5 : Int32)) rfl rfl ?_
    refine zi_icne rfl (fun hc => ?_) (fun hc => ?_)
    · have hF := zf_n hc hF
      refine zi_lconst (v := (0 : Int64)) rfl rfl ?_
      exact zk_sb (zJ_R_result_21   _ _ _ hF) rfl trivial
    · have hF := zf_p hc hF
      exact zk_sb (zJ_R_result_16   _ _ _ hF) rfl ⟨rfl, trivial⟩
/-! m_R_get -/
def F_R_get_21 (x1 : Int32) (x2 : Int64) (y0 : Int32) (s : zSt) : Option (Int32 × zSt) := (zb (F_R_says (y0) s) (fun v3 s4 => (if v3 = 0 then some ((0 : Int32), s4) else (if zin x1 24 then (zb (F_R_lookUp ((gA s4 1 (x1).toNatClampNeg)) (x2) s4) (fun v5 s6 => (zb (F_R_result ((0 : Int32)) ((0 : Int64)) s6) (fun v7 s8 => (if 0 ≤ v5 then (zb (F_R_has_0 (v5) ((64 : Int32)) s8) (fun v9 s10 => (if v9 = 0 then (if zin v5 8400 then (if zin v5 8400 then (zb (F_R_result ((gA s10 8 (v5).toNatClampNeg)) ((gB s10 2 (v5).toNatClampNeg)) s10) (fun v13 s14 => some ((0 : Int32), s14))) else none) else none) else (if zin v5 8400 then (if (gA s10 9 (v5).toNatClampNeg) = 0 then some ((0 : Int32), s10) else (if zin v5 8400 then (zb (F_R_result ((5 : Int32)) (((gA s10 9 (v5).toNatClampNeg)).toInt64) s10) (fun v11 s12 => some ((1 : Int32), s12))) else none)) else none)))) else some ((0 : Int32), s8)))))) else none))))
def F_R_get_20 (x1 : Int32) (x2 : Int64) (s : zSt) : Option (Int32 × zSt) := F_R_get_21    (x1) (x2) ((0 : Int32)) s
def F_R_get (p1 : Int32) (p2 : Int64) (s : zSt) : Option (Int32 × zSt) := (zb (F_R_holds (p1) s) (fun v1 s2 => (if v1 = 0 then F_R_get_20    (p1) (p2) s2 else (zb (F_R_isKey (p2) s2) (fun v15 s16 => (if v15 = 0 then F_R_get_20    (p1) (p2) s16 else F_R_get_21    (p1) (p2) ((1 : Int32)) s16))))))
theorem zJ_R_get_21 {X : zkX} (x1 : Int32) (x2 : Int64) (y0 : Int32) (s : zSt) (r) (hF : F_R_get_21   x1 x2 y0 s = some r) : zk_W X 3 m_R_get (21, [(0, .ref 7), (1, .int x1), (2, .long x2)], [.int y0, .ref 7], zHp s) (fun o => o = zoI r) := by
  unfold F_R_get_21 at hF
  obtain ⟨v3, s4, hm, hF⟩ := zf_b hF
  refine zi_callV rfl rfl rfl (zh_R _) rfl (zk_C.to (zk_C.up (by decide) (zF_R_says hm)) (fun o ho => zk_K.okv ho ?_))
  refine zi_ifne rfl (fun hc => ?_) (fun hc => ?_)
  · have hF := zf_n hc hF
    refine zi_aload_n rfl rfl ?_
    refine zi_aload_n rfl rfl ?_
    refine zi_getfield rfl rfl (zh_R _) rfl ?_
    refine zi_iload_n rfl rfl ?_
    obtain ⟨hb, hF⟩ := zf_g hF
    refine zi_iaload rfl (zr_A1 _ _) (zin_ok hb) ?_
    refine zi_lload_n rfl rfl ?_
    obtain ⟨v5, s6, hm, hF⟩ := zf_b hF
    refine zi_callV rfl rfl rfl (zh_R _) rfl (zk_C.to (zk_C.up (by decide) (zF_R_lookUp hm)) (fun o ho => zk_K.okv ho ?_))
    refine zi_istore rfl rfl rfl ?_
    refine zi_aload_n rfl rfl ?_
    refine zi_iconst (v := (0 : Int32)) rfl rfl ?_
    refine zi_lconst (v := (0 : Int64)) rfl rfl ?_
    obtain ⟨v7, s8, hm, hF⟩ := zf_b hF
    refine zi_callV rfl rfl rfl (zh_R _) rfl (zk_C.to (zk_C.up (by decide) (zF_R_result hm)) (fun o ho => zk_K.okn ho ?_))
    refine zi_iload rfl rfl ?_
    refine zi_ifge rfl (fun hc => ?_) (fun hc => ?_)
    · have hF := zf_p hc hF
      refine zi_aload_n rfl rfl ?_
      refine zi_iload rfl rfl ?_
      refine zi_bipush (v := (64 : Int32)) rfl rfl ?_
      obtain ⟨v9, s10, hm, hF⟩ := zf_b hF
      refine zi_callV rfl rfl rfl (zh_R _) rfl (zk_C.to (zk_C.up (by decide) (zF_R_has_0 hm)) (fun o ho => zk_K.okv ho ?_))
      refine zi_ifne rfl (fun hc => ?_) (fun hc => ?_)
      · have hF := zf_n hc hF
        refine zi_aload_n rfl rfl ?_
        refine zi_getfield rfl rfl (zh_R _) rfl ?_
        refine zi_iload rfl rfl ?_
        obtain ⟨hb, hF⟩ := zf_g hF
        refine zi_iaload rfl (zr_A9 _ _) (zin_ok hb) ?_
        refine zi_ifne rfl (fun hc => ?_) (fun hc => ?_)
        · have hF := zf_n hc hF
          refine zi_aload_n rfl rfl ?_
          refine zi_iconst (v := (5 : Int32)) rfl rfl ?_
          refine zi_aload_n rfl rfl ?_
          refine zi_getfield rfl rfl (zh_R _) rfl ?_
          refine zi_iload rfl rfl ?_
          obtain ⟨hb, hF⟩ := zf_g hF
          refine zi_iaload rfl (zr_A9 _ _) (zin_ok hb) ?_
          refine zi_i2l rfl ?_
          obtain ⟨v11, s12, hm, hF⟩ := zf_b hF
          refine zi_callV rfl rfl rfl (zh_R _) rfl (zk_C.to (zk_C.up (by decide) (zF_R_result hm)) (fun o ho => zk_K.okn ho ?_))
          refine zi_iconst (v := (1 : Int32)) rfl rfl ?_
          cases hF
          exact zi_ireturn rfl rfl rfl
        · have hF := zf_p hc hF
          refine zi_iconst (v := (0 : Int32)) rfl rfl ?_
          cases hF
          exact zi_ireturn rfl rfl rfl
      · have hF := zf_p hc hF
        refine zi_aload_n rfl rfl ?_
        refine zi_aload_n rfl rfl ?_
        refine zi_getfield rfl rfl (zh_R _) rfl ?_
        refine zi_iload rfl rfl ?_
        obtain ⟨hb, hF⟩ := zf_g hF
        refine zi_iaload rfl (zr_A8 _ _) (zin_ok hb) ?_
        refine zi_aload_n rfl rfl ?_
        refine zi_getfield rfl rfl (zh_R _) rfl ?_
        refine zi_iload rfl rfl ?_
        obtain ⟨hb, hF⟩ := zf_g hF
        refine zi_laload rfl (zh_B2 _) (zin_ok hb) ?_
        obtain ⟨v13, s14, hm, hF⟩ := zf_b hF
        refine zi_callV rfl rfl rfl (zh_R _) rfl (zk_C.to (zk_C.up (by decide) (zF_R_result hm)) (fun o ho => zk_K.okn ho ?_))
        refine zi_iconst (v := (0 : Int32)) rfl rfl ?_
        cases hF
        exact zi_ireturn rfl rfl rfl
    · have hF := zf_n hc hF
      refine zi_iconst (v := (0 : Int32)) rfl rfl ?_
      cases hF
      exact zi_ireturn rfl rfl rfl
  · have hF := zf_p hc hF
    refine zi_iconst (v := (0 : Int32)) rfl rfl ?_
    cases hF
    exact zi_ireturn rfl rfl rfl
theorem zJ_R_get_20 {X : zkX} (x1 : Int32) (x2 : Int64) (s : zSt) (r) (hF : F_R_get_20   x1 x2 s = some r) : zk_W X 3 m_R_get (20, [(0, .ref 7), (1, .int x1), (2, .long x2)], [.ref 7], zHp s) (fun o => o = zoI r) := by
  unfold F_R_get_20 at hF
  refine zi_iconst (v := (0 : Int32)) rfl rfl ?_
  exact zk_sb (zJ_R_get_21   _ _ _ _ _ hF) rfl ⟨rfl, rfl, rfl, trivial⟩
theorem zF_R_get {X : zkX} {p1 : Int32} {p2 : Int64} {s : zSt} {r} (hF : F_R_get p1 p2 s = some r) : zk_C X 4 m_R_get [.ref 7, .int p1, .long p2] (zHp s) (fun o => o = zoI r) := by
  unfold F_R_get at hF
  refine zk_enter (lv := [(0, .ref 7), (1, .int p1), (2, .long p2)]) rfl rfl ?_
  refine zi_aload_n rfl rfl ?_
  refine zi_aload_n rfl rfl ?_
  refine zi_iload_n rfl rfl ?_
  obtain ⟨v1, s2, hm, hF⟩ := zf_b hF
  refine zi_callV rfl rfl rfl (zh_R _) rfl (zk_C.to (zk_C.up (by decide) (zF_R_holds hm)) (fun o ho => zk_K.okv ho ?_))
  refine zi_ifeq rfl (fun hc => ?_) (fun hc => ?_)
  · have hF := zf_p hc hF
    exact zk_sb (zJ_R_get_20   _ _ _ _ hF) rfl ⟨rfl, rfl, rfl, trivial⟩
  · have hF := zf_n hc hF
    refine zi_lload_n rfl rfl ?_
    obtain ⟨v15, s16, hm, hF⟩ := zf_b hF
    refine zi_callS rfl rfl rfl rfl (zk_C.to (zk_C.up (by decide) (zF_R_isKey hm)) (fun o ho => zk_K.okv ho ?_))
    refine zi_ifeq rfl (fun hc => ?_) (fun hc => ?_)
    · have hF := zf_p hc hF
      exact zk_sb (zJ_R_get_20   _ _ _ _ hF) rfl ⟨rfl, rfl, rfl, trivial⟩
    · have hF := zf_n hc hF
      refine zi_iconst (v := (1 : Int32)) rfl rfl ?_
      refine zi_goto rfl ?_
      exact zk_sb (zJ_R_get_21   _ _ _ _ _ hF) rfl ⟨rfl, rfl, rfl, trivial⟩
/-! m_R_put_1 -/
def F_R_put_1_158 (x2 : Int64) (x4 : Int32) (x6 : Int32) (s : zSt) : Option (Int32 × zSt) := (if x6 = 0 then (zb (F_R_defineOwn (x4) (x2) ((51 : Int32)) ((50 : Int32)) ((gI s 17)) ((gJ s 3)) ((0 : Int32)) s) (fun v11 s12 => some (v11, s12))) else (zb (F_R_defineOwn (x4) (x2) ((1 : Int32)) ((0 : Int32)) ((gI s 17)) ((gJ s 3)) ((0 : Int32)) s) (fun v13 s14 => some (v13, s14))))
def F_R_put_1_156  (s : zSt) : Option (Int32 × zSt) := some ((2 : Int32), s)
def F_R_put_1_141 (x2 : Int64) (x4 : Int32) (x6 : Int32) (s : zSt) : Option (Int32 × zSt) := (if x6 = 0 then (if zin x4 4200 then (if (gA s 4 (x4).toNatClampNeg) = 0 then F_R_put_1_158    (x2) (x4) (x6) s else F_R_put_1_156     s) else none) else F_R_put_1_158    (x2) (x4) (x6) s)
def F_R_put_1_126 (x2 : Int64) (x4 : Int32) (x5 : Int32) (x6 : Int32) (s : zSt) : Option (Int32 × zSt) := (if x5 < 0 then F_R_put_1_141    (x2) (x4) (x6) s else (zb (F_R_has_0 (x5) ((2 : Int32)) s) (fun v15 s16 => (if v15 = 0 then F_R_put_1_156     s16 else F_R_put_1_141    (x2) (x4) (x6) s16))))
def F_R_put_1_75 (x2 : Int64) (x4 : Int32) (x6 : Int32) (y0 : Int32) (s : zSt) : Option (Int32 × zSt) := (zb (F_R_result ((0 : Int32)) ((0 : Int64)) s) (fun v9 s10 => (if y0 < 0 then F_R_put_1_126    (x2) (x4) (y0) (x6) s10 else (zb (F_R_has_0 (y0) ((64 : Int32)) s10) (fun v17 s18 => (if v17 = 0 then F_R_put_1_126    (x2) (x4) (y0) (x6) s18 else (if zin y0 8400 then (if (gA s18 10 (y0).toNatClampNeg) = 0 then some ((2 : Int32), s18) else (if zin y0 8400 then (zb (F_R_result ((5 : Int32)) (((gA s18 10 (y0).toNatClampNeg)).toInt64) s18) (fun v19 s20 => some ((1 : Int32), s20))) else none)) else none)))))))
def F_R_put_1_56 (x2 : Int64) (x4 : Int32) (x5 : Int32) (y0 : Int32) (s : zSt) : Option (Int32 × zSt) := (if y0 = 0 then (zb (F_R_lookUp (x4) (x2) s) (fun v7 s8 => F_R_put_1_75    (x2) (x4) (y0) (v7) s8)) else F_R_put_1_75    (x2) (x4) (y0) (x5) s)
def F_R_put_1_21 (x1 : Int32) (x2 : Int64) (y0 : Int32) (s : zSt) : Option (Int32 × zSt) := (zb (F_R_says (y0) s) (fun v3 s4 => (if v3 = 0 then some ((0 : Int32), s4) else (if zin x1 24 then (zb (F_R_find ((gA s4 1 (x1).toNatClampNeg)) (x2) s4) (fun v5 s6 => (if v5 < 0 then F_R_put_1_56    (x2) ((gA s4 1 (x1).toNatClampNeg)) (v5) ((0 : Int32)) s6 else F_R_put_1_56    (x2) ((gA s4 1 (x1).toNatClampNeg)) (v5) ((1 : Int32)) s6))) else none))))
def F_R_put_1_20 (x1 : Int32) (x2 : Int64) (s : zSt) : Option (Int32 × zSt) := F_R_put_1_21    (x1) (x2) ((0 : Int32)) s
def F_R_put_1 (p1 : Int32) (p2 : Int64) (s : zSt) : Option (Int32 × zSt) := (zb (F_R_holds (p1) s) (fun v1 s2 => (if v1 = 0 then F_R_put_1_20    (p1) (p2) s2 else (zb (F_R_isKey (p2) s2) (fun v21 s22 => (if v21 = 0 then F_R_put_1_20    (p1) (p2) s22 else F_R_put_1_21    (p1) (p2) ((1 : Int32)) s22))))))
theorem zJ_R_put_1_158 {X : zkX} (x2 : Int64) (x4 : Int32) (x6 : Int32) (s : zSt) (r) (hF : F_R_put_1_158   x2 x4 x6 s = some r) : zk_W X 5 m_R_put_1 (158, [(0, .ref 7), (2, .long x2), (4, .int x4), (6, .int x6)], [], zHp s) (fun o => o = zoI r) := by
  unfold F_R_put_1_158 at hF
  refine zi_iload rfl rfl ?_
  refine zi_ifeq rfl (fun hc => ?_) (fun hc => ?_)
  · have hF := zf_p hc hF
    refine zi_aload_n rfl rfl ?_
    refine zi_iload rfl rfl ?_
    refine zi_lload_n rfl rfl ?_
    refine zi_bipush (v := (51 : Int32)) rfl rfl ?_
    refine zi_bipush (v := (50 : Int32)) rfl rfl ?_
    refine zi_aload_n rfl rfl ?_
    refine zi_getfield rfl rfl (zh_R _) rfl ?_
    refine zi_aload_n rfl rfl ?_
    refine zi_getfield rfl rfl (zh_R _) rfl ?_
    refine zi_iconst (v := (0 : Int32)) rfl rfl ?_
    obtain ⟨v11, s12, hm, hF⟩ := zf_b hF
    refine zi_callV rfl rfl rfl (zh_R _) rfl (zk_C.to (zk_C.up (by decide) (zF_R_defineOwn hm)) (fun o ho => zk_K.okv ho ?_))
    cases hF
    exact zi_ireturn rfl rfl rfl
  · have hF := zf_n hc hF
    refine zi_aload_n rfl rfl ?_
    refine zi_iload rfl rfl ?_
    refine zi_lload_n rfl rfl ?_
    refine zi_iconst (v := (1 : Int32)) rfl rfl ?_
    refine zi_iconst (v := (0 : Int32)) rfl rfl ?_
    refine zi_aload_n rfl rfl ?_
    refine zi_getfield rfl rfl (zh_R _) rfl ?_
    refine zi_aload_n rfl rfl ?_
    refine zi_getfield rfl rfl (zh_R _) rfl ?_
    refine zi_iconst (v := (0 : Int32)) rfl rfl ?_
    obtain ⟨v13, s14, hm, hF⟩ := zf_b hF
    refine zi_callV rfl rfl rfl (zh_R _) rfl (zk_C.to (zk_C.up (by decide) (zF_R_defineOwn hm)) (fun o ho => zk_K.okv ho ?_))
    cases hF
    exact zi_ireturn rfl rfl rfl
theorem zJ_R_put_1_156 {X : zkX}  (s : zSt) (r) (hF : F_R_put_1_156    s = some r) : zk_W X 5 m_R_put_1 (156, [], [], zHp s) (fun o => o = zoI r) := by
  unfold F_R_put_1_156 at hF
  refine zi_iconst (v := (2 : Int32)) rfl rfl ?_
  cases hF
  exact zi_ireturn rfl rfl rfl
theorem zJ_R_put_1_141 {X : zkX} (x2 : Int64) (x4 : Int32) (x6 : Int32) (s : zSt) (r) (hF : F_R_put_1_141   x2 x4 x6 s = some r) : zk_W X 5 m_R_put_1 (141, [(0, .ref 7), (2, .long x2), (4, .int x4), (6, .int x6)], [], zHp s) (fun o => o = zoI r) := by
  unfold F_R_put_1_141 at hF
  refine zi_iload rfl rfl ?_
  refine zi_ifne rfl (fun hc => ?_) (fun hc => ?_)
  · have hF := zf_n hc hF
    exact zk_sb (zJ_R_put_1_158   _ _ _ _ _ hF) rfl ⟨rfl, rfl, rfl, rfl, trivial⟩
  · have hF := zf_p hc hF
    refine zi_aload_n rfl rfl ?_
    refine zi_getfield rfl rfl (zh_R _) rfl ?_
    refine zi_iload rfl rfl ?_
    obtain ⟨hb, hF⟩ := zf_g hF
    refine zi_baload rfl (zh_A4 _) (zin_ok hb) ?_
    refine zi_ifeq rfl (fun hc => ?_) (fun hc => ?_)
    · have hF := zf_p hc hF
      exact zk_sb (zJ_R_put_1_158   _ _ _ _ _ hF) rfl ⟨rfl, rfl, rfl, rfl, trivial⟩
    · have hF := zf_n hc hF
      exact zk_sb (zJ_R_put_1_156    _ _ hF) rfl trivial
theorem zJ_R_put_1_126 {X : zkX} (x2 : Int64) (x4 : Int32) (x5 : Int32) (x6 : Int32) (s : zSt) (r) (hF : F_R_put_1_126   x2 x4 x5 x6 s = some r) : zk_W X 5 m_R_put_1 (126, [(0, .ref 7), (2, .long x2), (4, .int x4), (5, .int x5), (6, .int x6)], [], zHp s) (fun o => o = zoI r) := by
  unfold F_R_put_1_126 at hF
  refine zi_iload rfl rfl ?_
  refine zi_iflt rfl (fun hc => ?_) (fun hc => ?_)
  · have hF := zf_p hc hF
    exact zk_sb (zJ_R_put_1_141   _ _ _ _ _ hF) rfl ⟨rfl, rfl, rfl, rfl, trivial⟩
  · have hF := zf_n hc hF
    refine zi_aload_n rfl rfl ?_
    refine zi_iload rfl rfl ?_
    refine zi_iconst (v := (2 : Int32)) rfl rfl ?_
    obtain ⟨v15, s16, hm, hF⟩ := zf_b hF
    refine zi_callV rfl rfl rfl (zh_R _) rfl (zk_C.to (zk_C.up (by decide) (zF_R_has_0 hm)) (fun o ho => zk_K.okv ho ?_))
    refine zi_ifeq rfl (fun hc => ?_) (fun hc => ?_)
    · have hF := zf_p hc hF
      exact zk_sb (zJ_R_put_1_156    _ _ hF) rfl trivial
    · have hF := zf_n hc hF
      exact zk_sb (zJ_R_put_1_141   _ _ _ _ _ hF) rfl ⟨rfl, rfl, rfl, rfl, trivial⟩
theorem zJ_R_put_1_75 {X : zkX} (x2 : Int64) (x4 : Int32) (x6 : Int32) (y0 : Int32) (s : zSt) (r) (hF : F_R_put_1_75   x2 x4 x6 y0 s = some r) : zk_W X 5 m_R_put_1 (75, [(0, .ref 7), (2, .long x2), (4, .int x4), (6, .int x6)], [.int y0], zHp s) (fun o => o = zoI r) := by
  unfold F_R_put_1_75 at hF
  refine zi_istore rfl rfl rfl ?_
  refine zi_aload_n rfl rfl ?_
  refine zi_iconst (v := (0 : Int32)) rfl rfl ?_
  refine zi_lconst (v := (0 : Int64)) rfl rfl ?_
  obtain ⟨v9, s10, hm, hF⟩ := zf_b hF
  refine zi_callV rfl rfl rfl (zh_R _) rfl (zk_C.to (zk_C.up (by decide) (zF_R_result hm)) (fun o ho => zk_K.okn ho ?_))
  refine zi_iload rfl rfl ?_
  refine zi_iflt rfl (fun hc => ?_) (fun hc => ?_)
  · have hF := zf_p hc hF
    exact zk_sb (zJ_R_put_1_126   _ _ _ _ _ _ hF) rfl ⟨rfl, rfl, rfl, rfl, rfl, trivial⟩
  · have hF := zf_n hc hF
    refine zi_aload_n rfl rfl ?_
    refine zi_iload rfl rfl ?_
    refine zi_bipush (v := (64 : Int32)) rfl rfl ?_
    obtain ⟨v17, s18, hm, hF⟩ := zf_b hF
    refine zi_callV rfl rfl rfl (zh_R _) rfl (zk_C.to (zk_C.up (by decide) (zF_R_has_0 hm)) (fun o ho => zk_K.okv ho ?_))
    refine zi_ifeq rfl (fun hc => ?_) (fun hc => ?_)
    · have hF := zf_p hc hF
      exact zk_sb (zJ_R_put_1_126   _ _ _ _ _ _ hF) rfl ⟨rfl, rfl, rfl, rfl, rfl, trivial⟩
    · have hF := zf_n hc hF
      refine zi_aload_n rfl rfl ?_
      refine zi_getfield rfl rfl (zh_R _) rfl ?_
      refine zi_iload rfl rfl ?_
      obtain ⟨hb, hF⟩ := zf_g hF
      refine zi_iaload rfl (zr_A10 _ _) (zin_ok hb) ?_
      refine zi_ifne rfl (fun hc => ?_) (fun hc => ?_)
      · have hF := zf_n hc hF
        refine zi_aload_n rfl rfl ?_
        refine zi_iconst (v := (5 : Int32)) rfl rfl ?_
        refine zi_aload_n rfl rfl ?_
        refine zi_getfield rfl rfl (zh_R _) rfl ?_
        refine zi_iload rfl rfl ?_
        obtain ⟨hb, hF⟩ := zf_g hF
        refine zi_iaload rfl (zr_A10 _ _) (zin_ok hb) ?_
        refine zi_i2l rfl ?_
        obtain ⟨v19, s20, hm, hF⟩ := zf_b hF
        refine zi_callV rfl rfl rfl (zh_R _) rfl (zk_C.to (zk_C.up (by decide) (zF_R_result hm)) (fun o ho => zk_K.okn ho ?_))
        refine zi_iconst (v := (1 : Int32)) rfl rfl ?_
        cases hF
        exact zi_ireturn rfl rfl rfl
      · have hF := zf_p hc hF
        refine zi_iconst (v := (2 : Int32)) rfl rfl ?_
        cases hF
        exact zi_ireturn rfl rfl rfl
theorem zJ_R_put_1_56 {X : zkX} (x2 : Int64) (x4 : Int32) (x5 : Int32) (y0 : Int32) (s : zSt) (r) (hF : F_R_put_1_56   x2 x4 x5 y0 s = some r) : zk_W X 5 m_R_put_1 (56, [(0, .ref 7), (2, .long x2), (4, .int x4), (5, .int x5)], [.int y0], zHp s) (fun o => o = zoI r) := by
  unfold F_R_put_1_56 at hF
  refine zi_istore rfl rfl rfl ?_
  refine zi_iload rfl rfl ?_
  refine zi_ifeq rfl (fun hc => ?_) (fun hc => ?_)
  · have hF := zf_p hc hF
    refine zi_aload_n rfl rfl ?_
    refine zi_iload rfl rfl ?_
    refine zi_lload_n rfl rfl ?_
    obtain ⟨v7, s8, hm, hF⟩ := zf_b hF
    refine zi_callV rfl rfl rfl (zh_R _) rfl (zk_C.to (zk_C.up (by decide) (zF_R_lookUp hm)) (fun o ho => zk_K.okv ho ?_))
    exact zk_sb (zJ_R_put_1_75   _ _ _ _ _ _ hF) rfl ⟨rfl, rfl, rfl, rfl, trivial⟩
  · have hF := zf_n hc hF
    refine zi_iload rfl rfl ?_
    refine zi_goto rfl ?_
    exact zk_sb (zJ_R_put_1_75   _ _ _ _ _ _ hF) rfl ⟨rfl, rfl, rfl, rfl, trivial⟩
theorem zJ_R_put_1_21 {X : zkX} (x1 : Int32) (x2 : Int64) (y0 : Int32) (s : zSt) (r) (hF : F_R_put_1_21   x1 x2 y0 s = some r) : zk_W X 5 m_R_put_1 (21, [(0, .ref 7), (1, .int x1), (2, .long x2)], [.int y0, .ref 7], zHp s) (fun o => o = zoI r) := by
  unfold F_R_put_1_21 at hF
  obtain ⟨v3, s4, hm, hF⟩ := zf_b hF
  refine zi_callV rfl rfl rfl (zh_R _) rfl (zk_C.to (zk_C.up (by decide) (zF_R_says hm)) (fun o ho => zk_K.okv ho ?_))
  refine zi_ifne rfl (fun hc => ?_) (fun hc => ?_)
  · have hF := zf_n hc hF
    refine zi_aload_n rfl rfl ?_
    refine zi_getfield rfl rfl (zh_R _) rfl ?_
    refine zi_iload_n rfl rfl ?_
    obtain ⟨hb, hF⟩ := zf_g hF
    refine zi_iaload rfl (zr_A1 _ _) (zin_ok hb) ?_
    refine zi_istore rfl rfl rfl ?_
    refine zi_aload_n rfl rfl ?_
    refine zi_iload rfl rfl ?_
    refine zi_lload_n rfl rfl ?_
    obtain ⟨v5, s6, hm, hF⟩ := zf_b hF
    refine zi_callV rfl rfl rfl (zh_R _) rfl (zk_C.to (zk_C.up (by decide) (zF_R_find hm)) (fun o ho => zk_K.okv ho ?_))
    refine zi_istore rfl rfl rfl ?_
    refine zi_iload rfl rfl ?_
    refine zi_iflt rfl (fun hc => ?_) (fun hc => ?_)
    · have hF := zf_p hc hF
      refine zi_iconst (v := (0 : Int32)) rfl rfl ?_
      exact zk_sb (zJ_R_put_1_56   _ _ _ _ _ _ hF) rfl ⟨rfl, rfl, rfl, rfl, trivial⟩
    · have hF := zf_n hc hF
      refine zi_iconst (v := (1 : Int32)) rfl rfl ?_
      refine zi_goto rfl ?_
      exact zk_sb (zJ_R_put_1_56   _ _ _ _ _ _ hF) rfl ⟨rfl, rfl, rfl, rfl, trivial⟩
  · have hF := zf_p hc hF
    refine zi_iconst (v := (0 : Int32)) rfl rfl ?_
    cases hF
    exact zi_ireturn rfl rfl rfl
theorem zJ_R_put_1_20 {X : zkX} (x1 : Int32) (x2 : Int64) (s : zSt) (r) (hF : F_R_put_1_20   x1 x2 s = some r) : zk_W X 5 m_R_put_1 (20, [(0, .ref 7), (1, .int x1), (2, .long x2)], [.ref 7], zHp s) (fun o => o = zoI r) := by
  unfold F_R_put_1_20 at hF
  refine zi_iconst (v := (0 : Int32)) rfl rfl ?_
  exact zk_sb (zJ_R_put_1_21   _ _ _ _ _ hF) rfl ⟨rfl, rfl, rfl, trivial⟩
theorem zF_R_put_1 {X : zkX} {p1 : Int32} {p2 : Int64} {s : zSt} {r} (hF : F_R_put_1 p1 p2 s = some r) : zk_C X 6 m_R_put_1 [.ref 7, .int p1, .long p2] (zHp s) (fun o => o = zoI r) := by
  unfold F_R_put_1 at hF
  refine zk_enter (lv := [(0, .ref 7), (1, .int p1), (2, .long p2)]) rfl rfl ?_
  refine zi_aload_n rfl rfl ?_
  refine zi_aload_n rfl rfl ?_
  refine zi_iload_n rfl rfl ?_
  obtain ⟨v1, s2, hm, hF⟩ := zf_b hF
  refine zi_callV rfl rfl rfl (zh_R _) rfl (zk_C.to (zk_C.up (by decide) (zF_R_holds hm)) (fun o ho => zk_K.okv ho ?_))
  refine zi_ifeq rfl (fun hc => ?_) (fun hc => ?_)
  · have hF := zf_p hc hF
    exact zk_sb (zJ_R_put_1_20   _ _ _ _ hF) rfl ⟨rfl, rfl, rfl, trivial⟩
  · have hF := zf_n hc hF
    refine zi_lload_n rfl rfl ?_
    obtain ⟨v21, s22, hm, hF⟩ := zf_b hF
    refine zi_callS rfl rfl rfl rfl (zk_C.to (zk_C.up (by decide) (zF_R_isKey hm)) (fun o ho => zk_K.okv ho ?_))
    refine zi_ifeq rfl (fun hc => ?_) (fun hc => ?_)
    · have hF := zf_p hc hF
      exact zk_sb (zJ_R_put_1_20   _ _ _ _ hF) rfl ⟨rfl, rfl, rfl, trivial⟩
    · have hF := zf_n hc hF
      refine zi_iconst (v := (1 : Int32)) rfl rfl ?_
      refine zi_goto rfl ?_
      exact zk_sb (zJ_R_put_1_21   _ _ _ _ _ hF) rfl ⟨rfl, rfl, rfl, trivial⟩

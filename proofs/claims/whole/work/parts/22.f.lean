/-! m_R_own -/
def F_R_own_110 (x4 : Int32) (s : zSt) : Option (Int32 × zSt) := (if zin x4 8400 then some ((gA s 7 (x4).toNatClampNeg), s) else none)
def F_R_own_21 (x1 : Int32) (x2 : Int64) (y0 : Int32) (s : zSt) : Option (Int32 × zSt) := (zb (F_R_says (y0) s) (fun v3 s4 => (if v3 = 0 then some ((0 : Int32), s4) else (if zin x1 24 then (zb (F_R_find ((gA s4 1 (x1).toNatClampNeg)) (x2) s4) (fun v5 s6 => (zb (F_R_result ((0 : Int32)) ((0 : Int64)) s6) (fun v7 s8 => (if 0 ≤ v5 then (zb (F_R_has_0 (v5) ((64 : Int32)) s8) (fun v9 s10 => (if v9 = 0 then (if zin v5 8400 then (if zin v5 8400 then (zb (F_R_result ((gA s10 8 (v5).toNatClampNeg)) ((gB s10 2 (v5).toNatClampNeg)) s10) (fun v13 s14 => F_R_own_110    (v5) s14)) else none) else none) else (if zin v5 8400 then (if (gA s10 9 (v5).toNatClampNeg) ≤ 0 then F_R_own_110    (v5) s10 else (if zin v5 8400 then (zb (F_R_result ((5 : Int32)) (((gA s10 9 (v5).toNatClampNeg)).toInt64) s10) (fun v11 s12 => F_R_own_110    (v5) s12)) else none)) else none)))) else some ((-1 : Int32), s8)))))) else none))))
def F_R_own_20 (x1 : Int32) (x2 : Int64) (s : zSt) : Option (Int32 × zSt) := F_R_own_21    (x1) (x2) ((0 : Int32)) s
def F_R_own (p1 : Int32) (p2 : Int64) (s : zSt) : Option (Int32 × zSt) := (zb (F_R_holds (p1) s) (fun v1 s2 => (if v1 = 0 then F_R_own_20    (p1) (p2) s2 else (zb (F_R_isKey (p2) s2) (fun v15 s16 => (if v15 = 0 then F_R_own_20    (p1) (p2) s16 else F_R_own_21    (p1) (p2) ((1 : Int32)) s16))))))
theorem zJ_R_own_110 {X : zkX} (x4 : Int32) (s : zSt) (r) (hF : F_R_own_110   x4 s = some r) : zk_W X 3 m_R_own (110, [(0, .ref 7), (4, .int x4)], [], zHp s) (fun o => o = zoI r) := by
  unfold F_R_own_110 at hF
  refine zi_aload_n rfl rfl ?_
  refine zi_getfield rfl rfl (zh_R _) rfl ?_
  refine zi_iload rfl rfl ?_
  obtain ⟨hb, hF⟩ := zf_g hF
  refine zi_iaload rfl (zr_A7 _ _) (zin_ok hb) ?_
  cases hF
  exact zi_ireturn rfl rfl rfl
theorem zJ_R_own_21 {X : zkX} (x1 : Int32) (x2 : Int64) (y0 : Int32) (s : zSt) (r) (hF : F_R_own_21   x1 x2 y0 s = some r) : zk_W X 3 m_R_own (21, [(0, .ref 7), (1, .int x1), (2, .long x2)], [.int y0, .ref 7], zHp s) (fun o => o = zoI r) := by
  unfold F_R_own_21 at hF
  obtain ⟨v3, s4, hm, hF⟩ := zf_b hF
  refine zi_callV rfl rfl rfl (zh_R _) rfl (zk_C.to (zk_C.up (by decide) (zF_R_says hm)) (fun o ho => zk_K.okv ho ?_))
  refine zi_ifne rfl (fun hc => ?_) (fun hc => ?_)
  · have hF := zf_n hc hF
    refine zi_aload_n rfl rfl ?_
    refine zi_aload_n rfl rfl ?_
    refine zi_getfield rfl rfl (zh_R _) rfl ?_
    refine zi_iload_n rfl rfl ?_
    obtain ⟨hb, hF⟩ := zf_g hF
    refine zi_iaload rfl (zr_A1 _ _) (zin_ok hb) ?_
    refine zi_lload_n rfl rfl ?_
    obtain ⟨v5, s6, hm, hF⟩ := zf_b hF
    refine zi_callV rfl rfl rfl (zh_R _) rfl (zk_C.to (zk_C.up (by decide) (zF_R_find hm)) (fun o ho => zk_K.okv ho ?_))
    refine zi_istore rfl rfl rfl ?_
    refine zi_aload_n rfl rfl ?_
    refine zi_iconst (v := (0 : Int32)) rfl rfl ?_
    refine zi_lconst (v := (0 : Int64)) rfl rfl ?_
    obtain ⟨v7, s8, hm, hF⟩ := zf_b hF
    refine zi_callV rfl rfl rfl (zh_R _) rfl (zk_C.to (zk_C.up (by decide) (zF_R_result hm)) (fun o ho => zk_K.okn ho ?_))
    refine zi_iload rfl rfl ?_
    refine zi_ifge rfl (fun hc => ?_) (fun hc => ?_)
    · have hF := zf_p hc hF
      refine zi_aload_n rfl rfl ?_
      refine zi_iload rfl rfl ?_
      refine zi_bipush (v := (64 : Int32)) rfl rfl ?_
      obtain ⟨v9, s10, hm, hF⟩ := zf_b hF
      refine zi_callV rfl rfl rfl (zh_R _) rfl (zk_C.to (zk_C.up (by decide) (zF_R_has_0 hm)) (fun o ho => zk_K.okv ho ?_))
      refine zi_ifne rfl (fun hc => ?_) (fun hc => ?_)
      · have hF := zf_n hc hF
        refine zi_aload_n rfl rfl ?_
        refine zi_getfield rfl rfl (zh_R _) rfl ?_
        refine zi_iload rfl rfl ?_
        obtain ⟨hb, hF⟩ := zf_g hF
        refine zi_iaload rfl (zr_A9 _ _) (zin_ok hb) ?_
        refine zi_ifle rfl (fun hc => ?_) (fun hc => ?_)
        · have hF := zf_p hc hF
          exact zk_sb (zJ_R_own_110   _ _ _ hF) rfl ⟨rfl, rfl, trivial⟩
        · have hF := zf_n hc hF
          refine zi_aload_n rfl rfl ?_
          refine zi_iconst (v := (5 : Int32)) rfl rfl ?_
          refine zi_aload_n rfl rfl ?_
          refine zi_getfield rfl rfl (zh_R _) rfl ?_
          refine zi_iload rfl rfl ?_
          obtain ⟨hb, hF⟩ := zf_g hF
          refine zi_iaload rfl (zr_A9 _ _) (zin_ok hb) ?_
          refine zi_i2l rfl ?_
          obtain ⟨v11, s12, hm, hF⟩ := zf_b hF
          refine zi_callV rfl rfl rfl (zh_R _) rfl (zk_C.to (zk_C.up (by decide) (zF_R_result hm)) (fun o ho => zk_K.okn ho ?_))
          exact zk_sb (zJ_R_own_110   _ _ _ hF) rfl ⟨rfl, rfl, trivial⟩
      · have hF := zf_p hc hF
        refine zi_aload_n rfl rfl ?_
        refine zi_aload_n rfl rfl ?_
        refine zi_getfield rfl rfl (zh_R _) rfl ?_
        refine zi_iload rfl rfl ?_
        obtain ⟨hb, hF⟩ := zf_g hF
        refine zi_iaload rfl (zr_A8 _ _) (zin_ok hb) ?_
        refine zi_aload_n rfl rfl ?_
        refine zi_getfield rfl rfl (zh_R _) rfl ?_
        refine zi_iload rfl rfl ?_
        obtain ⟨hb, hF⟩ := zf_g hF
        refine zi_laload rfl (zh_B2 _) (zin_ok hb) ?_
        obtain ⟨v13, s14, hm, hF⟩ := zf_b hF
        refine zi_callV rfl rfl rfl (zh_R _) rfl (zk_C.to (zk_C.up (by decide) (zF_R_result hm)) (fun o ho => zk_K.okn ho ?_))
        refine zi_goto rfl ?_
        exact zk_sb (zJ_R_own_110   _ _ _ hF) rfl ⟨rfl, rfl, trivial⟩
    · have hF := zf_n hc hF
      refine zi_iconst (v := (-1 : Int32)) rfl rfl ?_
      cases hF
      exact zi_ireturn rfl rfl rfl
  · have hF := zf_p hc hF
    refine zi_iconst (v := (0 : Int32)) rfl rfl ?_
    cases hF
    exact zi_ireturn rfl rfl rfl
theorem zJ_R_own_20 {X : zkX} (x1 : Int32) (x2 : Int64) (s : zSt) (r) (hF : F_R_own_20   x1 x2 s = some r) : zk_W X 3 m_R_own (20, [(0, .ref 7), (1, .int x1), (2, .long x2)], [.ref 7], zHp s) (fun o => o = zoI r) := by
  unfold F_R_own_20 at hF
  refine zi_iconst (v := (0 : Int32)) rfl rfl ?_
  exact zk_sb (zJ_R_own_21   _ _ _ _ _ hF) rfl ⟨rfl, rfl, rfl, trivial⟩
theorem zF_R_own {X : zkX} {p1 : Int32} {p2 : Int64} {s : zSt} {r} (hF : F_R_own p1 p2 s = some r) : zk_C X 4 m_R_own [.ref 7, .int p1, .long p2] (zHp s) (fun o => o = zoI r) := by
  unfold F_R_own at hF
  refine zk_enter (lv := [(0, .ref 7), (1, .int p1), (2, .long p2)]) rfl rfl ?_
  refine zi_aload_n rfl rfl ?_
  refine zi_aload_n rfl rfl ?_
  refine zi_iload_n rfl rfl ?_
  obtain ⟨v1, s2, hm, hF⟩ := zf_b hF
  refine zi_callV rfl rfl rfl (zh_R _) rfl (zk_C.to (zk_C.up (by decide) (zF_R_holds hm)) (fun o ho => zk_K.okv ho ?_))
  refine zi_ifeq rfl (fun hc => ?_) (fun hc => ?_)
  · have hF := zf_p hc hF
    exact zk_sb (zJ_R_own_20   _ _ _ _ hF) rfl ⟨rfl, rfl, rfl, trivial⟩
  · have hF := zf_n hc hF
    refine zi_lload_n rfl rfl ?_
    obtain ⟨v15, s16, hm, hF⟩ := zf_b hF
    refine zi_callS rfl rfl rfl rfl (zk_C.to (zk_C.up (by decide) (zF_R_isKey hm)) (fun o ho => zk_K.okv ho ?_))
    refine zi_ifeq rfl (fun hc => ?_) (fun hc => ?_)
    · have hF := zf_p hc hF
      exact zk_sb (zJ_R_own_20   _ _ _ _ hF) rfl ⟨rfl, rfl, rfl, trivial⟩
    · have hF := zf_n hc hF
      refine zi_iconst (v := (1 : Int32)) rfl rfl ?_
      refine zi_goto rfl ?_
      exact zk_sb (zJ_R_own_21   _ _ _ _ _ hF) rfl ⟨rfl, rfl, rfl, trivial⟩
/-! m_R_setter -/
def F_R_setter_65  (s : zSt) : Option (Int32 × zSt) := some ((0 : Int32), s)
def F_R_setter_29 (x1 : Int32) (x2 : Int64) (x4 : Int32) (y0 : Int32) (s : zSt) : Option (Int32 × zSt) := (zb (F_R_says (y0) s) (fun v3 s4 => (if v3 = 0 then some ((0 : Int32), s4) else (if zin x1 24 then (zb (F_R_find ((gA s4 1 (x1).toNatClampNeg)) (x2) s4) (fun v5 s6 => (if v5 < 0 then F_R_setter_65     s6 else (if zin v5 8400 then (if (gA s6 10 (v5).toNatClampNeg) = 0 then F_R_setter_65     s6 else (if zin v5 8400 then (if zin x4 24 then some ((1 : Int32), (sA s6 1 (upd (gA s6 1) (x4).toNatClampNeg (gA s6 10 (v5).toNatClampNeg)))) else none) else none)) else none)))) else none))))
def F_R_setter_28 (x1 : Int32) (x2 : Int64) (x4 : Int32) (s : zSt) : Option (Int32 × zSt) := F_R_setter_29    (x1) (x2) (x4) ((0 : Int32)) s
def F_R_setter (p1 : Int32) (p2 : Int64) (p4 : Int32) (s : zSt) : Option (Int32 × zSt) := (zb (F_R_holds (p1) s) (fun v1 s2 => (if v1 = 0 then F_R_setter_28    (p1) (p2) (p4) s2 else (zb (F_R_isKey (p2) s2) (fun v7 s8 => (if v7 = 0 then F_R_setter_28    (p1) (p2) (p4) s8 else (zb (F_R_isRoot (p4) s8) (fun v9 s10 => (if v9 = 0 then F_R_setter_28    (p1) (p2) (p4) s10 else F_R_setter_29    (p1) (p2) (p4) ((1 : Int32)) s10)))))))))
theorem zJ_R_setter_65 {X : zkX}  (s : zSt) (r) (hF : F_R_setter_65    s = some r) : zk_W X 3 m_R_setter (65, [], [], zHp s) (fun o => o = zoI r) := by
  unfold F_R_setter_65 at hF
  refine zi_iconst (v := (0 : Int32)) rfl rfl ?_
  cases hF
  exact zi_zreturn rfl rfl rfl rfl
theorem zJ_R_setter_29 {X : zkX} (x1 : Int32) (x2 : Int64) (x4 : Int32) (y0 : Int32) (s : zSt) (r) (hF : F_R_setter_29   x1 x2 x4 y0 s = some r) : zk_W X 3 m_R_setter (29, [(0, .ref 7), (1, .int x1), (2, .long x2), (4, .int x4)], [.int y0, .ref 7], zHp s) (fun o => o = zoI r) := by
  unfold F_R_setter_29 at hF
  obtain ⟨v3, s4, hm, hF⟩ := zf_b hF
  refine zi_callV rfl rfl rfl (zh_R _) rfl (zk_C.to (zk_C.up (by decide) (zF_R_says hm)) (fun o ho => zk_K.okv ho ?_))
  refine zi_ifne rfl (fun hc => ?_) (fun hc => ?_)
  · have hF := zf_n hc hF
    refine zi_aload_n rfl rfl ?_
    refine zi_aload_n rfl rfl ?_
    refine zi_getfield rfl rfl (zh_R _) rfl ?_
    refine zi_iload_n rfl rfl ?_
    obtain ⟨hb, hF⟩ := zf_g hF
    refine zi_iaload rfl (zr_A1 _ _) (zin_ok hb) ?_
    refine zi_lload_n rfl rfl ?_
    obtain ⟨v5, s6, hm, hF⟩ := zf_b hF
    refine zi_callV rfl rfl rfl (zh_R _) rfl (zk_C.to (zk_C.up (by decide) (zF_R_find hm)) (fun o ho => zk_K.okv ho ?_))
    refine zi_istore rfl rfl rfl ?_
    refine zi_iload rfl rfl ?_
    refine zi_iflt rfl (fun hc => ?_) (fun hc => ?_)
    · have hF := zf_p hc hF
      exact zk_sb (zJ_R_setter_65    _ _ hF) rfl trivial
    · have hF := zf_n hc hF
      refine zi_aload_n rfl rfl ?_
      refine zi_getfield rfl rfl (zh_R _) rfl ?_
      refine zi_iload rfl rfl ?_
      obtain ⟨hb, hF⟩ := zf_g hF
      refine zi_iaload rfl (zr_A10 _ _) (zin_ok hb) ?_
      refine zi_ifne rfl (fun hc => ?_) (fun hc => ?_)
      · have hF := zf_n hc hF
        refine zi_aload_n rfl rfl ?_
        refine zi_getfield rfl rfl (zh_R _) rfl ?_
        refine zi_iload rfl rfl ?_
        refine zi_aload_n rfl rfl ?_
        refine zi_getfield rfl rfl (zh_R _) rfl ?_
        refine zi_iload rfl rfl ?_
        obtain ⟨hb, hF⟩ := zf_g hF
        refine zi_iaload rfl (zr_A10 _ _) (zin_ok hb) ?_
        obtain ⟨hb, hF⟩ := zf_g hF
        refine zi_iastore rfl (zh_A1 _) (zin_ok hb) (zs_A1 _ _) ?_
        refine zi_iconst (v := (1 : Int32)) rfl rfl ?_
        cases hF
        exact zi_zreturn rfl rfl rfl rfl
      · have hF := zf_p hc hF
        exact zk_sb (zJ_R_setter_65    _ _ hF) rfl trivial
  · have hF := zf_p hc hF
    refine zi_iconst (v := (0 : Int32)) rfl rfl ?_
    cases hF
    exact zi_zreturn rfl rfl rfl rfl
theorem zJ_R_setter_28 {X : zkX} (x1 : Int32) (x2 : Int64) (x4 : Int32) (s : zSt) (r) (hF : F_R_setter_28   x1 x2 x4 s = some r) : zk_W X 3 m_R_setter (28, [(0, .ref 7), (1, .int x1), (2, .long x2), (4, .int x4)], [.ref 7], zHp s) (fun o => o = zoI r) := by
  unfold F_R_setter_28 at hF
  refine zi_iconst (v := (0 : Int32)) rfl rfl ?_
  exact zk_sb (zJ_R_setter_29   _ _ _ _ _ _ hF) rfl ⟨rfl, rfl, rfl, rfl, trivial⟩
theorem zF_R_setter {X : zkX} {p1 : Int32} {p2 : Int64} {p4 : Int32} {s : zSt} {r} (hF : F_R_setter p1 p2 p4 s = some r) : zk_C X 4 m_R_setter [.ref 7, .int p1, .long p2, .int p4] (zHp s) (fun o => o = zoI r) := by
  unfold F_R_setter at hF
  refine zk_enter (lv := [(0, .ref 7), (1, .int p1), (2, .long p2), (4, .int p4)]) rfl rfl ?_
  refine zi_aload_n rfl rfl ?_
  refine zi_aload_n rfl rfl ?_
  refine zi_iload_n rfl rfl ?_
  obtain ⟨v1, s2, hm, hF⟩ := zf_b hF
  refine zi_callV rfl rfl rfl (zh_R _) rfl (zk_C.to (zk_C.up (by decide) (zF_R_holds hm)) (fun o ho => zk_K.okv ho ?_))
  refine zi_ifeq rfl (fun hc => ?_) (fun hc => ?_)
  · have hF := zf_p hc hF
    exact zk_sb (zJ_R_setter_28   _ _ _ _ _ hF) rfl ⟨rfl, rfl, rfl, rfl, trivial⟩
  · have hF := zf_n hc hF
    refine zi_lload_n rfl rfl ?_
    obtain ⟨v7, s8, hm, hF⟩ := zf_b hF
    refine zi_callS rfl rfl rfl rfl (zk_C.to (zk_C.up (by decide) (zF_R_isKey hm)) (fun o ho => zk_K.okv ho ?_))
    refine zi_ifeq rfl (fun hc => ?_) (fun hc => ?_)
    · have hF := zf_p hc hF
      exact zk_sb (zJ_R_setter_28   _ _ _ _ _ hF) rfl ⟨rfl, rfl, rfl, rfl, trivial⟩
    · have hF := zf_n hc hF
      refine zi_iload rfl rfl ?_
      obtain ⟨v9, s10, hm, hF⟩ := zf_b hF
      refine zi_callS rfl rfl rfl rfl (zk_C.to (zk_C.up (by decide) (zF_R_isRoot hm)) (fun o ho => zk_K.okv ho ?_))
      refine zi_ifeq rfl (fun hc => ?_) (fun hc => ?_)
      · have hF := zf_p hc hF
        exact zk_sb (zJ_R_setter_28   _ _ _ _ _ hF) rfl ⟨rfl, rfl, rfl, rfl, trivial⟩
      · have hF := zf_n hc hF
        refine zi_iconst (v := (1 : Int32)) rfl rfl ?_
        refine zi_goto rfl ?_
        exact zk_sb (zJ_R_setter_29   _ _ _ _ _ _ hF) rfl ⟨rfl, rfl, rfl, rfl, trivial⟩
/-! m_R_has_1 -/
def F_R_has_1_46 (y0 : Int32) (s : zSt) : Option (Int32 × zSt) := (if vp_nar .boolean y0 = y0 then some (y0, s) else none)
def F_R_has_1_45  (s : zSt) : Option (Int32 × zSt) := F_R_has_1_46    ((0 : Int32)) s
def F_R_has_1_21 (x1 : Int32) (x2 : Int64) (y0 : Int32) (s : zSt) : Option (Int32 × zSt) := (zb (F_R_says (y0) s) (fun v3 s4 => (if v3 = 0 then F_R_has_1_45     s4 else (if zin x1 24 then (zb (F_R_lookUp ((gA s4 1 (x1).toNatClampNeg)) (x2) s4) (fun v5 s6 => (if v5 < 0 then F_R_has_1_45     s6 else F_R_has_1_46    ((1 : Int32)) s6))) else none))))
def F_R_has_1_20 (x1 : Int32) (x2 : Int64) (s : zSt) : Option (Int32 × zSt) := F_R_has_1_21    (x1) (x2) ((0 : Int32)) s
def F_R_has_1 (p1 : Int32) (p2 : Int64) (s : zSt) : Option (Int32 × zSt) := (zb (F_R_holds (p1) s) (fun v1 s2 => (if v1 = 0 then F_R_has_1_20    (p1) (p2) s2 else (zb (F_R_isKey (p2) s2) (fun v7 s8 => (if v7 = 0 then F_R_has_1_20    (p1) (p2) s8 else F_R_has_1_21    (p1) (p2) ((1 : Int32)) s8))))))
theorem zJ_R_has_1_46 {X : zkX} (y0 : Int32) (s : zSt) (r) (hF : F_R_has_1_46   y0 s = some r) : zk_W X 3 m_R_has_1 (46, [], [.int y0], zHp s) (fun o => o = zoI r) := by
  unfold F_R_has_1_46 at hF
  obtain ⟨hz, hF⟩ := zf_g hF
  cases hF
  exact zi_zreturn rfl rfl hz rfl
theorem zJ_R_has_1_45 {X : zkX}  (s : zSt) (r) (hF : F_R_has_1_45    s = some r) : zk_W X 3 m_R_has_1 (45, [], [], zHp s) (fun o => o = zoI r) := by
  unfold F_R_has_1_45 at hF
  refine zi_iconst (v := (0 : Int32)) rfl rfl ?_
  exact zk_sb (zJ_R_has_1_46   _ _ _ hF) rfl trivial
theorem zJ_R_has_1_21 {X : zkX} (x1 : Int32) (x2 : Int64) (y0 : Int32) (s : zSt) (r) (hF : F_R_has_1_21   x1 x2 y0 s = some r) : zk_W X 3 m_R_has_1 (21, [(0, .ref 7), (1, .int x1), (2, .long x2)], [.int y0, .ref 7], zHp s) (fun o => o = zoI r) := by
  unfold F_R_has_1_21 at hF
  obtain ⟨v3, s4, hm, hF⟩ := zf_b hF
  refine zi_callV rfl rfl rfl (zh_R _) rfl (zk_C.to (zk_C.up (by decide) (zF_R_says hm)) (fun o ho => zk_K.okv ho ?_))
  refine zi_ifeq rfl (fun hc => ?_) (fun hc => ?_)
  · have hF := zf_p hc hF
    exact zk_sb (zJ_R_has_1_45    _ _ hF) rfl trivial
  · have hF := zf_n hc hF
    refine zi_aload_n rfl rfl ?_
    refine zi_aload_n rfl rfl ?_
    refine zi_getfield rfl rfl (zh_R _) rfl ?_
    refine zi_iload_n rfl rfl ?_
    obtain ⟨hb, hF⟩ := zf_g hF
    refine zi_iaload rfl (zr_A1 _ _) (zin_ok hb) ?_
    refine zi_lload_n rfl rfl ?_
    obtain ⟨v5, s6, hm, hF⟩ := zf_b hF
    refine zi_callV rfl rfl rfl (zh_R _) rfl (zk_C.to (zk_C.up (by decide) (zF_R_lookUp hm)) (fun o ho => zk_K.okv ho ?_))
    refine zi_iflt rfl (fun hc => ?_) (fun hc => ?_)
    · have hF := zf_p hc hF
      exact zk_sb (zJ_R_has_1_45    _ _ hF) rfl trivial
    · have hF := zf_n hc hF
      refine zi_iconst (v := (1 : Int32)) rfl rfl ?_
      refine zi_goto rfl ?_
      exact zk_sb (zJ_R_has_1_46   _ _ _ hF) rfl trivial
theorem zJ_R_has_1_20 {X : zkX} (x1 : Int32) (x2 : Int64) (s : zSt) (r) (hF : F_R_has_1_20   x1 x2 s = some r) : zk_W X 3 m_R_has_1 (20, [(0, .ref 7), (1, .int x1), (2, .long x2)], [.ref 7], zHp s) (fun o => o = zoI r) := by
  unfold F_R_has_1_20 at hF
  refine zi_iconst (v := (0 : Int32)) rfl rfl ?_
  exact zk_sb (zJ_R_has_1_21   _ _ _ _ _ hF) rfl ⟨rfl, rfl, rfl, trivial⟩
theorem zF_R_has_1 {X : zkX} {p1 : Int32} {p2 : Int64} {s : zSt} {r} (hF : F_R_has_1 p1 p2 s = some r) : zk_C X 4 m_R_has_1 [.ref 7, .int p1, .long p2] (zHp s) (fun o => o = zoI r) := by
  unfold F_R_has_1 at hF
  refine zk_enter (lv := [(0, .ref 7), (1, .int p1), (2, .long p2)]) rfl rfl ?_
  refine zi_aload_n rfl rfl ?_
  refine zi_aload_n rfl rfl ?_
  refine zi_iload_n rfl rfl ?_
  obtain ⟨v1, s2, hm, hF⟩ := zf_b hF
  refine zi_callV rfl rfl rfl (zh_R _) rfl (zk_C.to (zk_C.up (by decide) (zF_R_holds hm)) (fun o ho => zk_K.okv ho ?_))
  refine zi_ifeq rfl (fun hc => ?_) (fun hc => ?_)
  · have hF := zf_p hc hF
    exact zk_sb (zJ_R_has_1_20   _ _ _ _ hF) rfl ⟨rfl, rfl, rfl, trivial⟩
  · have hF := zf_n hc hF
    refine zi_lload_n rfl rfl ?_
    obtain ⟨v7, s8, hm, hF⟩ := zf_b hF
    refine zi_callS rfl rfl rfl rfl (zk_C.to (zk_C.up (by decide) (zF_R_isKey hm)) (fun o ho => zk_K.okv ho ?_))
    refine zi_ifeq rfl (fun hc => ?_) (fun hc => ?_)
    · have hF := zf_p hc hF
      exact zk_sb (zJ_R_has_1_20   _ _ _ _ hF) rfl ⟨rfl, rfl, rfl, trivial⟩
    · have hF := zf_n hc hF
      refine zi_iconst (v := (1 : Int32)) rfl rfl ?_
      refine zi_goto rfl ?_
      exact zk_sb (zJ_R_has_1_21   _ _ _ _ _ hF) rfl ⟨rfl, rfl, rfl, trivial⟩
/-! m_R_delete -/
def F_R_delete_21 (x1 : Int32) (x2 : Int64) (y0 : Int32) (s : zSt) : Option (Int32 × zSt) := (zb (F_R_says (y0) s) (fun v3 s4 => (if v3 = 0 then some ((0 : Int32), s4) else (if zin x1 24 then (zb (F_R_find ((gA s4 1 (x1).toNatClampNeg)) (x2) s4) (fun v5 s6 => (if 0 ≤ v5 then (zb (F_R_has_0 (v5) ((32 : Int32)) s6) (fun v7 s8 => (if v7 = 0 then some ((0 : Int32), s8) else (if zin v5 8400 then some ((1 : Int32), (sA s8 5 (upd (gA s8 5) (v5).toNatClampNeg (0 : Int32)))) else none)))) else some ((1 : Int32), s6)))) else none))))
def F_R_delete_20 (x1 : Int32) (x2 : Int64) (s : zSt) : Option (Int32 × zSt) := F_R_delete_21    (x1) (x2) ((0 : Int32)) s
def F_R_delete (p1 : Int32) (p2 : Int64) (s : zSt) : Option (Int32 × zSt) := (zb (F_R_holds (p1) s) (fun v1 s2 => (if v1 = 0 then F_R_delete_20    (p1) (p2) s2 else (zb (F_R_isKey (p2) s2) (fun v9 s10 => (if v9 = 0 then F_R_delete_20    (p1) (p2) s10 else F_R_delete_21    (p1) (p2) ((1 : Int32)) s10))))))
theorem zJ_R_delete_21 {X : zkX} (x1 : Int32) (x2 : Int64) (y0 : Int32) (s : zSt) (r) (hF : F_R_delete_21   x1 x2 y0 s = some r) : zk_W X 3 m_R_delete (21, [(0, .ref 7), (1, .int x1), (2, .long x2)], [.int y0, .ref 7], zHp s) (fun o => o = zoI r) := by
  unfold F_R_delete_21 at hF
  obtain ⟨v3, s4, hm, hF⟩ := zf_b hF
  refine zi_callV rfl rfl rfl (zh_R _) rfl (zk_C.to (zk_C.up (by decide) (zF_R_says hm)) (fun o ho => zk_K.okv ho ?_))
  refine zi_ifne rfl (fun hc => ?_) (fun hc => ?_)
  · have hF := zf_n hc hF
    refine zi_aload_n rfl rfl ?_
    refine zi_aload_n rfl rfl ?_
    refine zi_getfield rfl rfl (zh_R _) rfl ?_
    refine zi_iload_n rfl rfl ?_
    obtain ⟨hb, hF⟩ := zf_g hF
    refine zi_iaload rfl (zr_A1 _ _) (zin_ok hb) ?_
    refine zi_lload_n rfl rfl ?_
    obtain ⟨v5, s6, hm, hF⟩ := zf_b hF
    refine zi_callV rfl rfl rfl (zh_R _) rfl (zk_C.to (zk_C.up (by decide) (zF_R_find hm)) (fun o ho => zk_K.okv ho ?_))
    refine zi_istore rfl rfl rfl ?_
    refine zi_iload rfl rfl ?_
    refine zi_ifge rfl (fun hc => ?_) (fun hc => ?_)
    · have hF := zf_p hc hF
      refine zi_aload_n rfl rfl ?_
      refine zi_iload rfl rfl ?_
      refine zi_bipush (v := (32 : Int32)) rfl rfl ?_
      obtain ⟨v7, s8, hm, hF⟩ := zf_b hF
      refine zi_callV rfl rfl rfl (zh_R _) rfl (zk_C.to (zk_C.up (by decide) (zF_R_has_0 hm)) (fun o ho => zk_K.okv ho ?_))
      refine zi_ifne rfl (fun hc => ?_) (fun hc => ?_)
      · have hF := zf_n hc hF
        refine zi_aload_n rfl rfl ?_
        refine zi_getfield rfl rfl (zh_R _) rfl ?_
        refine zi_iload rfl rfl ?_
        refine zi_iconst (v := (0 : Int32)) rfl rfl ?_
        obtain ⟨hb, hF⟩ := zf_g hF
        refine zi_iastore rfl (zh_A5 _) (zin_ok hb) (zs_A5 _ _) ?_
        refine zi_iconst (v := (1 : Int32)) rfl rfl ?_
        cases hF
        exact zi_zreturn rfl rfl rfl rfl
      · have hF := zf_p hc hF
        refine zi_iconst (v := (0 : Int32)) rfl rfl ?_
        cases hF
        exact zi_zreturn rfl rfl rfl rfl
    · have hF := zf_n hc hF
      refine zi_iconst (v := (1 : Int32)) rfl rfl ?_
      cases hF
      exact zi_zreturn rfl rfl rfl rfl
  · have hF := zf_p hc hF
    refine zi_iconst (v := (0 : Int32)) rfl rfl ?_
    cases hF
    exact zi_zreturn rfl rfl rfl rfl
theorem zJ_R_delete_20 {X : zkX} (x1 : Int32) (x2 : Int64) (s : zSt) (r) (hF : F_R_delete_20   x1 x2 s = some r) : zk_W X 3 m_R_delete (20, [(0, .ref 7), (1, .int x1), (2, .long x2)], [.ref 7], zHp s) (fun o => o = zoI r) := by
  unfold F_R_delete_20 at hF
  refine zi_iconst (v := (0 : Int32)) rfl rfl ?_
  exact zk_sb (zJ_R_delete_21   _ _ _ _ _ hF) rfl ⟨rfl, rfl, rfl, trivial⟩
theorem zF_R_delete {X : zkX} {p1 : Int32} {p2 : Int64} {s : zSt} {r} (hF : F_R_delete p1 p2 s = some r) : zk_C X 4 m_R_delete [.ref 7, .int p1, .long p2] (zHp s) (fun o => o = zoI r) := by
  unfold F_R_delete at hF
  refine zk_enter (lv := [(0, .ref 7), (1, .int p1), (2, .long p2)]) rfl rfl ?_
  refine zi_aload_n rfl rfl ?_
  refine zi_aload_n rfl rfl ?_
  refine zi_iload_n rfl rfl ?_
  obtain ⟨v1, s2, hm, hF⟩ := zf_b hF
  refine zi_callV rfl rfl rfl (zh_R _) rfl (zk_C.to (zk_C.up (by decide) (zF_R_holds hm)) (fun o ho => zk_K.okv ho ?_))
  refine zi_ifeq rfl (fun hc => ?_) (fun hc => ?_)
  · have hF := zf_p hc hF
    exact zk_sb (zJ_R_delete_20   _ _ _ _ hF) rfl ⟨rfl, rfl, rfl, trivial⟩
  · have hF := zf_n hc hF
    refine zi_lload_n rfl rfl ?_
    obtain ⟨v9, s10, hm, hF⟩ := zf_b hF
    refine zi_callS rfl rfl rfl rfl (zk_C.to (zk_C.up (by decide) (zF_R_isKey hm)) (fun o ho => zk_K.okv ho ?_))
    refine zi_ifeq rfl (fun hc => ?_) (fun hc => ?_)
    · have hF := zf_p hc hF
      exact zk_sb (zJ_R_delete_20   _ _ _ _ hF) rfl ⟨rfl, rfl, rfl, trivial⟩
    · have hF := zf_n hc hF
      refine zi_iconst (v := (1 : Int32)) rfl rfl ?_
      refine zi_goto rfl ?_
      exact zk_sb (zJ_R_delete_21   _ _ _ _ _ hF) rfl ⟨rfl, rfl, rfl, trivial⟩
/-! m_R_count -/
def F_R_count_29 (K4 : Int32 → Int32 → Int32 → zSt → Option (Int32 × zSt)) (x1 : Int32) (x3 : Int32) (y0 : Int32) (s : zSt) : Option (Int32 × zSt) := K4 (x1) (y0) ((x3 + (1 : Int32))) s
def F_R_count_4  : Nat → Int32 → Int32 → Int32 → zSt → Option (Int32 × zSt)
  | 0, _, _, _, _ => none
  | n + 1, x1, x2, x3, s => (if (gI s 15) ≤ x3 then some (x2, s) else (if zin x3 8400 then (if (gA s 5 (x3).toNatClampNeg) = x1 then F_R_count_29  (F_R_count_4  n)  (x1) (x3) ((x2 + (1 : Int32))) s else F_R_count_29  (F_R_count_4  n)  (x1) (x3) (x2) s) else none))
def F_R_count (p1 : Int32) (s : zSt) : Option (Int32 × zSt) := F_R_count_4   zFuel (p1) ((0 : Int32)) ((0 : Int32)) s
theorem zJ_R_count_29 {X : zkX} (K4 : Int32 → Int32 → Int32 → zSt → Option (Int32 × zSt)) (hK4 : ∀ (x1 : Int32) (x2 : Int32) (x3 : Int32) (s : zSt) r, K4 x1 x2 x3 s = some r → zk_W X 0 m_R_count (4, [(0, .ref 7), (1, .int x1), (2, .int x2), (3, .int x3)], [], zHp s) (fun o => o = zoI r)) (x1 : Int32) (x3 : Int32) (y0 : Int32) (s : zSt) (r) (hF : F_R_count_29  K4 x1 x3 y0 s = some r) : zk_W X 0 m_R_count (29, [(0, .ref 7), (1, .int x1), (3, .int x3)], [.int y0], zHp s) (fun o => o = zoI r) := by
  unfold F_R_count_29 at hF
  refine zi_istore_n rfl rfl rfl ?_
  refine zi_iinc (y := (x3 + (1 : Int32))) rfl rfl rfl rfl rfl ?_
  refine zi_goto rfl ?_
  exact zk_sb (hK4 _ _ _ _ _ hF) rfl ⟨rfl, rfl, rfl, rfl, trivial⟩
theorem zJ_R_count_4 {X : zkX} : ∀ (n : Nat) (x1 : Int32) (x2 : Int32) (x3 : Int32) (s : zSt) (r), F_R_count_4   n x1 x2 x3 s = some r → zk_W X 0 m_R_count (4, [(0, .ref 7), (1, .int x1), (2, .int x2), (3, .int x3)], [], zHp s) (fun o => o = zoI r) := by
  intro n
  induction n with
  | zero => intro x1 x2 x3 s r hF; cases hF
  | succ n ih =>
    intro x1 x2 x3 s r hF
    rw [F_R_count_4] at hF
    refine zi_iload_n rfl rfl ?_
    refine zi_aload_n rfl rfl ?_
    refine zi_getfield rfl rfl (zh_R _) rfl ?_
    refine zi_icge rfl (fun hc => ?_) (fun hc => ?_)
    · have hF := zf_p hc hF
      refine zi_iload_n rfl rfl ?_
      cases hF
      exact zi_ireturn rfl rfl rfl
    · have hF := zf_n hc hF
      refine zi_aload_n rfl rfl ?_
      refine zi_getfield rfl rfl (zh_R _) rfl ?_
      refine zi_iload_n rfl rfl ?_
      obtain ⟨hb, hF⟩ := zf_g hF
      refine zi_iaload rfl (zr_A5 _ _) (zin_ok hb) ?_
      refine zi_iload_n rfl rfl ?_
      refine zi_icne rfl (fun hc => ?_) (fun hc => ?_)
      · have hF := zf_n hc hF
        refine zi_iload_n rfl rfl ?_
        exact zk_sb (zJ_R_count_29 (F_R_count_4  n) ih  _ _ _ _ _ hF) rfl ⟨rfl, rfl, rfl, trivial⟩
      · have hF := zf_p hc hF
        refine zi_iload_n rfl rfl ?_
        refine zi_iconst (v := (1 : Int32)) rfl rfl ?_
        refine zi_iadd rfl ?_
        refine zi_goto rfl ?_
        exact zk_sb (zJ_R_count_29 (F_R_count_4  n) ih  _ _ _ _ _ hF) rfl ⟨rfl, rfl, rfl, trivial⟩
theorem zF_R_count {X : zkX} {p1 : Int32} {s : zSt} {r} (hF : F_R_count p1 s = some r) : zk_C X 1 m_R_count [.ref 7, .int p1] (zHp s) (fun o => o = zoI r) := by
  unfold F_R_count at hF
  refine zk_enter (lv := [(0, .ref 7), (1, .int p1)]) rfl rfl ?_
  refine zi_iconst (v := (0 : Int32)) rfl rfl ?_
  refine zi_istore_n rfl rfl rfl ?_
  refine zi_iconst (v := (0 : Int32)) rfl rfl ?_
  refine zi_istore_n rfl rfl rfl ?_
  exact zk_sb (zJ_R_count_4  zFuel _ _ _ _ _ hF) rfl ⟨rfl, rfl, rfl, rfl, trivial⟩
/-! m_R_keys -/
def F_R_keys_26 (y0 : Int32) (s : zSt) : Option (Int32 × zSt) := some (y0, s)
def F_R_keys (p1 : Int32) (s : zSt) : Option (Int32 × zSt) := (zb (F_R_holds (p1) s) (fun v1 s2 => (zb (F_R_says (v1) s2) (fun v3 s4 => (if v3 = 0 then F_R_keys_26    ((0 : Int32)) s4 else (if zin p1 24 then (zb (F_R_count ((gA s4 1 (p1).toNatClampNeg)) s4) (fun v5 s6 => F_R_keys_26    (v5) s6)) else none))))))
theorem zJ_R_keys_26 {X : zkX} (y0 : Int32) (s : zSt) (r) (hF : F_R_keys_26   y0 s = some r) : zk_W X 3 m_R_keys (26, [], [.int y0], zHp s) (fun o => o = zoI r) := by
  unfold F_R_keys_26 at hF
  cases hF
  exact zi_ireturn rfl rfl rfl
theorem zF_R_keys {X : zkX} {p1 : Int32} {s : zSt} {r} (hF : F_R_keys p1 s = some r) : zk_C X 4 m_R_keys [.ref 7, .int p1] (zHp s) (fun o => o = zoI r) := by
  unfold F_R_keys at hF
  refine zk_enter (lv := [(0, .ref 7), (1, .int p1)]) rfl rfl ?_
  refine zi_aload_n rfl rfl ?_
  refine zi_aload_n rfl rfl ?_
  refine zi_iload_n rfl rfl ?_
  obtain ⟨v1, s2, hm, hF⟩ := zf_b hF
  refine zi_callV rfl rfl rfl (zh_R _) rfl (zk_C.to (zk_C.up (by decide) (zF_R_holds hm)) (fun o ho => zk_K.okv ho ?_))
  obtain ⟨v3, s4, hm, hF⟩ := zf_b hF
  refine zi_callV rfl rfl rfl (zh_R _) rfl (zk_C.to (zk_C.up (by decide) (zF_R_says hm)) (fun o ho => zk_K.okv ho ?_))
  refine zi_ifeq rfl (fun hc => ?_) (fun hc => ?_)
  · have hF := zf_p hc hF
    refine zi_iconst (v := (0 : Int32)) rfl rfl ?_
    exact zk_sb (zJ_R_keys_26   _ _ _ hF) rfl trivial
  · have hF := zf_n hc hF
    refine zi_aload_n rfl rfl ?_
    refine zi_aload_n rfl rfl ?_
    refine zi_getfield rfl rfl (zh_R _) rfl ?_
    refine zi_iload_n rfl rfl ?_
    obtain ⟨hb, hF⟩ := zf_g hF
    refine zi_iaload rfl (zr_A1 _ _) (zin_ok hb) ?_
    obtain ⟨v5, s6, hm, hF⟩ := zf_b hF
    refine zi_callV rfl rfl rfl (zh_R _) rfl (zk_C.to (zk_C.up (by decide) (zF_R_count hm)) (fun o ho => zk_K.okv ho ?_))
    refine zi_goto rfl ?_
    exact zk_sb (zJ_R_keys_26   _ _ _ hF) rfl trivial
/-! m_R_isBefore -/
def F_R_isBefore_86 (y0 : Int32) (s : zSt) : Option (Int32 × zSt) := (if vp_nar .boolean y0 = y0 then some (y0, s) else none)
def F_R_isBefore_81  (s : zSt) : Option (Int32 × zSt) := F_R_isBefore_86    ((1 : Int32)) s
def F_R_isBefore_85  (s : zSt) : Option (Int32 × zSt) := F_R_isBefore_86    ((0 : Int32)) s
def F_R_isBefore_44 (x1 : Int32) (x2 : Int32) (s : zSt) : Option (Int32 × zSt) := (if zin x1 8400 then (if 0 ≤ (lg_cmp (gB s 1 (x1).toNatClampNeg) (0 : Int64)) then F_R_isBefore_81     s else (if zin x2 8400 then (if 0 ≤ (lg_cmp (gB s 1 (x2).toNatClampNeg) (0 : Int64)) then F_R_isBefore_85     s else (if zin x1 8400 then (if zin x2 8400 then (if (gA s 6 (x2).toNatClampNeg) ≤ (gA s 6 (x1).toNatClampNeg) then F_R_isBefore_85     s else F_R_isBefore_81     s) else none) else none)) else none)) else none)
def F_R_isBefore_43 (y0 : Int32) (s : zSt) : Option (Int32 × zSt) := (if vp_nar .boolean y0 = y0 then some (y0, s) else none)
def F_R_isBefore (p1 : Int32) (p2 : Int32) (s : zSt) : Option (Int32 × zSt) := (if zin p1 8400 then (if (lg_cmp (gB s 1 (p1).toNatClampNeg) (0 : Int64)) < 0 then F_R_isBefore_44    (p1) (p2) s else (if zin p2 8400 then (if (lg_cmp (gB s 1 (p2).toNatClampNeg) (0 : Int64)) < 0 then F_R_isBefore_44    (p1) (p2) s else (if zin p1 8400 then (if zin p2 8400 then (if 0 ≤ (lg_cmp (gB s 1 (p1).toNatClampNeg) (gB s 1 (p2).toNatClampNeg)) then F_R_isBefore_43    ((0 : Int32)) s else F_R_isBefore_43    ((1 : Int32)) s) else none) else none)) else none)) else none)
theorem zJ_R_isBefore_86 {X : zkX} (y0 : Int32) (s : zSt) (r) (hF : F_R_isBefore_86   y0 s = some r) : zk_W X 0 m_R_isBefore (86, [], [.int y0], zHp s) (fun o => o = zoI r) := by
  unfold F_R_isBefore_86 at hF
  obtain ⟨hz, hF⟩ := zf_g hF
  cases hF
  exact zi_zreturn rfl rfl hz rfl
theorem zJ_R_isBefore_81 {X : zkX}  (s : zSt) (r) (hF : F_R_isBefore_81    s = some r) : zk_W X 0 m_R_isBefore (81, [], [], zHp s) (fun o => o = zoI r) := by
  unfold F_R_isBefore_81 at hF
  refine zi_iconst (v := (1 : Int32)) rfl rfl ?_
  refine zi_goto rfl ?_
  exact zk_sb (zJ_R_isBefore_86   _ _ _ hF) rfl trivial
theorem zJ_R_isBefore_85 {X : zkX}  (s : zSt) (r) (hF : F_R_isBefore_85    s = some r) : zk_W X 0 m_R_isBefore (85, [], [], zHp s) (fun o => o = zoI r) := by
  unfold F_R_isBefore_85 at hF
  refine zi_iconst (v := (0 : Int32)) rfl rfl ?_
  exact zk_sb (zJ_R_isBefore_86   _ _ _ hF) rfl trivial
theorem zJ_R_isBefore_44 {X : zkX} (x1 : Int32) (x2 : Int32) (s : zSt) (r) (hF : F_R_isBefore_44   x1 x2 s = some r) : zk_W X 0 m_R_isBefore (44, [(0, .ref 7), (1, .int x1), (2, .int x2)], [], zHp s) (fun o => o = zoI r) := by
  unfold F_R_isBefore_44 at hF
  refine zi_aload_n rfl rfl ?_
  refine zi_getfield rfl rfl (zh_R _) rfl ?_
  refine zi_iload_n rfl rfl ?_
  obtain ⟨hb, hF⟩ := zf_g hF
  refine zi_laload rfl (zh_B1 _) (zin_ok hb) ?_
  refine zi_lconst (v := (0 : Int64)) rfl rfl ?_
  refine zi_lcmp rfl ?_
  refine zi_ifge rfl (fun hc => ?_) (fun hc => ?_)
  · have hF := zf_p hc hF
    exact zk_sb (zJ_R_isBefore_81    _ _ hF) rfl trivial
  · have hF := zf_n hc hF
    refine zi_aload_n rfl rfl ?_
    refine zi_getfield rfl rfl (zh_R _) rfl ?_
    refine zi_iload_n rfl rfl ?_
    obtain ⟨hb, hF⟩ := zf_g hF
    refine zi_laload rfl (zh_B1 _) (zin_ok hb) ?_
    refine zi_lconst (v := (0 : Int64)) rfl rfl ?_
    refine zi_lcmp rfl ?_
    refine zi_ifge rfl (fun hc => ?_) (fun hc => ?_)
    · have hF := zf_p hc hF
      exact zk_sb (zJ_R_isBefore_85    _ _ hF) rfl trivial
    · have hF := zf_n hc hF
      refine zi_aload_n rfl rfl ?_
      refine zi_getfield rfl rfl (zh_R _) rfl ?_
      refine zi_iload_n rfl rfl ?_
      obtain ⟨hb, hF⟩ := zf_g hF
      refine zi_iaload rfl (zr_A6 _ _) (zin_ok hb) ?_
      refine zi_aload_n rfl rfl ?_
      refine zi_getfield rfl rfl (zh_R _) rfl ?_
      refine zi_iload_n rfl rfl ?_
      obtain ⟨hb, hF⟩ := zf_g hF
      refine zi_iaload rfl (zr_A6 _ _) (zin_ok hb) ?_
      refine zi_icge rfl (fun hc => ?_) (fun hc => ?_)
      · have hF := zf_p hc hF
        exact zk_sb (zJ_R_isBefore_85    _ _ hF) rfl trivial
      · have hF := zf_n hc hF
        exact zk_sb (zJ_R_isBefore_81    _ _ hF) rfl trivial
theorem zJ_R_isBefore_43 {X : zkX} (y0 : Int32) (s : zSt) (r) (hF : F_R_isBefore_43   y0 s = some r) : zk_W X 0 m_R_isBefore (43, [], [.int y0], zHp s) (fun o => o = zoI r) := by
  unfold F_R_isBefore_43 at hF
  obtain ⟨hz, hF⟩ := zf_g hF
  cases hF
  exact zi_zreturn rfl rfl hz rfl
theorem zF_R_isBefore {X : zkX} {p1 : Int32} {p2 : Int32} {s : zSt} {r} (hF : F_R_isBefore p1 p2 s = some r) : zk_C X 1 m_R_isBefore [.ref 7, .int p1, .int p2] (zHp s) (fun o => o = zoI r) := by
  unfold F_R_isBefore at hF
  refine zk_enter (lv := [(0, .ref 7), (1, .int p1), (2, .int p2)]) rfl rfl ?_
  refine zi_aload_n rfl rfl ?_
  refine zi_getfield rfl rfl (zh_R _) rfl ?_
  refine zi_iload_n rfl rfl ?_
  obtain ⟨hb, hF⟩ := zf_g hF
  refine zi_laload rfl (zh_B1 _) (zin_ok hb) ?_
  refine zi_lconst (v := (0 : Int64)) rfl rfl ?_
  refine zi_lcmp rfl ?_
  refine zi_iflt rfl (fun hc => ?_) (fun hc => ?_)
  · have hF := zf_p hc hF
    exact zk_sb (zJ_R_isBefore_44   _ _ _ _ hF) rfl ⟨rfl, rfl, rfl, trivial⟩
  · have hF := zf_n hc hF
    refine zi_aload_n rfl rfl ?_
    refine zi_getfield rfl rfl (zh_R _) rfl ?_
    refine zi_iload_n rfl rfl ?_
    obtain ⟨hb, hF⟩ := zf_g hF
    refine zi_laload rfl (zh_B1 _) (zin_ok hb) ?_
    refine zi_lconst (v := (0 : Int64)) rfl rfl ?_
    refine zi_lcmp rfl ?_
    refine zi_iflt rfl (fun hc => ?_) (fun hc => ?_)
    · have hF := zf_p hc hF
      exact zk_sb (zJ_R_isBefore_44   _ _ _ _ hF) rfl ⟨rfl, rfl, rfl, trivial⟩
    · have hF := zf_n hc hF
      refine zi_aload_n rfl rfl ?_
      refine zi_getfield rfl rfl (zh_R _) rfl ?_
      refine zi_iload_n rfl rfl ?_
      obtain ⟨hb, hF⟩ := zf_g hF
      refine zi_laload rfl (zh_B1 _) (zin_ok hb) ?_
      refine zi_aload_n rfl rfl ?_
      refine zi_getfield rfl rfl (zh_R _) rfl ?_
      refine zi_iload_n rfl rfl ?_
      obtain ⟨hb, hF⟩ := zf_g hF
      refine zi_laload rfl (zh_B1 _) (zin_ok hb) ?_
      refine zi_lcmp rfl ?_
      refine zi_ifge rfl (fun hc => ?_) (fun hc => ?_)
      · have hF := zf_p hc hF
        refine zi_iconst (v := (0 : Int32)) rfl rfl ?_
        exact zk_sb (zJ_R_isBefore_43   _ _ _ hF) rfl trivial
      · have hF := zf_n hc hF
        refine zi_iconst (v := (1 : Int32)) rfl rfl ?_
        refine zi_goto rfl ?_
        exact zk_sb (zJ_R_isBefore_43   _ _ _ hF) rfl trivial
/-! m_R_key -/
def F_R_key_172 (K69 : Int32 → Int32 → Int64 → Int32 → zSt → Option (Int64 × zSt)) (x2 : Int32) (x3 : Int32) (x6 : Int32) (y0 : Int64) (s : zSt) : Option (Int64 × zSt) := K69 (x2) (x3) (y0) ((x6 + (1 : Int32))) s
def F_R_key_170 (K69 : Int32 → Int32 → Int64 → Int32 → zSt → Option (Int64 × zSt)) (x2 : Int32) (x3 : Int32) (x4 : Int64) (x6 : Int32) (s : zSt) : Option (Int64 × zSt) := F_R_key_172  K69  (x2) (x3) (x6) (x4) s
def F_R_key_143 (K69 : Int32 → Int32 → Int64 → Int32 → zSt → Option (Int64 × zSt)) (x2 : Int32) (x3 : Int32) (x4 : Int64) (x6 : Int32) (x7 : Int32) (s : zSt) : Option (Int64 × zSt) := (if zin x6 8400 then (if (gA s 5 (x6).toNatClampNeg) = x3 then (if x7 = x2 then (if zin x6 8400 then F_R_key_172  K69  (x2) (x3) (x6) ((gB s 1 (x6).toNatClampNeg)) s else none) else F_R_key_170  K69  (x2) (x3) (x4) (x6) s) else F_R_key_170  K69  (x2) (x3) (x4) (x6) s) else none)
def F_R_key_135 (K69 : Int32 → Int32 → Int64 → Int32 → zSt → Option (Int64 × zSt)) (K84 : Int32 → Int32 → Int64 → Int32 → Int32 → Int32 → zSt → Option (Int64 × zSt)) (x2 : Int32) (x3 : Int32) (x4 : Int64) (x6 : Int32) (x8 : Int32) (y0 : Int32) (s : zSt) : Option (Int64 × zSt) := K84 (x2) (x3) (x4) (x6) (y0) ((x8 + (1 : Int32))) s
def F_R_key_133 (K69 : Int32 → Int32 → Int64 → Int32 → zSt → Option (Int64 × zSt)) (K84 : Int32 → Int32 → Int64 → Int32 → Int32 → Int32 → zSt → Option (Int64 × zSt)) (x2 : Int32) (x3 : Int32) (x4 : Int64) (x6 : Int32) (x7 : Int32) (x8 : Int32) (s : zSt) : Option (Int64 × zSt) := F_R_key_135  K69 K84  (x2) (x3) (x4) (x6) (x8) (x7) s
def F_R_key_84 (K69 : Int32 → Int32 → Int64 → Int32 → zSt → Option (Int64 × zSt))  : Nat → Int32 → Int32 → Int64 → Int32 → Int32 → Int32 → zSt → Option (Int64 × zSt)
  | 0, _, _, _, _, _, _, _ => none
  | n + 1, x2, x3, x4, x6, x7, x8, s => (if (gI s 15) ≤ x8 then F_R_key_143  K69  (x2) (x3) (x4) (x6) (x7) s else (if zin x6 8400 then (if (gA s 5 (x6).toNatClampNeg) = x3 then (if zin x8 8400 then (if (gA s 5 (x8).toNatClampNeg) = x3 then (zb (F_R_isBefore (x8) (x6) s) (fun v5 s6 => (if v5 = 0 then F_R_key_133  K69 (F_R_key_84 K69 n)  (x2) (x3) (x4) (x6) (x7) (x8) s6 else F_R_key_135  K69 (F_R_key_84 K69 n)  (x2) (x3) (x4) (x6) (x8) ((x7 + (1 : Int32))) s6))) else F_R_key_133  K69 (F_R_key_84 K69 n)  (x2) (x3) (x4) (x6) (x7) (x8) s) else none) else F_R_key_143  K69  (x2) (x3) (x4) (x6) (x7) s) else none))
def F_R_key_69  : Nat → Int32 → Int32 → Int64 → Int32 → zSt → Option (Int64 × zSt)
  | 0, _, _, _, _, _ => none
  | n + 1, x2, x3, x4, x6, s => (if (gI s 15) ≤ x6 then some (x4, s) else F_R_key_84  (F_R_key_69  n) zFuel (x2) (x3) (x4) (x6) ((0 : Int32)) ((0 : Int32)) s)
def F_R_key_48 (x1 : Int32) (x2 : Int32) (y0 : Int32) (s : zSt) : Option (Int64 × zSt) := (zb (F_R_says (y0) s) (fun v3 s4 => (if v3 = 0 then some ((0 : Int64), s4) else (if zin x1 24 then F_R_key_69   zFuel (x2) ((gA s4 1 (x1).toNatClampNeg)) ((0 : Int64)) ((0 : Int32)) s4 else none))))
def F_R_key_47 (x1 : Int32) (x2 : Int32) (s : zSt) : Option (Int64 × zSt) := F_R_key_48    (x1) (x2) ((0 : Int32)) s
def F_R_key_31 (x1 : Int32) (x2 : Int32) (y0 : Int32) (y2 : Int64) (y3 : Int64) (s : zSt) : Option (Int64 × zSt) := (zb (F_R_count (y0) s) (fun v9 s10 => (zb (F_R_in (y3) (y2) (((v9 - (1 : Int32))).toInt64) s10) (fun v11 s12 => (if v11 = 0 then F_R_key_47    (x1) (x2) s12 else F_R_key_48    (x1) (x2) ((1 : Int32)) s12)))))
def F_R_key (p1 : Int32) (p2 : Int32) (s : zSt) : Option (Int64 × zSt) := (zb (F_R_holds (p1) s) (fun v1 s2 => (if v1 = 0 then F_R_key_47    (p1) (p2) s2 else (zb (F_R_holds (p1) s2) (fun v7 s8 => (if v7 = 0 then F_R_key_31    (p1) (p2) ((0 : Int32)) ((0 : Int64)) ((p2).toInt64) s8 else (if zin p1 24 then F_R_key_31    (p1) (p2) ((gA s8 1 (p1).toNatClampNeg)) ((0 : Int64)) ((p2).toInt64) s8 else none)))))))
theorem zJ_R_key_172 {X : zkX} (K69 : Int32 → Int32 → Int64 → Int32 → zSt → Option (Int64 × zSt)) (hK69 : ∀ (x2 : Int32) (x3 : Int32) (x4 : Int64) (x6 : Int32) (s : zSt) r, K69 x2 x3 x4 x6 s = some r → zk_W X 3 m_R_key (69, [(0, .ref 7), (2, .int x2), (3, .int x3), (4, .long x4), (6, .int x6)], [], zHp s) (fun o => o = zoL r)) (x2 : Int32) (x3 : Int32) (x6 : Int32) (y0 : Int64) (s : zSt) (r) (hF : F_R_key_172  K69 x2 x3 x6 y0 s = some r) : zk_W X 3 m_R_key (172, [(0, .ref 7), (2, .int x2), (3, .int x3), (6, .int x6)], [.long y0], zHp s) (fun o => o = zoL r) := by
  unfold F_R_key_172 at hF
  refine zi_lstore rfl rfl rfl ?_
  refine zi_iinc (y := (x6 + (1 : Int32))) rfl rfl rfl rfl rfl ?_
  refine zi_goto rfl ?_
  exact zk_sb (hK69 _ _ _ _ _ _ hF) rfl ⟨rfl, rfl, rfl, rfl, rfl, trivial⟩
theorem zJ_R_key_170 {X : zkX} (K69 : Int32 → Int32 → Int64 → Int32 → zSt → Option (Int64 × zSt)) (hK69 : ∀ (x2 : Int32) (x3 : Int32) (x4 : Int64) (x6 : Int32) (s : zSt) r, K69 x2 x3 x4 x6 s = some r → zk_W X 3 m_R_key (69, [(0, .ref 7), (2, .int x2), (3, .int x3), (4, .long x4), (6, .int x6)], [], zHp s) (fun o => o = zoL r)) (x2 : Int32) (x3 : Int32) (x4 : Int64) (x6 : Int32) (s : zSt) (r) (hF : F_R_key_170  K69 x2 x3 x4 x6 s = some r) : zk_W X 3 m_R_key (170, [(0, .ref 7), (2, .int x2), (3, .int x3), (4, .long x4), (6, .int x6)], [], zHp s) (fun o => o = zoL r) := by
  unfold F_R_key_170 at hF
  refine zi_lload rfl rfl ?_
  exact zk_sb (zJ_R_key_172 K69 hK69  _ _ _ _ _ _ hF) rfl ⟨rfl, rfl, rfl, rfl, trivial⟩
theorem zJ_R_key_143 {X : zkX} (K69 : Int32 → Int32 → Int64 → Int32 → zSt → Option (Int64 × zSt)) (hK69 : ∀ (x2 : Int32) (x3 : Int32) (x4 : Int64) (x6 : Int32) (s : zSt) r, K69 x2 x3 x4 x6 s = some r → zk_W X 3 m_R_key (69, [(0, .ref 7), (2, .int x2), (3, .int x3), (4, .long x4), (6, .int x6)], [], zHp s) (fun o => o = zoL r)) (x2 : Int32) (x3 : Int32) (x4 : Int64) (x6 : Int32) (x7 : Int32) (s : zSt) (r) (hF : F_R_key_143  K69 x2 x3 x4 x6 x7 s = some r) : zk_W X 3 m_R_key (143, [(0, .ref 7), (2, .int x2), (3, .int x3), (4, .long x4), (6, .int x6), (7, .int x7)], [], zHp s) (fun o => o = zoL r) := by
  unfold F_R_key_143 at hF
  refine zi_aload_n rfl rfl ?_
  refine zi_getfield rfl rfl (zh_R _) rfl ?_
  refine zi_iload rfl rfl ?_
  obtain ⟨hb, hF⟩ := zf_g hF
  refine zi_iaload rfl (zr_A5 _ _) (zin_ok hb) ?_
  refine zi_iload_n rfl rfl ?_
  refine zi_icne rfl (fun hc => ?_) (fun hc => ?_)
  · have hF := zf_n hc hF
    exact zk_sb (zJ_R_key_170 K69 hK69  _ _ _ _ _ _ hF) rfl ⟨rfl, rfl, rfl, rfl, rfl, trivial⟩
  · have hF := zf_p hc hF
    refine zi_iload rfl rfl ?_
    refine zi_iload_n rfl rfl ?_
    refine zi_icne rfl (fun hc => ?_) (fun hc => ?_)
    · have hF := zf_n hc hF
      exact zk_sb (zJ_R_key_170 K69 hK69  _ _ _ _ _ _ hF) rfl ⟨rfl, rfl, rfl, rfl, rfl, trivial⟩
    · have hF := zf_p hc hF
      refine zi_aload_n rfl rfl ?_
      refine zi_getfield rfl rfl (zh_R _) rfl ?_
      refine zi_iload rfl rfl ?_
      obtain ⟨hb, hF⟩ := zf_g hF
      refine zi_laload rfl (zh_B1 _) (zin_ok hb) ?_
      refine zi_goto rfl ?_
      exact zk_sb (zJ_R_key_172 K69 hK69  _ _ _ _ _ _ hF) rfl ⟨rfl, rfl, rfl, rfl, trivial⟩
theorem zJ_R_key_135 {X : zkX} (K69 : Int32 → Int32 → Int64 → Int32 → zSt → Option (Int64 × zSt)) (hK69 : ∀ (x2 : Int32) (x3 : Int32) (x4 : Int64) (x6 : Int32) (s : zSt) r, K69 x2 x3 x4 x6 s = some r → zk_W X 3 m_R_key (69, [(0, .ref 7), (2, .int x2), (3, .int x3), (4, .long x4), (6, .int x6)], [], zHp s) (fun o => o = zoL r)) (K84 : Int32 → Int32 → Int64 → Int32 → Int32 → Int32 → zSt → Option (Int64 × zSt)) (hK84 : ∀ (x2 : Int32) (x3 : Int32) (x4 : Int64) (x6 : Int32) (x7 : Int32) (x8 : Int32) (s : zSt) r, K84 x2 x3 x4 x6 x7 x8 s = some r → zk_W X 3 m_R_key (84, [(0, .ref 7), (2, .int x2), (3, .int x3), (4, .long x4), (6, .int x6), (7, .int x7), (8, .int x8)], [], zHp s) (fun o => o = zoL r)) (x2 : Int32) (x3 : Int32) (x4 : Int64) (x6 : Int32) (x8 : Int32) (y0 : Int32) (s : zSt) (r) (hF : F_R_key_135  K69 K84 x2 x3 x4 x6 x8 y0 s = some r) : zk_W X 3 m_R_key (135, [(0, .ref 7), (2, .int x2), (3, .int x3), (4, .long x4), (6, .int x6), (8, .int x8)], [.int y0], zHp s) (fun o => o = zoL r) := by
  unfold F_R_key_135 at hF
  refine zi_istore rfl rfl rfl ?_
  refine zi_iinc (y := (x8 + (1 : Int32))) rfl rfl rfl rfl rfl ?_
  refine zi_goto rfl ?_
  exact zk_sb (hK84 _ _ _ _ _ _ _ _ hF) rfl ⟨rfl, rfl, rfl, rfl, rfl, rfl, rfl, trivial⟩
theorem zJ_R_key_133 {X : zkX} (K69 : Int32 → Int32 → Int64 → Int32 → zSt → Option (Int64 × zSt)) (hK69 : ∀ (x2 : Int32) (x3 : Int32) (x4 : Int64) (x6 : Int32) (s : zSt) r, K69 x2 x3 x4 x6 s = some r → zk_W X 3 m_R_key (69, [(0, .ref 7), (2, .int x2), (3, .int x3), (4, .long x4), (6, .int x6)], [], zHp s) (fun o => o = zoL r)) (K84 : Int32 → Int32 → Int64 → Int32 → Int32 → Int32 → zSt → Option (Int64 × zSt)) (hK84 : ∀ (x2 : Int32) (x3 : Int32) (x4 : Int64) (x6 : Int32) (x7 : Int32) (x8 : Int32) (s : zSt) r, K84 x2 x3 x4 x6 x7 x8 s = some r → zk_W X 3 m_R_key (84, [(0, .ref 7), (2, .int x2), (3, .int x3), (4, .long x4), (6, .int x6), (7, .int x7), (8, .int x8)], [], zHp s) (fun o => o = zoL r)) (x2 : Int32) (x3 : Int32) (x4 : Int64) (x6 : Int32) (x7 : Int32) (x8 : Int32) (s : zSt) (r) (hF : F_R_key_133  K69 K84 x2 x3 x4 x6 x7 x8 s = some r) : zk_W X 3 m_R_key (133, [(0, .ref 7), (2, .int x2), (3, .int x3), (4, .long x4), (6, .int x6), (7, .int x7), (8, .int x8)], [], zHp s) (fun o => o = zoL r) := by
  unfold F_R_key_133 at hF
  refine zi_iload rfl rfl ?_
  exact zk_sb (zJ_R_key_135 K69 hK69 K84 hK84  _ _ _ _ _ _ _ _ hF) rfl ⟨rfl, rfl, rfl, rfl, rfl, rfl, trivial⟩
theorem zJ_R_key_84 {X : zkX} (K69 : Int32 → Int32 → Int64 → Int32 → zSt → Option (Int64 × zSt)) (hK69 : ∀ (x2 : Int32) (x3 : Int32) (x4 : Int64) (x6 : Int32) (s : zSt) r, K69 x2 x3 x4 x6 s = some r → zk_W X 3 m_R_key (69, [(0, .ref 7), (2, .int x2), (3, .int x3), (4, .long x4), (6, .int x6)], [], zHp s) (fun o => o = zoL r)) : ∀ (n : Nat) (x2 : Int32) (x3 : Int32) (x4 : Int64) (x6 : Int32) (x7 : Int32) (x8 : Int32) (s : zSt) (r), F_R_key_84  K69 n x2 x3 x4 x6 x7 x8 s = some r → zk_W X 3 m_R_key (84, [(0, .ref 7), (2, .int x2), (3, .int x3), (4, .long x4), (6, .int x6), (7, .int x7), (8, .int x8)], [], zHp s) (fun o => o = zoL r) := by
  intro n
  induction n with
  | zero => intro x2 x3 x4 x6 x7 x8 s r hF; cases hF
  | succ n ih =>
    intro x2 x3 x4 x6 x7 x8 s r hF
    rw [F_R_key_84] at hF
    refine zi_iload rfl rfl ?_
    refine zi_aload_n rfl rfl ?_
    refine zi_getfield rfl rfl (zh_R _) rfl ?_
    refine zi_icge rfl (fun hc => ?_) (fun hc => ?_)
    · have hF := zf_p hc hF
      exact zk_sb (zJ_R_key_143 K69 hK69  _ _ _ _ _ _ _ hF) rfl ⟨rfl, rfl, rfl, rfl, rfl, rfl, trivial⟩
    · have hF := zf_n hc hF
      refine zi_aload_n rfl rfl ?_
      refine zi_getfield rfl rfl (zh_R _) rfl ?_
      refine zi_iload rfl rfl ?_
      obtain ⟨hb, hF⟩ := zf_g hF
      refine zi_iaload rfl (zr_A5 _ _) (zin_ok hb) ?_
      refine zi_iload_n rfl rfl ?_
      refine zi_icne rfl (fun hc => ?_) (fun hc => ?_)
      · have hF := zf_n hc hF
        exact zk_sb (zJ_R_key_143 K69 hK69  _ _ _ _ _ _ _ hF) rfl ⟨rfl, rfl, rfl, rfl, rfl, rfl, trivial⟩
      · have hF := zf_p hc hF
        refine zi_aload_n rfl rfl ?_
        refine zi_getfield rfl rfl (zh_R _) rfl ?_
        refine zi_iload rfl rfl ?_
        obtain ⟨hb, hF⟩ := zf_g hF
        refine zi_iaload rfl (zr_A5 _ _) (zin_ok hb) ?_
        refine zi_iload_n rfl rfl ?_
        refine zi_icne rfl (fun hc => ?_) (fun hc => ?_)
        · have hF := zf_n hc hF
          exact zk_sb (zJ_R_key_133 K69 hK69 (F_R_key_84 K69 n) ih  _ _ _ _ _ _ _ _ hF) rfl ⟨rfl, rfl, rfl, rfl, rfl, rfl, rfl, trivial⟩
        · have hF := zf_p hc hF
          refine zi_aload_n rfl rfl ?_
          refine zi_iload rfl rfl ?_
          refine zi_iload rfl rfl ?_
          obtain ⟨v5, s6, hm, hF⟩ := zf_b hF
          refine zi_callV rfl rfl rfl (zh_R _) rfl (zk_C.to (zk_C.up (by decide) (zF_R_isBefore hm)) (fun o ho => zk_K.okv ho ?_))
          refine zi_ifeq rfl (fun hc => ?_) (fun hc => ?_)
          · have hF := zf_p hc hF
            exact zk_sb (zJ_R_key_133 K69 hK69 (F_R_key_84 K69 n) ih  _ _ _ _ _ _ _ _ hF) rfl ⟨rfl, rfl, rfl, rfl, rfl, rfl, rfl, trivial⟩
          · have hF := zf_n hc hF
            refine zi_iload rfl rfl ?_
            refine zi_iconst (v := (1 : Int32)) rfl rfl ?_
            refine zi_iadd rfl ?_
            refine zi_goto rfl ?_
            exact zk_sb (zJ_R_key_135 K69 hK69 (F_R_key_84 K69 n) ih  _ _ _ _ _ _ _ _ hF) rfl ⟨rfl, rfl, rfl, rfl, rfl, rfl, trivial⟩
theorem zJ_R_key_69 {X : zkX} : ∀ (n : Nat) (x2 : Int32) (x3 : Int32) (x4 : Int64) (x6 : Int32) (s : zSt) (r), F_R_key_69   n x2 x3 x4 x6 s = some r → zk_W X 3 m_R_key (69, [(0, .ref 7), (2, .int x2), (3, .int x3), (4, .long x4), (6, .int x6)], [], zHp s) (fun o => o = zoL r) := by
  intro n
  induction n with
  | zero => intro x2 x3 x4 x6 s r hF; cases hF
  | succ n ih =>
    intro x2 x3 x4 x6 s r hF
    rw [F_R_key_69] at hF
    refine zi_iload rfl rfl ?_
    refine zi_aload_n rfl rfl ?_
    refine zi_getfield rfl rfl (zh_R _) rfl ?_
    refine zi_icge rfl (fun hc => ?_) (fun hc => ?_)
    · have hF := zf_p hc hF
      refine zi_lload rfl rfl ?_
      cases hF
      exact zi_lreturn rfl rfl rfl
    · have hF := zf_n hc hF
      refine zi_iconst (v := (0 : Int32)) rfl rfl ?_
      refine zi_istore rfl rfl rfl ?_
      refine zi_iconst (v := (0 : Int32)) rfl rfl ?_
      refine zi_istore rfl rfl rfl ?_
      exact zk_sb (zJ_R_key_84 (F_R_key_69  n) ih zFuel _ _ _ _ _ _ _ _ hF) rfl ⟨rfl, rfl, rfl, rfl, rfl, rfl, rfl, trivial⟩
theorem zJ_R_key_48 {X : zkX} (x1 : Int32) (x2 : Int32) (y0 : Int32) (s : zSt) (r) (hF : F_R_key_48   x1 x2 y0 s = some r) : zk_W X 3 m_R_key (48, [(0, .ref 7), (1, .int x1), (2, .int x2)], [.int y0, .ref 7], zHp s) (fun o => o = zoL r) := by
  unfold F_R_key_48 at hF
  obtain ⟨v3, s4, hm, hF⟩ := zf_b hF
  refine zi_callV rfl rfl rfl (zh_R _) rfl (zk_C.to (zk_C.up (by decide) (zF_R_says hm)) (fun o ho => zk_K.okv ho ?_))
  refine zi_ifne rfl (fun hc => ?_) (fun hc => ?_)
  · have hF := zf_n hc hF
    refine zi_aload_n rfl rfl ?_
    refine zi_getfield rfl rfl (zh_R _) rfl ?_
    refine zi_iload_n rfl rfl ?_
    obtain ⟨hb, hF⟩ := zf_g hF
    refine zi_iaload rfl (zr_A1 _ _) (zin_ok hb) ?_
    refine zi_istore_n rfl rfl rfl ?_
    refine zi_lconst (v := (0 : Int64)) rfl rfl ?_
    refine zi_lstore rfl rfl rfl ?_
    refine zi_iconst (v := (0 : Int32)) rfl rfl ?_
    refine zi_istore rfl rfl rfl ?_
    exact zk_sb (zJ_R_key_69  zFuel _ _ _ _ _ _ hF) rfl ⟨rfl, rfl, rfl, rfl, rfl, trivial⟩
  · have hF := zf_p hc hF
    refine zi_lconst (v := (0 : Int64)) rfl rfl ?_
    cases hF
    exact zi_lreturn rfl rfl rfl
theorem zJ_R_key_47 {X : zkX} (x1 : Int32) (x2 : Int32) (s : zSt) (r) (hF : F_R_key_47   x1 x2 s = some r) : zk_W X 3 m_R_key (47, [(0, .ref 7), (1, .int x1), (2, .int x2)], [.ref 7], zHp s) (fun o => o = zoL r) := by
  unfold F_R_key_47 at hF
  refine zi_iconst (v := (0 : Int32)) rfl rfl ?_
  exact zk_sb (zJ_R_key_48   _ _ _ _ _ hF) rfl ⟨rfl, rfl, rfl, trivial⟩
theorem zJ_R_key_31 {X : zkX} (x1 : Int32) (x2 : Int32) (y0 : Int32) (y2 : Int64) (y3 : Int64) (s : zSt) (r) (hF : F_R_key_31   x1 x2 y0 y2 y3 s = some r) : zk_W X 3 m_R_key (31, [(0, .ref 7), (1, .int x1), (2, .int x2)], [.int y0, .ref 7, .long y2, .long y3, .ref 7], zHp s) (fun o => o = zoL r) := by
  unfold F_R_key_31 at hF
  obtain ⟨v9, s10, hm, hF⟩ := zf_b hF
  refine zi_callV rfl rfl rfl (zh_R _) rfl (zk_C.to (zk_C.up (by decide) (zF_R_count hm)) (fun o ho => zk_K.okv ho ?_))
  refine zi_iconst (v := (1 : Int32)) rfl rfl ?_
  refine zi_isub rfl ?_
  refine zi_i2l rfl ?_
  obtain ⟨v11, s12, hm, hF⟩ := zf_b hF
  refine zi_callS rfl rfl rfl rfl (zk_C.to (zk_C.up (by decide) (zF_R_in hm)) (fun o ho => zk_K.okv ho ?_))
  refine zi_ifeq rfl (fun hc => ?_) (fun hc => ?_)
  · have hF := zf_p hc hF
    exact zk_sb (zJ_R_key_47   _ _ _ _ hF) rfl ⟨rfl, rfl, rfl, trivial⟩
  · have hF := zf_n hc hF
    refine zi_iconst (v := (1 : Int32)) rfl rfl ?_
    refine zi_goto rfl ?_
    exact zk_sb (zJ_R_key_48   _ _ _ _ _ hF) rfl ⟨rfl, rfl, rfl, trivial⟩
theorem zF_R_key {X : zkX} {p1 : Int32} {p2 : Int32} {s : zSt} {r} (hF : F_R_key p1 p2 s = some r) : zk_C X 4 m_R_key [.ref 7, .int p1, .int p2] (zHp s) (fun o => o = zoL r) := by
  unfold F_R_key at hF
  refine zk_enter (lv := [(0, .ref 7), (1, .int p1), (2, .int p2)]) rfl rfl ?_
  refine zi_aload_n rfl rfl ?_
  refine zi_aload_n rfl rfl ?_
  refine zi_iload_n rfl rfl ?_
  obtain ⟨v1, s2, hm, hF⟩ := zf_b hF
  refine zi_callV rfl rfl rfl (zh_R _) rfl (zk_C.to (zk_C.up (by decide) (zF_R_holds hm)) (fun o ho => zk_K.okv ho ?_))
  refine zi_ifeq rfl (fun hc => ?_) (fun hc => ?_)
  · have hF := zf_p hc hF
    exact zk_sb (zJ_R_key_47   _ _ _ _ hF) rfl ⟨rfl, rfl, rfl, trivial⟩
  · have hF := zf_n hc hF
    refine zi_iload_n rfl rfl ?_
    refine zi_i2l rfl ?_
    refine zi_lconst (v := (0 : Int64)) rfl rfl ?_
    refine zi_aload_n rfl rfl ?_
    refine zi_aload_n rfl rfl ?_
    refine zi_iload_n rfl rfl ?_
    obtain ⟨v7, s8, hm, hF⟩ := zf_b hF
    refine zi_callV rfl rfl rfl (zh_R _) rfl (zk_C.to (zk_C.up (by decide) (zF_R_holds hm)) (fun o ho => zk_K.okv ho ?_))
    refine zi_ifeq rfl (fun hc => ?_) (fun hc => ?_)
    · have hF := zf_p hc hF
      refine zi_iconst (v := (0 : Int32)) rfl rfl ?_
      exact zk_sb (zJ_R_key_31   _ _ _ _ _ _ _ hF) rfl ⟨rfl, rfl, rfl, trivial⟩
    · have hF := zf_n hc hF
      refine zi_aload_n rfl rfl ?_
      refine zi_getfield rfl rfl (zh_R _) rfl ?_
      refine zi_iload_n rfl rfl ?_
      obtain ⟨hb, hF⟩ := zf_g hF
      refine zi_iaload rfl (zr_A1 _ _) (zin_ok hb) ?_
      refine zi_goto rfl ?_
      exact zk_sb (zJ_R_key_31   _ _ _ _ _ _ _ hF) rfl ⟨rfl, rfl, rfl, trivial⟩
/-! m_R_lock -/
def F_R_lock_107 (K47 : Int32 → Int32 → Int32 → zSt → Option (Unit × zSt)) (x1 : Int32) (x2 : Int32) (x3 : Int32) (s : zSt) : Option (Unit × zSt) := K47 (x1) (x2) ((x3 + (1 : Int32))) s
def F_R_lock_85 (K47 : Int32 → Int32 → Int32 → zSt → Option (Unit × zSt)) (x1 : Int32) (x2 : Int32) (x3 : Int32) (s : zSt) : Option (Unit × zSt) := (if x2 ≤ (1 : Int32) then F_R_lock_107  K47  (x1) (x2) (x3) s else (zb (F_R_has_0 (x3) ((64 : Int32)) s) (fun v5 s6 => (if v5 = 0 then (zb (F_R_put_0 (x3) ((2 : Int32)) ((0 : Int32)) s6) (fun v7 s8 => F_R_lock_107  K47  (x1) (x2) (x3) s8)) else F_R_lock_107  K47  (x1) (x2) (x3) s6))))
def F_R_lock_47  : Nat → Int32 → Int32 → Int32 → zSt → Option (Unit × zSt)
  | 0, _, _, _, _ => none
  | n + 1, x1, x2, x3, s => (if (gI s 15) ≤ x3 then some ((), s) else (if zin x3 8400 then (if zin x1 24 then (if (gA s 5 (x3).toNatClampNeg) = (gA s 1 (x1).toNatClampNeg) then (if x2 ≤ 0 then F_R_lock_85  (F_R_lock_47  n)  (x1) (x2) (x3) s else (zb (F_R_put_0 (x3) ((32 : Int32)) ((0 : Int32)) s) (fun v9 s10 => F_R_lock_85  (F_R_lock_47  n)  (x1) (x2) (x3) s10))) else F_R_lock_107  (F_R_lock_47  n)  (x1) (x2) (x3) s) else none) else none))
def F_R_lock_26 (x1 : Int32) (x2 : Int32) (y0 : Int32) (s : zSt) : Option (Unit × zSt) := (zb (F_R_says (y0) s) (fun v3 s4 => (if v3 = 0 then some ((), s4) else (if zin x1 24 then (if zin (gA s4 1 (x1).toNatClampNeg) 4200 then F_R_lock_47   zFuel (x1) (x2) ((0 : Int32)) (sA s4 4 (upd (gA s4 4) ((gA s4 1 (x1).toNatClampNeg)).toNatClampNeg (vp_nar .boolean (1 : Int32)))) else none) else none))))
def F_R_lock_25 (x1 : Int32) (x2 : Int32) (s : zSt) : Option (Unit × zSt) := F_R_lock_26    (x1) (x2) ((0 : Int32)) s
def F_R_lock (p1 : Int32) (p2 : Int32) (s : zSt) : Option (Unit × zSt) := (zb (F_R_holds (p1) s) (fun v1 s2 => (if v1 = 0 then F_R_lock_25    (p1) (p2) s2 else (zb (F_R_in ((p2).toInt64) ((0 : Int64)) ((2 : Int64)) s2) (fun v11 s12 => (if v11 = 0 then F_R_lock_25    (p1) (p2) s12 else F_R_lock_26    (p1) (p2) ((1 : Int32)) s12))))))
theorem zJ_R_lock_107 {X : zkX} (K47 : Int32 → Int32 → Int32 → zSt → Option (Unit × zSt)) (hK47 : ∀ (x1 : Int32) (x2 : Int32) (x3 : Int32) (s : zSt) r, K47 x1 x2 x3 s = some r → zk_W X 3 m_R_lock (47, [(0, .ref 7), (1, .int x1), (2, .int x2), (3, .int x3)], [], zHp s) (fun o => o = zoU r)) (x1 : Int32) (x2 : Int32) (x3 : Int32) (s : zSt) (r) (hF : F_R_lock_107  K47 x1 x2 x3 s = some r) : zk_W X 3 m_R_lock (107, [(0, .ref 7), (1, .int x1), (2, .int x2), (3, .int x3)], [], zHp s) (fun o => o = zoU r) := by
  unfold F_R_lock_107 at hF
  refine zi_iinc (y := (x3 + (1 : Int32))) rfl rfl rfl rfl rfl ?_
  refine zi_goto rfl ?_
  exact zk_sb (hK47 _ _ _ _ _ hF) rfl ⟨rfl, rfl, rfl, rfl, trivial⟩
theorem zJ_R_lock_85 {X : zkX} (K47 : Int32 → Int32 → Int32 → zSt → Option (Unit × zSt)) (hK47 : ∀ (x1 : Int32) (x2 : Int32) (x3 : Int32) (s : zSt) r, K47 x1 x2 x3 s = some r → zk_W X 3 m_R_lock (47, [(0, .ref 7), (1, .int x1), (2, .int x2), (3, .int x3)], [], zHp s) (fun o => o = zoU r)) (x1 : Int32) (x2 : Int32) (x3 : Int32) (s : zSt) (r) (hF : F_R_lock_85  K47 x1 x2 x3 s = some r) : zk_W X 3 m_R_lock (85, [(0, .ref 7), (1, .int x1), (2, .int x2), (3, .int x3)], [], zHp s) (fun o => o = zoU r) := by
  unfold F_R_lock_85 at hF
  refine zi_iload_n rfl rfl ?_
  refine zi_iconst (v := (1 : Int32)) rfl rfl ?_
  refine zi_icle rfl (fun hc => ?_) (fun hc => ?_)
  · have hF := zf_p hc hF
    exact zk_sb (zJ_R_lock_107 K47 hK47  _ _ _ _ _ hF) rfl ⟨rfl, rfl, rfl, rfl, trivial⟩
  · have hF := zf_n hc hF
    refine zi_aload_n rfl rfl ?_
    refine zi_iload_n rfl rfl ?_
    refine zi_bipush (v := (64 : Int32)) rfl rfl ?_
    obtain ⟨v5, s6, hm, hF⟩ := zf_b hF
    refine zi_callV rfl rfl rfl (zh_R _) rfl (zk_C.to (zk_C.up (by decide) (zF_R_has_0 hm)) (fun o ho => zk_K.okv ho ?_))
    refine zi_ifne rfl (fun hc => ?_) (fun hc => ?_)
    · have hF := zf_n hc hF
      exact zk_sb (zJ_R_lock_107 K47 hK47  _ _ _ _ _ hF) rfl ⟨rfl, rfl, rfl, rfl, trivial⟩
    · have hF := zf_p hc hF
      refine zi_aload_n rfl rfl ?_
      refine zi_iload_n rfl rfl ?_
      refine zi_iconst (v := (2 : Int32)) rfl rfl ?_
      refine zi_iconst (v := (0 : Int32)) rfl rfl ?_
      obtain ⟨v7, s8, hm, hF⟩ := zf_b hF
      refine zi_callV rfl rfl rfl (zh_R _) rfl (zk_C.to (zk_C.up (by decide) (zF_R_put_0 hm)) (fun o ho => zk_K.okn ho ?_))
      exact zk_sb (zJ_R_lock_107 K47 hK47  _ _ _ _ _ hF) rfl ⟨rfl, rfl, rfl, rfl, trivial⟩
theorem zJ_R_lock_47 {X : zkX} : ∀ (n : Nat) (x1 : Int32) (x2 : Int32) (x3 : Int32) (s : zSt) (r), F_R_lock_47   n x1 x2 x3 s = some r → zk_W X 3 m_R_lock (47, [(0, .ref 7), (1, .int x1), (2, .int x2), (3, .int x3)], [], zHp s) (fun o => o = zoU r) := by
  intro n
  induction n with
  | zero => intro x1 x2 x3 s r hF; cases hF
  | succ n ih =>
    intro x1 x2 x3 s r hF
    rw [F_R_lock_47] at hF
    refine zi_iload_n rfl rfl ?_
    refine zi_aload_n rfl rfl ?_
    refine zi_getfield rfl rfl (zh_R _) rfl ?_
    refine zi_icge rfl (fun hc => ?_) (fun hc => ?_)
    · have hF := zf_p hc hF
      cases hF
      exact zi_return rfl rfl rfl
    · have hF := zf_n hc hF
      refine zi_aload_n rfl rfl ?_
      refine zi_getfield rfl rfl (zh_R _) rfl ?_
      refine zi_iload_n rfl rfl ?_
      obtain ⟨hb, hF⟩ := zf_g hF
      refine zi_iaload rfl (zr_A5 _ _) (zin_ok hb) ?_
      refine zi_aload_n rfl rfl ?_
      refine zi_getfield rfl rfl (zh_R _) rfl ?_
      refine zi_iload_n rfl rfl ?_
      obtain ⟨hb, hF⟩ := zf_g hF
      refine zi_iaload rfl (zr_A1 _ _) (zin_ok hb) ?_
      refine zi_iceq rfl (fun hc => ?_) (fun hc => ?_)
      · have hF := zf_p hc hF
        refine zi_iload_n rfl rfl ?_
        refine zi_ifle rfl (fun hc => ?_) (fun hc => ?_)
        · have hF := zf_p hc hF
          exact zk_sb (zJ_R_lock_85 (F_R_lock_47  n) ih  _ _ _ _ _ hF) rfl ⟨rfl, rfl, rfl, rfl, trivial⟩
        · have hF := zf_n hc hF
          refine zi_aload_n rfl rfl ?_
          refine zi_iload_n rfl rfl ?_
          refine zi_bipush (v := (32 : Int32)) rfl rfl ?_
          refine zi_iconst (v := (0 : Int32)) rfl rfl ?_
          obtain ⟨v9, s10, hm, hF⟩ := zf_b hF
          refine zi_callV rfl rfl rfl (zh_R _) rfl (zk_C.to (zk_C.up (by decide) (zF_R_put_0 hm)) (fun o ho => zk_K.okn ho ?_))
          exact zk_sb (zJ_R_lock_85 (F_R_lock_47  n) ih  _ _ _ _ _ hF) rfl ⟨rfl, rfl, rfl, rfl, trivial⟩
      · have hF := zf_n hc hF
        refine zi_goto rfl ?_
        exact zk_sb (zJ_R_lock_107 (F_R_lock_47  n) ih  _ _ _ _ _ hF) rfl ⟨rfl, rfl, rfl, rfl, trivial⟩
theorem zJ_R_lock_26 {X : zkX} (x1 : Int32) (x2 : Int32) (y0 : Int32) (s : zSt) (r) (hF : F_R_lock_26   x1 x2 y0 s = some r) : zk_W X 3 m_R_lock (26, [(0, .ref 7), (1, .int x1), (2, .int x2)], [.int y0, .ref 7], zHp s) (fun o => o = zoU r) := by
  unfold F_R_lock_26 at hF
  obtain ⟨v3, s4, hm, hF⟩ := zf_b hF
  refine zi_callV rfl rfl rfl (zh_R _) rfl (zk_C.to (zk_C.up (by decide) (zF_R_says hm)) (fun o ho => zk_K.okv ho ?_))
  refine zi_ifne rfl (fun hc => ?_) (fun hc => ?_)
  · have hF := zf_n hc hF
    refine zi_aload_n rfl rfl ?_
    refine zi_getfield rfl rfl (zh_R _) rfl ?_
    refine zi_aload_n rfl rfl ?_
    refine zi_getfield rfl rfl (zh_R _) rfl ?_
    refine zi_iload_n rfl rfl ?_
    obtain ⟨hb, hF⟩ := zf_g hF
    refine zi_iaload rfl (zr_A1 _ _) (zin_ok hb) ?_
    refine zi_iconst (v := (1 : Int32)) rfl rfl ?_
    obtain ⟨hb, hF⟩ := zf_g hF
    refine zi_bastore rfl (zh_A4 _) (zin_ok hb) rfl (zs_A4 _ _) ?_
    refine zi_iconst (v := (0 : Int32)) rfl rfl ?_
    refine zi_istore_n rfl rfl rfl ?_
    exact zk_sb (zJ_R_lock_47  zFuel _ _ _ _ _ hF) rfl ⟨rfl, rfl, rfl, rfl, trivial⟩
  · have hF := zf_p hc hF
    cases hF
    exact zi_return rfl rfl rfl
theorem zJ_R_lock_25 {X : zkX} (x1 : Int32) (x2 : Int32) (s : zSt) (r) (hF : F_R_lock_25   x1 x2 s = some r) : zk_W X 3 m_R_lock (25, [(0, .ref 7), (1, .int x1), (2, .int x2)], [.ref 7], zHp s) (fun o => o = zoU r) := by
  unfold F_R_lock_25 at hF
  refine zi_iconst (v := (0 : Int32)) rfl rfl ?_
  exact zk_sb (zJ_R_lock_26   _ _ _ _ _ hF) rfl ⟨rfl, rfl, rfl, trivial⟩
theorem zF_R_lock {X : zkX} {p1 : Int32} {p2 : Int32} {s : zSt} {r} (hF : F_R_lock p1 p2 s = some r) : zk_C X 4 m_R_lock [.ref 7, .int p1, .int p2] (zHp s) (fun o => o = zoU r) := by
  unfold F_R_lock at hF
  refine zk_enter (lv := [(0, .ref 7), (1, .int p1), (2, .int p2)]) rfl rfl ?_
  refine zi_aload_n rfl rfl ?_
  refine zi_aload_n rfl rfl ?_
  refine zi_iload_n rfl rfl ?_
  obtain ⟨v1, s2, hm, hF⟩ := zf_b hF
  refine zi_callV rfl rfl rfl (zh_R _) rfl (zk_C.to (zk_C.up (by decide) (zF_R_holds hm)) (fun o ho => zk_K.okv ho ?_))
  refine zi_ifeq rfl (fun hc => ?_) (fun hc => ?_)
  · have hF := zf_p hc hF
    exact zk_sb (zJ_R_lock_25   _ _ _ _ hF) rfl ⟨rfl, rfl, rfl, trivial⟩
  · have hF := zf_n hc hF
    refine zi_iload_n rfl rfl ?_
    refine zi_i2l rfl ?_
    refine zi_lconst (v := (0 : Int64)) rfl rfl ?_
    refine zi_ldc2_w (v := (2 : Int64)) rfl rfl ?_
    obtain ⟨v11, s12, hm, hF⟩ := zf_b hF
    refine zi_callS rfl rfl rfl rfl (zk_C.to (zk_C.up (by decide) (zF_R_in hm)) (fun o ho => zk_K.okv ho ?_))
    refine zi_ifeq rfl (fun hc => ?_) (fun hc => ?_)
    · have hF := zf_p hc hF
      exact zk_sb (zJ_R_lock_25   _ _ _ _ hF) rfl ⟨rfl, rfl, rfl, trivial⟩
    · have hF := zf_n hc hF
      refine zi_iconst (v := (1 : Int32)) rfl rfl ?_
      refine zi_goto rfl ?_
      exact zk_sb (zJ_R_lock_26   _ _ _ _ _ hF) rfl ⟨rfl, rfl, rfl, trivial⟩
/-! m_R_locked -/
def F_R_locked_151 (K49 : Int32 → Int32 → Int32 → Int32 → zSt → Option (Int32 × zSt)) (x1 : Int32) (x2 : Int32) (x4 : Int32) (y0 : Int32) (s : zSt) : Option (Int32 × zSt) := K49 (x1) (x2) (y0) ((x4 + (1 : Int32))) s
def F_R_locked_150 (K49 : Int32 → Int32 → Int32 → Int32 → zSt → Option (Int32 × zSt)) (x1 : Int32) (x2 : Int32) (x4 : Int32) (s : zSt) : Option (Int32 × zSt) := F_R_locked_151  K49  (x1) (x2) (x4) ((0 : Int32)) s
def F_R_locked_146 (K49 : Int32 → Int32 → Int32 → Int32 → zSt → Option (Int32 × zSt)) (x1 : Int32) (x2 : Int32) (x4 : Int32) (s : zSt) : Option (Int32 × zSt) := F_R_locked_151  K49  (x1) (x2) (x4) ((1 : Int32)) s
def F_R_locked_110 (K49 : Int32 → Int32 → Int32 → Int32 → zSt → Option (Int32 × zSt)) (x1 : Int32) (x2 : Int32) (x4 : Int32) (x5 : Int32) (y0 : Int32) (s : zSt) : Option (Int32 × zSt) := (if y0 = 0 then F_R_locked_150  K49  (x1) (x2) (x4) s else (if x5 = 0 then F_R_locked_146  K49  (x1) (x2) (x4) s else (if x2 < (2 : Int32) then F_R_locked_146  K49  (x1) (x2) (x4) s else (zb (F_R_has_0 (x4) ((64 : Int32)) s) (fun v5 s6 => (if v5 = 0 then (zb (F_R_has_0 (x4) ((2 : Int32)) s6) (fun v7 s8 => (if v7 = 0 then F_R_locked_146  K49  (x1) (x2) (x4) s8 else F_R_locked_150  K49  (x1) (x2) (x4) s8))) else F_R_locked_146  K49  (x1) (x2) (x4) s6))))))
def F_R_locked_109 (K49 : Int32 → Int32 → Int32 → Int32 → zSt → Option (Int32 × zSt)) (x1 : Int32) (x2 : Int32) (x4 : Int32) (x5 : Int32) (s : zSt) : Option (Int32 × zSt) := F_R_locked_110  K49  (x1) (x2) (x4) (x5) ((0 : Int32)) s
def F_R_locked_105 (K49 : Int32 → Int32 → Int32 → Int32 → zSt → Option (Int32 × zSt)) (x1 : Int32) (x2 : Int32) (x4 : Int32) (x5 : Int32) (s : zSt) : Option (Int32 × zSt) := F_R_locked_110  K49  (x1) (x2) (x4) (x5) ((1 : Int32)) s
def F_R_locked_79 (K49 : Int32 → Int32 → Int32 → Int32 → zSt → Option (Int32 × zSt)) (x1 : Int32) (x2 : Int32) (x3 : Int32) (x4 : Int32) (y0 : Int32) (s : zSt) : Option (Int32 × zSt) := (if x3 = 0 then F_R_locked_109  K49  (x1) (x2) (x4) (y0) s else (if y0 = 0 then F_R_locked_105  K49  (x1) (x2) (x4) (y0) s else (if x2 = 0 then F_R_locked_105  K49  (x1) (x2) (x4) (y0) s else (zb (F_R_has_0 (x4) ((32 : Int32)) s) (fun v9 s10 => (if v9 = 0 then F_R_locked_105  K49  (x1) (x2) (x4) (y0) s10 else F_R_locked_109  K49  (x1) (x2) (x4) (y0) s10))))))
def F_R_locked_49  : Nat → Int32 → Int32 → Int32 → Int32 → zSt → Option (Int32 × zSt)
  | 0, _, _, _, _, _ => none
  | n + 1, x1, x2, x3, x4, s => (if (gI s 15) ≤ x4 then (if vp_nar .boolean x3 = x3 then some (x3, s) else none) else (if zin x4 8400 then (if zin x1 24 then (if (gA s 5 (x4).toNatClampNeg) = (gA s 1 (x1).toNatClampNeg) then F_R_locked_79  (F_R_locked_49  n)  (x1) (x2) (x3) (x4) ((1 : Int32)) s else F_R_locked_79  (F_R_locked_49  n)  (x1) (x2) (x3) (x4) ((0 : Int32)) s) else none) else none))
def F_R_locked_26 (x1 : Int32) (x2 : Int32) (y0 : Int32) (s : zSt) : Option (Int32 × zSt) := (zb (F_R_says (y0) s) (fun v3 s4 => (if v3 = 0 then some ((0 : Int32), s4) else (if zin x1 24 then (if zin (gA s4 1 (x1).toNatClampNeg) 4200 then F_R_locked_49   zFuel (x1) (x2) ((gA s4 4 ((gA s4 1 (x1).toNatClampNeg)).toNatClampNeg)) ((0 : Int32)) s4 else none) else none))))
def F_R_locked_25 (x1 : Int32) (x2 : Int32) (s : zSt) : Option (Int32 × zSt) := F_R_locked_26    (x1) (x2) ((0 : Int32)) s
def F_R_locked (p1 : Int32) (p2 : Int32) (s : zSt) : Option (Int32 × zSt) := (zb (F_R_holds (p1) s) (fun v1 s2 => (if v1 = 0 then F_R_locked_25    (p1) (p2) s2 else (zb (F_R_in ((p2).toInt64) ((0 : Int64)) ((2 : Int64)) s2) (fun v11 s12 => (if v11 = 0 then F_R_locked_25    (p1) (p2) s12 else F_R_locked_26    (p1) (p2) ((1 : Int32)) s12))))))
theorem zJ_R_locked_151 {X : zkX} (K49 : Int32 → Int32 → Int32 → Int32 → zSt → Option (Int32 × zSt)) (hK49 : ∀ (x1 : Int32) (x2 : Int32) (x3 : Int32) (x4 : Int32) (s : zSt) r, K49 x1 x2 x3 x4 s = some r → zk_W X 3 m_R_locked (49, [(0, .ref 7), (1, .int x1), (2, .int x2), (3, .int x3), (4, .int x4)], [], zHp s) (fun o => o = zoI r)) (x1 : Int32) (x2 : Int32) (x4 : Int32) (y0 : Int32) (s : zSt) (r) (hF : F_R_locked_151  K49 x1 x2 x4 y0 s = some r) : zk_W X 3 m_R_locked (151, [(0, .ref 7), (1, .int x1), (2, .int x2), (4, .int x4)], [.int y0], zHp s) (fun o => o = zoI r) := by
  unfold F_R_locked_151 at hF
  refine zi_istore_n rfl rfl rfl ?_
  refine zi_iinc (y := (x4 + (1 : Int32))) rfl rfl rfl rfl rfl ?_
  refine zi_goto rfl ?_
  exact zk_sb (hK49 _ _ _ _ _ _ hF) rfl ⟨rfl, rfl, rfl, rfl, rfl, trivial⟩
theorem zJ_R_locked_150 {X : zkX} (K49 : Int32 → Int32 → Int32 → Int32 → zSt → Option (Int32 × zSt)) (hK49 : ∀ (x1 : Int32) (x2 : Int32) (x3 : Int32) (x4 : Int32) (s : zSt) r, K49 x1 x2 x3 x4 s = some r → zk_W X 3 m_R_locked (49, [(0, .ref 7), (1, .int x1), (2, .int x2), (3, .int x3), (4, .int x4)], [], zHp s) (fun o => o = zoI r)) (x1 : Int32) (x2 : Int32) (x4 : Int32) (s : zSt) (r) (hF : F_R_locked_150  K49 x1 x2 x4 s = some r) : zk_W X 3 m_R_locked (150, [(0, .ref 7), (1, .int x1), (2, .int x2), (4, .int x4)], [], zHp s) (fun o => o = zoI r) := by
  unfold F_R_locked_150 at hF
  refine zi_iconst (v := (0 : Int32)) rfl rfl ?_
  exact zk_sb (zJ_R_locked_151 K49 hK49  _ _ _ _ _ _ hF) rfl ⟨rfl, rfl, rfl, rfl, trivial⟩
theorem zJ_R_locked_146 {X : zkX} (K49 : Int32 → Int32 → Int32 → Int32 → zSt → Option (Int32 × zSt)) (hK49 : ∀ (x1 : Int32) (x2 : Int32) (x3 : Int32) (x4 : Int32) (s : zSt) r, K49 x1 x2 x3 x4 s = some r → zk_W X 3 m_R_locked (49, [(0, .ref 7), (1, .int x1), (2, .int x2), (3, .int x3), (4, .int x4)], [], zHp s) (fun o => o = zoI r)) (x1 : Int32) (x2 : Int32) (x4 : Int32) (s : zSt) (r) (hF : F_R_locked_146  K49 x1 x2 x4 s = some r) : zk_W X 3 m_R_locked (146, [(0, .ref 7), (1, .int x1), (2, .int x2), (4, .int x4)], [], zHp s) (fun o => o = zoI r) := by
  unfold F_R_locked_146 at hF
  refine zi_iconst (v := (1 : Int32)) rfl rfl ?_
  refine zi_goto rfl ?_
  exact zk_sb (zJ_R_locked_151 K49 hK49  _ _ _ _ _ _ hF) rfl ⟨rfl, rfl, rfl, rfl, trivial⟩
theorem zJ_R_locked_110 {X : zkX} (K49 : Int32 → Int32 → Int32 → Int32 → zSt → Option (Int32 × zSt)) (hK49 : ∀ (x1 : Int32) (x2 : Int32) (x3 : Int32) (x4 : Int32) (s : zSt) r, K49 x1 x2 x3 x4 s = some r → zk_W X 3 m_R_locked (49, [(0, .ref 7), (1, .int x1), (2, .int x2), (3, .int x3), (4, .int x4)], [], zHp s) (fun o => o = zoI r)) (x1 : Int32) (x2 : Int32) (x4 : Int32) (x5 : Int32) (y0 : Int32) (s : zSt) (r) (hF : F_R_locked_110  K49 x1 x2 x4 x5 y0 s = some r) : zk_W X 3 m_R_locked (110, [(0, .ref 7), (1, .int x1), (2, .int x2), (4, .int x4), (5, .int x5)], [.int y0], zHp s) (fun o => o = zoI r) := by
  unfold F_R_locked_110 at hF
  refine zi_istore_n rfl rfl rfl ?_
  refine zi_iload_n rfl rfl ?_
  refine zi_ifeq rfl (fun hc => ?_) (fun hc => ?_)
  · have hF := zf_p hc hF
    exact zk_sb (zJ_R_locked_150 K49 hK49  _ _ _ _ _ hF) rfl ⟨rfl, rfl, rfl, rfl, trivial⟩
  · have hF := zf_n hc hF
    refine zi_iload rfl rfl ?_
    refine zi_ifeq rfl (fun hc => ?_) (fun hc => ?_)
    · have hF := zf_p hc hF
      exact zk_sb (zJ_R_locked_146 K49 hK49  _ _ _ _ _ hF) rfl ⟨rfl, rfl, rfl, rfl, trivial⟩
    · have hF := zf_n hc hF
      refine zi_iload_n rfl rfl ?_
      refine zi_iconst (v := (2 : Int32)) rfl rfl ?_
      refine zi_iclt rfl (fun hc => ?_) (fun hc => ?_)
      · have hF := zf_p hc hF
        exact zk_sb (zJ_R_locked_146 K49 hK49  _ _ _ _ _ hF) rfl ⟨rfl, rfl, rfl, rfl, trivial⟩
      · have hF := zf_n hc hF
        refine zi_aload_n rfl rfl ?_
        refine zi_iload rfl rfl ?_
        refine zi_bipush (v := (64 : Int32)) rfl rfl ?_
        obtain ⟨v5, s6, hm, hF⟩ := zf_b hF
        refine zi_callV rfl rfl rfl (zh_R _) rfl (zk_C.to (zk_C.up (by decide) (zF_R_has_0 hm)) (fun o ho => zk_K.okv ho ?_))
        refine zi_ifne rfl (fun hc => ?_) (fun hc => ?_)
        · have hF := zf_n hc hF
          exact zk_sb (zJ_R_locked_146 K49 hK49  _ _ _ _ _ hF) rfl ⟨rfl, rfl, rfl, rfl, trivial⟩
        · have hF := zf_p hc hF
          refine zi_aload_n rfl rfl ?_
          refine zi_iload rfl rfl ?_
          refine zi_iconst (v := (2 : Int32)) rfl rfl ?_
          obtain ⟨v7, s8, hm, hF⟩ := zf_b hF
          refine zi_callV rfl rfl rfl (zh_R _) rfl (zk_C.to (zk_C.up (by decide) (zF_R_has_0 hm)) (fun o ho => zk_K.okv ho ?_))
          refine zi_ifne rfl (fun hc => ?_) (fun hc => ?_)
          · have hF := zf_n hc hF
            exact zk_sb (zJ_R_locked_150 K49 hK49  _ _ _ _ _ hF) rfl ⟨rfl, rfl, rfl, rfl, trivial⟩
          · have hF := zf_p hc hF
            exact zk_sb (zJ_R_locked_146 K49 hK49  _ _ _ _ _ hF) rfl ⟨rfl, rfl, rfl, rfl, trivial⟩
theorem zJ_R_locked_109 {X : zkX} (K49 : Int32 → Int32 → Int32 → Int32 → zSt → Option (Int32 × zSt)) (hK49 : ∀ (x1 : Int32) (x2 : Int32) (x3 : Int32) (x4 : Int32) (s : zSt) r, K49 x1 x2 x3 x4 s = some r → zk_W X 3 m_R_locked (49, [(0, .ref 7), (1, .int x1), (2, .int x2), (3, .int x3), (4, .int x4)], [], zHp s) (fun o => o = zoI r)) (x1 : Int32) (x2 : Int32) (x4 : Int32) (x5 : Int32) (s : zSt) (r) (hF : F_R_locked_109  K49 x1 x2 x4 x5 s = some r) : zk_W X 3 m_R_locked (109, [(0, .ref 7), (1, .int x1), (2, .int x2), (4, .int x4), (5, .int x5)], [], zHp s) (fun o => o = zoI r) := by
  unfold F_R_locked_109 at hF
  refine zi_iconst (v := (0 : Int32)) rfl rfl ?_
  exact zk_sb (zJ_R_locked_110 K49 hK49  _ _ _ _ _ _ _ hF) rfl ⟨rfl, rfl, rfl, rfl, rfl, trivial⟩
theorem zJ_R_locked_105 {X : zkX} (K49 : Int32 → Int32 → Int32 → Int32 → zSt → Option (Int32 × zSt)) (hK49 : ∀ (x1 : Int32) (x2 : Int32) (x3 : Int32) (x4 : Int32) (s : zSt) r, K49 x1 x2 x3 x4 s = some r → zk_W X 3 m_R_locked (49, [(0, .ref 7), (1, .int x1), (2, .int x2), (3, .int x3), (4, .int x4)], [], zHp s) (fun o => o = zoI r)) (x1 : Int32) (x2 : Int32) (x4 : Int32) (x5 : Int32) (s : zSt) (r) (hF : F_R_locked_105  K49 x1 x2 x4 x5 s = some r) : zk_W X 3 m_R_locked (105, [(0, .ref 7), (1, .int x1), (2, .int x2), (4, .int x4), (5, .int x5)], [], zHp s) (fun o => o = zoI r) := by
  unfold F_R_locked_105 at hF
  refine zi_iconst (v := (1 : Int32)) rfl rfl ?_
  refine zi_goto rfl ?_
  exact zk_sb (zJ_R_locked_110 K49 hK49  _ _ _ _ _ _ _ hF) rfl ⟨rfl, rfl, rfl, rfl, rfl, trivial⟩
theorem zJ_R_locked_79 {X : zkX} (K49 : Int32 → Int32 → Int32 → Int32 → zSt → Option (Int32 × zSt)) (hK49 : ∀ (x1 : Int32) (x2 : Int32) (x3 : Int32) (x4 : Int32) (s : zSt) r, K49 x1 x2 x3 x4 s = some r → zk_W X 3 m_R_locked (49, [(0, .ref 7), (1, .int x1), (2, .int x2), (3, .int x3), (4, .int x4)], [], zHp s) (fun o => o = zoI r)) (x1 : Int32) (x2 : Int32) (x3 : Int32) (x4 : Int32) (y0 : Int32) (s : zSt) (r) (hF : F_R_locked_79  K49 x1 x2 x3 x4 y0 s = some r) : zk_W X 3 m_R_locked (79, [(0, .ref 7), (1, .int x1), (2, .int x2), (3, .int x3), (4, .int x4)], [.int y0], zHp s) (fun o => o = zoI r) := by
  unfold F_R_locked_79 at hF
  refine zi_istore rfl rfl rfl ?_
  refine zi_iload_n rfl rfl ?_
  refine zi_ifeq rfl (fun hc => ?_) (fun hc => ?_)
  · have hF := zf_p hc hF
    exact zk_sb (zJ_R_locked_109 K49 hK49  _ _ _ _ _ _ hF) rfl ⟨rfl, rfl, rfl, rfl, rfl, trivial⟩
  · have hF := zf_n hc hF
    refine zi_iload rfl rfl ?_
    refine zi_ifeq rfl (fun hc => ?_) (fun hc => ?_)
    · have hF := zf_p hc hF
      exact zk_sb (zJ_R_locked_105 K49 hK49  _ _ _ _ _ _ hF) rfl ⟨rfl, rfl, rfl, rfl, rfl, trivial⟩
    · have hF := zf_n hc hF
      refine zi_iload_n rfl rfl ?_
      refine zi_ifeq rfl (fun hc => ?_) (fun hc => ?_)
      · have hF := zf_p hc hF
        exact zk_sb (zJ_R_locked_105 K49 hK49  _ _ _ _ _ _ hF) rfl ⟨rfl, rfl, rfl, rfl, rfl, trivial⟩
      · have hF := zf_n hc hF
        refine zi_aload_n rfl rfl ?_
        refine zi_iload rfl rfl ?_
        refine zi_bipush (v := (32 : Int32)) rfl rfl ?_
        obtain ⟨v9, s10, hm, hF⟩ := zf_b hF
        refine zi_callV rfl rfl rfl (zh_R _) rfl (zk_C.to (zk_C.up (by decide) (zF_R_has_0 hm)) (fun o ho => zk_K.okv ho ?_))
        refine zi_ifne rfl (fun hc => ?_) (fun hc => ?_)
        · have hF := zf_n hc hF
          exact zk_sb (zJ_R_locked_109 K49 hK49  _ _ _ _ _ _ hF) rfl ⟨rfl, rfl, rfl, rfl, rfl, trivial⟩
        · have hF := zf_p hc hF
          exact zk_sb (zJ_R_locked_105 K49 hK49  _ _ _ _ _ _ hF) rfl ⟨rfl, rfl, rfl, rfl, rfl, trivial⟩
theorem zJ_R_locked_49 {X : zkX} : ∀ (n : Nat) (x1 : Int32) (x2 : Int32) (x3 : Int32) (x4 : Int32) (s : zSt) (r), F_R_locked_49   n x1 x2 x3 x4 s = some r → zk_W X 3 m_R_locked (49, [(0, .ref 7), (1, .int x1), (2, .int x2), (3, .int x3), (4, .int x4)], [], zHp s) (fun o => o = zoI r) := by
  intro n
  induction n with
  | zero => intro x1 x2 x3 x4 s r hF; cases hF
  | succ n ih =>
    intro x1 x2 x3 x4 s r hF
    rw [F_R_locked_49] at hF
    refine zi_iload rfl rfl ?_
    refine zi_aload_n rfl rfl ?_
    refine zi_getfield rfl rfl (zh_R _) rfl ?_
    refine zi_icge rfl (fun hc => ?_) (fun hc => ?_)
    · have hF := zf_p hc hF
      refine zi_iload_n rfl rfl ?_
      obtain ⟨hz, hF⟩ := zf_g hF
      cases hF
      exact zi_zreturn rfl rfl hz rfl
    · have hF := zf_n hc hF
      refine zi_aload_n rfl rfl ?_
      refine zi_getfield rfl rfl (zh_R _) rfl ?_
      refine zi_iload rfl rfl ?_
      obtain ⟨hb, hF⟩ := zf_g hF
      refine zi_iaload rfl (zr_A5 _ _) (zin_ok hb) ?_
      refine zi_aload_n rfl rfl ?_
      refine zi_getfield rfl rfl (zh_R _) rfl ?_
      refine zi_iload_n rfl rfl ?_
      obtain ⟨hb, hF⟩ := zf_g hF
      refine zi_iaload rfl (zr_A1 _ _) (zin_ok hb) ?_
      refine zi_icne rfl (fun hc => ?_) (fun hc => ?_)
      · have hF := zf_n hc hF
        refine zi_iconst (v := (0 : Int32)) rfl rfl ?_
        exact zk_sb (zJ_R_locked_79 (F_R_locked_49  n) ih  _ _ _ _ _ _ _ hF) rfl ⟨rfl, rfl, rfl, rfl, rfl, trivial⟩
      · have hF := zf_p hc hF
        refine zi_iconst (v := (1 : Int32)) rfl rfl ?_
        refine zi_goto rfl ?_
        exact zk_sb (zJ_R_locked_79 (F_R_locked_49  n) ih  _ _ _ _ _ _ _ hF) rfl ⟨rfl, rfl, rfl, rfl, rfl, trivial⟩
theorem zJ_R_locked_26 {X : zkX} (x1 : Int32) (x2 : Int32) (y0 : Int32) (s : zSt) (r) (hF : F_R_locked_26   x1 x2 y0 s = some r) : zk_W X 3 m_R_locked (26, [(0, .ref 7), (1, .int x1), (2, .int x2)], [.int y0, .ref 7], zHp s) (fun o => o = zoI r) := by
  unfold F_R_locked_26 at hF
  obtain ⟨v3, s4, hm, hF⟩ := zf_b hF
  refine zi_callV rfl rfl rfl (zh_R _) rfl (zk_C.to (zk_C.up (by decide) (zF_R_says hm)) (fun o ho => zk_K.okv ho ?_))
  refine zi_ifne rfl (fun hc => ?_) (fun hc => ?_)
  · have hF := zf_n hc hF
    refine zi_aload_n rfl rfl ?_
    refine zi_getfield rfl rfl (zh_R _) rfl ?_
    refine zi_aload_n rfl rfl ?_
    refine zi_getfield rfl rfl (zh_R _) rfl ?_
    refine zi_iload_n rfl rfl ?_
    obtain ⟨hb, hF⟩ := zf_g hF
    refine zi_iaload rfl (zr_A1 _ _) (zin_ok hb) ?_
    obtain ⟨hb, hF⟩ := zf_g hF
    refine zi_baload rfl (zh_A4 _) (zin_ok hb) ?_
    refine zi_istore_n rfl rfl rfl ?_
    refine zi_iconst (v := (0 : Int32)) rfl rfl ?_
    refine zi_istore rfl rfl rfl ?_
    exact zk_sb (zJ_R_locked_49  zFuel _ _ _ _ _ _ hF) rfl ⟨rfl, rfl, rfl, rfl, rfl, trivial⟩
  · have hF := zf_p hc hF
    refine zi_iconst (v := (0 : Int32)) rfl rfl ?_
    cases hF
    exact zi_zreturn rfl rfl rfl rfl
theorem zJ_R_locked_25 {X : zkX} (x1 : Int32) (x2 : Int32) (s : zSt) (r) (hF : F_R_locked_25   x1 x2 s = some r) : zk_W X 3 m_R_locked (25, [(0, .ref 7), (1, .int x1), (2, .int x2)], [.ref 7], zHp s) (fun o => o = zoI r) := by
  unfold F_R_locked_25 at hF
  refine zi_iconst (v := (0 : Int32)) rfl rfl ?_
  exact zk_sb (zJ_R_locked_26   _ _ _ _ _ hF) rfl ⟨rfl, rfl, rfl, trivial⟩
theorem zF_R_locked {X : zkX} {p1 : Int32} {p2 : Int32} {s : zSt} {r} (hF : F_R_locked p1 p2 s = some r) : zk_C X 4 m_R_locked [.ref 7, .int p1, .int p2] (zHp s) (fun o => o = zoI r) := by
  unfold F_R_locked at hF
  refine zk_enter (lv := [(0, .ref 7), (1, .int p1), (2, .int p2)]) rfl rfl ?_
  refine zi_aload_n rfl rfl ?_
  refine zi_aload_n rfl rfl ?_
  refine zi_iload_n rfl rfl ?_
  obtain ⟨v1, s2, hm, hF⟩ := zf_b hF
  refine zi_callV rfl rfl rfl (zh_R _) rfl (zk_C.to (zk_C.up (by decide) (zF_R_holds hm)) (fun o ho => zk_K.okv ho ?_))
  refine zi_ifeq rfl (fun hc => ?_) (fun hc => ?_)
  · have hF := zf_p hc hF
    exact zk_sb (zJ_R_locked_25   _ _ _ _ hF) rfl ⟨rfl, rfl, rfl, trivial⟩
  · have hF := zf_n hc hF
    refine zi_iload_n rfl rfl ?_
    refine zi_i2l rfl ?_
    refine zi_lconst (v := (0 : Int64)) rfl rfl ?_
    refine zi_ldc2_w (v := (2 : Int64)) rfl rfl ?_
    obtain ⟨v11, s12, hm, hF⟩ := zf_b hF
    refine zi_callS rfl rfl rfl rfl (zk_C.to (zk_C.up (by decide) (zF_R_in hm)) (fun o ho => zk_K.okv ho ?_))
    refine zi_ifeq rfl (fun hc => ?_) (fun hc => ?_)
    · have hF := zf_p hc hF
      exact zk_sb (zJ_R_locked_25   _ _ _ _ hF) rfl ⟨rfl, rfl, rfl, trivial⟩
    · have hF := zf_n hc hF
      refine zi_iconst (v := (1 : Int32)) rfl rfl ?_
      refine zi_goto rfl ?_
      exact zk_sb (zJ_R_locked_26   _ _ _ _ _ hF) rfl ⟨rfl, rfl, rfl, trivial⟩

/-! m_L_define -/
def F_L_define (p1 : Int32) (p2 : Int64) (p4 : Int32) (p5 : Int32) (p6 : Int32) (p7 : Int32) (s : zSt) : Option (Int32 × zSt) := (zc (F_X_define (p1) (p2) (p4) (p5) (p6) (p7) s) (fun v1 s2 => (if zin (0 : Int32) 1 then some ((0 : Int32), (sB s2 3 (vp_updL (gB s2 3) ((0 : Int32)).toNatClampNeg (v1).toInt64))) else none)) (fun x3 s2 => (if x3 = 0 then some ((1 : Int32), s2) else none)))
theorem zF_L_define {X : zkX} {p1 : Int32} {p2 : Int64} {p4 : Int32} {p5 : Int32} {p6 : Int32} {p7 : Int32} {s : zSt} {r} (hF : F_L_define p1 p2 p4 p5 p6 p7 s = some r) : zk_C X 11 m_L_define [.ref 1, .int p1, .long p2, .int p4, .int p5, .int p6, .int p7, .ref 20] (zHp s) (fun o => o = zoI r) := by
  unfold F_L_define at hF
  refine zk_enter (lv := [(0, .ref 1), (1, .int p1), (2, .long p2), (4, .int p4), (5, .int p5), (6, .int p6), (7, .int p7), (8, .ref 20)]) rfl rfl ?_
  refine zi_aload rfl rfl ?_
  refine zi_iconst (v := (0 : Int32)) rfl rfl ?_
  refine zi_aload_n rfl rfl ?_
  refine zi_iload_n rfl rfl ?_
  refine zi_lload_n rfl rfl ?_
  refine zi_iload rfl rfl ?_
  refine zi_iload rfl rfl ?_
  refine zi_iload rfl rfl ?_
  refine zi_iload rfl rfl ?_
  rcases zf_c hF with ⟨v1, s2, hm, hF⟩ | ⟨x3, s2, hm, hF⟩
  rotate_left
  · refine zi_callV rfl rfl rfl (zh_X _) rfl (zk_C.to (zk_C.up (by decide) (zF_X_define hm)) (fun o ho => ?_))
    by_cases hx0 : x3 = 0
    · have hF := zf_p hx0 hF
      rw [hx0] at ho
      refine zk_K.cat (x := 0) (h2 := zHp s2) (hp := 22) ho rfl rfl ?_
      refine zi_iconst (v := (1 : Int32)) rfl rfl ?_
      cases hF
      exact zi_ireturn rfl rfl rfl
    have hF := zf_n hx0 hF
    cases hF
  refine zi_callV rfl rfl rfl (zh_X _) rfl (zk_C.to (zk_C.up (by decide) (zF_X_define hm)) (fun o ho => zk_K.okv ho ?_))
  refine zi_i2l rfl ?_
  obtain ⟨hb, hF⟩ := zf_g hF
  refine zi_lastore rfl (zh_B3 _) (zin_ok hb) (zs_B3 _ _) ?_
  refine zi_goto rfl ?_
  refine zi_iconst (v := (0 : Int32)) rfl rfl ?_
  cases hF
  exact zi_ireturn rfl rfl rfl
/-! m_X_own -/
def F_X_own_40 (y0 : Int32) (s : zSt) : Option ((Int32 ⊕ Nat) × zSt) := some (.inl y0, s)
def F_X_own (p1 : Int32) (p2 : Int64) (s : zSt) : Option ((Int32 ⊕ Nat) × zSt) := (zt (F_X_heldWithKey (p1) (p2) s) (fun v1 s2 => (zb (F_O_findOwn (v1) (p2) s2) (fun v4 s5 => (zb (F_X_giveValue (v4) s5) (fun v6 s7 => (if v4 = 0 then F_X_own_40    ((-1 : Int32)) s7 else (zb (F_O_attributesOf (v4) s7) (fun v8 s9 => F_X_own_40    (v8) s9)))))))))
theorem zJ_X_own_40 {X : zkX} (y0 : Int32) (s : zSt) (r) (hF : F_X_own_40   y0 s = some r) : zk_W X 9 m_X_own (40, [], [.int y0], zHp s) (fun o => o = ztI r) := by
  unfold F_X_own_40 at hF
  cases hF
  exact zi_ireturn rfl rfl rfl
theorem zF_X_own {X : zkX} {p1 : Int32} {p2 : Int64} {s : zSt} {r} (hF : F_X_own p1 p2 s = some r) : zk_C X 10 m_X_own [.ref 1, .int p1, .long p2] (zHp s) (fun o => o = ztI r) := by
  unfold F_X_own at hF
  refine zk_enter (lv := [(0, .ref 1), (1, .int p1), (2, .long p2)]) rfl rfl ?_
  refine zi_aload_n rfl rfl ?_
  refine zi_getfield rfl rfl (zh_X _) rfl ?_
  refine zi_aload_n rfl rfl ?_
  refine zi_iload_n rfl rfl ?_
  refine zi_lload_n rfl rfl ?_
  rcases zf_t hF with ⟨v1, s2, hm, hF⟩ | ⟨x3, s2, hm, hF⟩
  rotate_left
  · subst hF
    exact zi_callV rfl rfl rfl (zh_X _) rfl (zk_C.to (zk_C.up (by decide) (zF_X_heldWithKey hm)) (fun o ho => zk_K.thr (x := x3) (h2 := zHp s2) ho rfl rfl))
  refine zi_callV rfl rfl rfl (zh_X _) rfl (zk_C.to (zk_C.up (by decide) (zF_X_heldWithKey hm)) (fun o ho => zk_K.okv ho ?_))
  refine zi_lload_n rfl rfl ?_
  obtain ⟨v4, s5, hm, hF⟩ := zf_b hF
  refine zi_callV rfl rfl rfl (zh_O _) rfl (zk_C.to (zk_C.up (by decide) (zF_O_findOwn hm)) (fun o ho => zk_K.okv ho ?_))
  refine zi_istore rfl rfl rfl ?_
  refine zi_aload_n rfl rfl ?_
  refine zi_iload rfl rfl ?_
  obtain ⟨v6, s7, hm, hF⟩ := zf_b hF
  refine zi_callV rfl rfl rfl (zh_X _) rfl (zk_C.to (zk_C.up (by decide) (zF_X_giveValue hm)) (fun o ho => zk_K.okn ho ?_))
  refine zi_iload rfl rfl ?_
  refine zi_ifne rfl (fun hc => ?_) (fun hc => ?_)
  · have hF := zf_n hc hF
    refine zi_aload_n rfl rfl ?_
    refine zi_getfield rfl rfl (zh_X _) rfl ?_
    refine zi_iload rfl rfl ?_
    obtain ⟨v8, s9, hm, hF⟩ := zf_b hF
    refine zi_callV rfl rfl rfl (zh_O _) rfl (zk_C.to (zk_C.up (by decide) (zF_O_attributesOf hm)) (fun o ho => zk_K.okv ho ?_))
    exact zk_sb (zJ_X_own_40   _ _ _ hF) rfl trivial
  · have hF := zf_p hc hF
    refine zi_iconst (v := (-1 : Int32)) rfl rfl ?_
    refine zi_goto rfl ?_
    exact zk_sb (zJ_X_own_40   _ _ _ hF) rfl trivial
/-! m_L_own -/
def F_L_own (p1 : Int32) (p2 : Int64) (s : zSt) : Option (Int32 × zSt) := (zc (F_X_own (p1) (p2) s) (fun v1 s2 => (if zin (0 : Int32) 1 then some ((0 : Int32), (sB s2 3 (vp_updL (gB s2 3) ((0 : Int32)).toNatClampNeg (v1).toInt64))) else none)) (fun x3 s2 => (if x3 = 0 then some ((1 : Int32), s2) else none)))
theorem zF_L_own {X : zkX} {p1 : Int32} {p2 : Int64} {s : zSt} {r} (hF : F_L_own p1 p2 s = some r) : zk_C X 11 m_L_own [.ref 1, .int p1, .long p2, .ref 20] (zHp s) (fun o => o = zoI r) := by
  unfold F_L_own at hF
  refine zk_enter (lv := [(0, .ref 1), (1, .int p1), (2, .long p2), (4, .ref 20)]) rfl rfl ?_
  refine zi_aload rfl rfl ?_
  refine zi_iconst (v := (0 : Int32)) rfl rfl ?_
  refine zi_aload_n rfl rfl ?_
  refine zi_iload_n rfl rfl ?_
  refine zi_lload_n rfl rfl ?_
  rcases zf_c hF with ⟨v1, s2, hm, hF⟩ | ⟨x3, s2, hm, hF⟩
  rotate_left
  · refine zi_callV rfl rfl rfl (zh_X _) rfl (zk_C.to (zk_C.up (by decide) (zF_X_own hm)) (fun o ho => ?_))
    by_cases hx0 : x3 = 0
    · have hF := zf_p hx0 hF
      rw [hx0] at ho
      refine zk_K.cat (x := 0) (h2 := zHp s2) (hp := 14) ho rfl rfl ?_
      refine zi_iconst (v := (1 : Int32)) rfl rfl ?_
      cases hF
      exact zi_ireturn rfl rfl rfl
    have hF := zf_n hx0 hF
    cases hF
  refine zi_callV rfl rfl rfl (zh_X _) rfl (zk_C.to (zk_C.up (by decide) (zF_X_own hm)) (fun o ho => zk_K.okv ho ?_))
  refine zi_i2l rfl ?_
  obtain ⟨hb, hF⟩ := zf_g hF
  refine zi_lastore rfl (zh_B3 _) (zin_ok hb) (zs_B3 _ _) ?_
  refine zi_goto rfl ?_
  refine zi_iconst (v := (0 : Int32)) rfl rfl ?_
  cases hF
  exact zi_ireturn rfl rfl rfl
/-! m_X_setter -/
def F_X_setter (p1 : Int32) (p2 : Int64) (p4 : Int32) (s : zSt) : Option ((Int32 ⊕ Nat) × zSt) := (zt (F_X_heldWithKey (p1) (p2) s) (fun v1 s2 => (zt (F_X_needRoot (p4) s2) (fun v4 s5 => (zb (F_O_findOwn (v1) (p2) s5) (fun v7 s8 => (zb (F_O_setterOf (v7) s8) (fun v9 s10 => (if v9 = 0 then some (.inl (0 : Int32), s10) else (zb (F_M_keep (p4) (v9) s10) (fun v11 s12 => some (.inl (1 : Int32), s12))))))))))))
theorem zF_X_setter {X : zkX} {p1 : Int32} {p2 : Int64} {p4 : Int32} {s : zSt} {r} (hF : F_X_setter p1 p2 p4 s = some r) : zk_C X 10 m_X_setter [.ref 1, .int p1, .long p2, .int p4] (zHp s) (fun o => o = ztI r) := by
  unfold F_X_setter at hF
  refine zk_enter (lv := [(0, .ref 1), (1, .int p1), (2, .long p2), (4, .int p4)]) rfl rfl ?_
  refine zi_aload_n rfl rfl ?_
  refine zi_iload_n rfl rfl ?_
  refine zi_lload_n rfl rfl ?_
  rcases zf_t hF with ⟨v1, s2, hm, hF⟩ | ⟨x3, s2, hm, hF⟩
  rotate_left
  · subst hF
    exact zi_callV rfl rfl rfl (zh_X _) rfl (zk_C.to (zk_C.up (by decide) (zF_X_heldWithKey hm)) (fun o ho => zk_K.thr (x := x3) (h2 := zHp s2) ho rfl rfl))
  refine zi_callV rfl rfl rfl (zh_X _) rfl (zk_C.to (zk_C.up (by decide) (zF_X_heldWithKey hm)) (fun o ho => zk_K.okv ho ?_))
  refine zi_istore rfl rfl rfl ?_
  refine zi_iload rfl rfl ?_
  rcases zf_t hF with ⟨v4, s5, hm, hF⟩ | ⟨x6, s5, hm, hF⟩
  rotate_left
  · subst hF
    exact zi_callS rfl rfl rfl rfl (zk_C.to (zk_C.up (by decide) (zF_X_needRoot hm)) (fun o ho => zk_K.thr (x := x6) (h2 := zHp s5) ho rfl rfl))
  refine zi_callS rfl rfl rfl rfl (zk_C.to (zk_C.up (by decide) (zF_X_needRoot hm)) (fun o ho => zk_K.okn ho ?_))
  refine zi_aload_n rfl rfl ?_
  refine zi_getfield rfl rfl (zh_X _) rfl ?_
  refine zi_aload_n rfl rfl ?_
  refine zi_getfield rfl rfl (zh_X _) rfl ?_
  refine zi_iload rfl rfl ?_
  refine zi_lload_n rfl rfl ?_
  obtain ⟨v7, s8, hm, hF⟩ := zf_b hF
  refine zi_callV rfl rfl rfl (zh_O _) rfl (zk_C.to (zk_C.up (by decide) (zF_O_findOwn hm)) (fun o ho => zk_K.okv ho ?_))
  obtain ⟨v9, s10, hm, hF⟩ := zf_b hF
  refine zi_callV rfl rfl rfl (zh_O _) rfl (zk_C.to (zk_C.up (by decide) (zF_O_setterOf hm)) (fun o ho => zk_K.okv ho ?_))
  refine zi_istore rfl rfl rfl ?_
  refine zi_iload rfl rfl ?_
  refine zi_ifne rfl (fun hc => ?_) (fun hc => ?_)
  · have hF := zf_n hc hF
    refine zi_aload_n rfl rfl ?_
    refine zi_getfield rfl rfl (zh_X _) rfl ?_
    refine zi_iload rfl rfl ?_
    refine zi_iload rfl rfl ?_
    obtain ⟨v11, s12, hm, hF⟩ := zf_b hF
    refine zi_callV rfl rfl rfl (zh_M _) rfl (zk_C.to (zk_C.up (by decide) (zF_M_keep hm)) (fun o ho => zk_K.okn ho ?_))
    refine zi_iconst (v := (1 : Int32)) rfl rfl ?_
    cases hF
    exact zi_zreturn rfl rfl rfl rfl
  · have hF := zf_p hc hF
    refine zi_iconst (v := (0 : Int32)) rfl rfl ?_
    cases hF
    exact zi_zreturn rfl rfl rfl rfl
/-! m_L_setter -/
def F_L_setter_19 (y0 : Int64) (y1 : Int32) (s : zSt) : Option (Int32 × zSt) := (if zin y1 1 then some ((0 : Int32), (sB s 3 (vp_updL (gB s 3) (y1).toNatClampNeg y0))) else none)
def F_L_setter (p1 : Int32) (p2 : Int64) (p4 : Int32) (s : zSt) : Option (Int32 × zSt) := (zc (F_X_setter (p1) (p2) (p4) s) (fun v1 s2 => (if v1 = 0 then F_L_setter_19    ((0 : Int64)) ((0 : Int32)) s2 else F_L_setter_19    ((1 : Int64)) ((0 : Int32)) s2)) (fun x3 s2 => (if x3 = 0 then some ((1 : Int32), s2) else none)))
theorem zJ_L_setter_19 {X : zkX} (y0 : Int64) (y1 : Int32) (s : zSt) (r) (hF : F_L_setter_19   y0 y1 s = some r) : zk_W X 10 m_L_setter (19, [], [.long y0, .int y1, .ref 20], zHp s) (fun o => o = zoI r) := by
  unfold F_L_setter_19 at hF
  obtain ⟨hb, hF⟩ := zf_g hF
  refine zi_lastore rfl (zh_B3 _) (zin_ok hb) (zs_B3 _ _) ?_
  refine zi_goto rfl ?_
  refine zi_iconst (v := (0 : Int32)) rfl rfl ?_
  cases hF
  exact zi_ireturn rfl rfl rfl
theorem zF_L_setter {X : zkX} {p1 : Int32} {p2 : Int64} {p4 : Int32} {s : zSt} {r} (hF : F_L_setter p1 p2 p4 s = some r) : zk_C X 11 m_L_setter [.ref 1, .int p1, .long p2, .int p4, .ref 20] (zHp s) (fun o => o = zoI r) := by
  unfold F_L_setter at hF
  refine zk_enter (lv := [(0, .ref 1), (1, .int p1), (2, .long p2), (4, .int p4), (5, .ref 20)]) rfl rfl ?_
  refine zi_aload rfl rfl ?_
  refine zi_iconst (v := (0 : Int32)) rfl rfl ?_
  refine zi_aload_n rfl rfl ?_
  refine zi_iload_n rfl rfl ?_
  refine zi_lload_n rfl rfl ?_
  refine zi_iload rfl rfl ?_
  rcases zf_c hF with ⟨v1, s2, hm, hF⟩ | ⟨x3, s2, hm, hF⟩
  rotate_left
  · refine zi_callV rfl rfl rfl (zh_X _) rfl (zk_C.to (zk_C.up (by decide) (zF_X_setter hm)) (fun o ho => ?_))
    by_cases hx0 : x3 = 0
    · have hF := zf_p hx0 hF
      rw [hx0] at ho
      refine zk_K.cat (x := 0) (h2 := zHp s2) (hp := 23) ho rfl rfl ?_
      refine zi_iconst (v := (1 : Int32)) rfl rfl ?_
      cases hF
      exact zi_ireturn rfl rfl rfl
    have hF := zf_n hx0 hF
    cases hF
  refine zi_callV rfl rfl rfl (zh_X _) rfl (zk_C.to (zk_C.up (by decide) (zF_X_setter hm)) (fun o ho => zk_K.okv ho ?_))
  refine zi_ifeq rfl (fun hc => ?_) (fun hc => ?_)
  · have hF := zf_p hc hF
    refine zi_lconst (v := (0 : Int64)) rfl rfl ?_
    exact zk_sb (zJ_L_setter_19   _ _ _ _ hF) rfl trivial
  · have hF := zf_n hc hF
    refine zi_lconst (v := (1 : Int64)) rfl rfl ?_
    refine zi_goto rfl ?_
    exact zk_sb (zJ_L_setter_19   _ _ _ _ hF) rfl trivial
/-! m_X_has -/
def F_X_has_22 (y0 : Int32) (s : zSt) : Option ((Int32 ⊕ Nat) × zSt) := (if vp_nar .boolean y0 = y0 then some (.inl y0, s) else none)
def F_X_has (p1 : Int32) (p2 : Int64) (s : zSt) : Option ((Int32 ⊕ Nat) × zSt) := (zt (F_X_heldWithKey (p1) (p2) s) (fun v1 s2 => (zb (F_O_find (v1) (p2) s2) (fun v4 s5 => (if v4 = 0 then F_X_has_22    ((0 : Int32)) s5 else F_X_has_22    ((1 : Int32)) s5)))))
theorem zJ_X_has_22 {X : zkX} (y0 : Int32) (s : zSt) (r) (hF : F_X_has_22   y0 s = some r) : zk_W X 9 m_X_has (22, [], [.int y0], zHp s) (fun o => o = ztI r) := by
  unfold F_X_has_22 at hF
  obtain ⟨hz, hF⟩ := zf_g hF
  cases hF
  exact zi_zreturn rfl rfl hz rfl
theorem zF_X_has {X : zkX} {p1 : Int32} {p2 : Int64} {s : zSt} {r} (hF : F_X_has p1 p2 s = some r) : zk_C X 10 m_X_has [.ref 1, .int p1, .long p2] (zHp s) (fun o => o = ztI r) := by
  unfold F_X_has at hF
  refine zk_enter (lv := [(0, .ref 1), (1, .int p1), (2, .long p2)]) rfl rfl ?_
  refine zi_aload_n rfl rfl ?_
  refine zi_getfield rfl rfl (zh_X _) rfl ?_
  refine zi_aload_n rfl rfl ?_
  refine zi_iload_n rfl rfl ?_
  refine zi_lload_n rfl rfl ?_
  rcases zf_t hF with ⟨v1, s2, hm, hF⟩ | ⟨x3, s2, hm, hF⟩
  rotate_left
  · subst hF
    exact zi_callV rfl rfl rfl (zh_X _) rfl (zk_C.to (zk_C.up (by decide) (zF_X_heldWithKey hm)) (fun o ho => zk_K.thr (x := x3) (h2 := zHp s2) ho rfl rfl))
  refine zi_callV rfl rfl rfl (zh_X _) rfl (zk_C.to (zk_C.up (by decide) (zF_X_heldWithKey hm)) (fun o ho => zk_K.okv ho ?_))
  refine zi_lload_n rfl rfl ?_
  obtain ⟨v4, s5, hm, hF⟩ := zf_b hF
  refine zi_callV rfl rfl rfl (zh_O _) rfl (zk_C.to (zk_C.up (by decide) (zF_O_find hm)) (fun o ho => zk_K.okv ho ?_))
  refine zi_ifeq rfl (fun hc => ?_) (fun hc => ?_)
  · have hF := zf_p hc hF
    refine zi_iconst (v := (0 : Int32)) rfl rfl ?_
    exact zk_sb (zJ_X_has_22   _ _ _ hF) rfl trivial
  · have hF := zf_n hc hF
    refine zi_iconst (v := (1 : Int32)) rfl rfl ?_
    refine zi_goto rfl ?_
    exact zk_sb (zJ_X_has_22   _ _ _ hF) rfl trivial
/-! m_L_has -/
def F_L_has_17 (y0 : Int64) (y1 : Int32) (s : zSt) : Option (Int32 × zSt) := (if zin y1 1 then some ((0 : Int32), (sB s 3 (vp_updL (gB s 3) (y1).toNatClampNeg y0))) else none)
def F_L_has (p1 : Int32) (p2 : Int64) (s : zSt) : Option (Int32 × zSt) := (zc (F_X_has (p1) (p2) s) (fun v1 s2 => (if v1 = 0 then F_L_has_17    ((0 : Int64)) ((0 : Int32)) s2 else F_L_has_17    ((1 : Int64)) ((0 : Int32)) s2)) (fun x3 s2 => (if x3 = 0 then some ((1 : Int32), s2) else none)))
theorem zJ_L_has_17 {X : zkX} (y0 : Int64) (y1 : Int32) (s : zSt) (r) (hF : F_L_has_17   y0 y1 s = some r) : zk_W X 10 m_L_has (17, [], [.long y0, .int y1, .ref 20], zHp s) (fun o => o = zoI r) := by
  unfold F_L_has_17 at hF
  obtain ⟨hb, hF⟩ := zf_g hF
  refine zi_lastore rfl (zh_B3 _) (zin_ok hb) (zs_B3 _ _) ?_
  refine zi_goto rfl ?_
  refine zi_iconst (v := (0 : Int32)) rfl rfl ?_
  cases hF
  exact zi_ireturn rfl rfl rfl
theorem zF_L_has {X : zkX} {p1 : Int32} {p2 : Int64} {s : zSt} {r} (hF : F_L_has p1 p2 s = some r) : zk_C X 11 m_L_has [.ref 1, .int p1, .long p2, .ref 20] (zHp s) (fun o => o = zoI r) := by
  unfold F_L_has at hF
  refine zk_enter (lv := [(0, .ref 1), (1, .int p1), (2, .long p2), (4, .ref 20)]) rfl rfl ?_
  refine zi_aload rfl rfl ?_
  refine zi_iconst (v := (0 : Int32)) rfl rfl ?_
  refine zi_aload_n rfl rfl ?_
  refine zi_iload_n rfl rfl ?_
  refine zi_lload_n rfl rfl ?_
  rcases zf_c hF with ⟨v1, s2, hm, hF⟩ | ⟨x3, s2, hm, hF⟩
  rotate_left
  · refine zi_callV rfl rfl rfl (zh_X _) rfl (zk_C.to (zk_C.up (by decide) (zF_X_has hm)) (fun o ho => ?_))
    by_cases hx0 : x3 = 0
    · have hF := zf_p hx0 hF
      rw [hx0] at ho
      refine zk_K.cat (x := 0) (h2 := zHp s2) (hp := 21) ho rfl rfl ?_
      refine zi_iconst (v := (1 : Int32)) rfl rfl ?_
      cases hF
      exact zi_ireturn rfl rfl rfl
    have hF := zf_n hx0 hF
    cases hF
  refine zi_callV rfl rfl rfl (zh_X _) rfl (zk_C.to (zk_C.up (by decide) (zF_X_has hm)) (fun o ho => zk_K.okv ho ?_))
  refine zi_ifeq rfl (fun hc => ?_) (fun hc => ?_)
  · have hF := zf_p hc hF
    refine zi_lconst (v := (0 : Int64)) rfl rfl ?_
    exact zk_sb (zJ_L_has_17   _ _ _ _ hF) rfl trivial
  · have hF := zf_n hc hF
    refine zi_lconst (v := (1 : Int64)) rfl rfl ?_
    refine zi_goto rfl ?_
    exact zk_sb (zJ_L_has_17   _ _ _ _ hF) rfl trivial
/-! m_O_remove -/
def F_O_remove_94 (y0 : Int32) (s : zSt) : Option (Int32 × zSt) := (if vp_nar .boolean y0 = y0 then some (y0, s) else none)
def F_O_remove_58 (x1 : Int32) (x4 : Int32) (x5 : Int32) (s : zSt) : Option (Int32 × zSt) := (zb (F_O_isAny (x5) ((32 : Int32)) s) (fun v3 s4 => (if v3 = 0 then (if x5 = 0 then F_O_remove_94    ((1 : Int32)) s4 else F_O_remove_94    ((0 : Int32)) s4) else (zb (F_O_next (x5) s4) (fun v5 s6 => (zb (F_O_linkBehind (x1) (x4) (v5) s6) (fun v7 s8 => some ((1 : Int32), s8))))))))
def F_O_remove_13  : Nat → Int32 → Int64 → Int32 → Int32 → Int32 → zSt → Option (Int32 × zSt)
  | 0, _, _, _, _, _, _ => none
  | n + 1, x1, x2, x4, x5, x6, s => (if (1024 : Int32) ≤ x6 then F_O_remove_58    (x1) (x4) (x5) s else (if x5 = 0 then F_O_remove_58    (x1) (x4) (x5) s else (zb (F_O_keyOf (x5) s) (fun v9 s10 => (if (lg_cmp v9 x2) = 0 then F_O_remove_58    (x1) (x4) (x5) s10 else (zb (F_O_next (x5) s10) (fun v11 s12 => F_O_remove_13  n (x1) (x2) (x5) (v11) ((x6 + (1 : Int32))) s12)))))))
def F_O_remove (p1 : Int32) (p2 : Int64) (s : zSt) : Option (Int32 × zSt) := (zb (F_O_first (p1) s) (fun v1 s2 => F_O_remove_13   zFuel (p1) (p2) ((0 : Int32)) (v1) ((0 : Int32)) s2))
theorem zJ_O_remove_94 {X : zkX} (y0 : Int32) (s : zSt) (r) (hF : F_O_remove_94   y0 s = some r) : zk_W X 2 m_O_remove (94, [], [.int y0], zHp s) (fun o => o = zoI r) := by
  unfold F_O_remove_94 at hF
  obtain ⟨hz, hF⟩ := zf_g hF
  cases hF
  exact zi_zreturn rfl rfl hz rfl
theorem zJ_O_remove_58 {X : zkX} (x1 : Int32) (x4 : Int32) (x5 : Int32) (s : zSt) (r) (hF : F_O_remove_58   x1 x4 x5 s = some r) : zk_W X 2 m_O_remove (58, [(0, .ref 2), (1, .int x1), (4, .int x4), (5, .int x5)], [], zHp s) (fun o => o = zoI r) := by
  unfold F_O_remove_58 at hF
  refine zi_aload_n rfl rfl ?_
  refine zi_iload rfl rfl ?_
  refine zi_bipush (v := (32 : Int32)) rfl rfl ?_
  obtain ⟨v3, s4, hm, hF⟩ := zf_b hF
  refine zi_callV rfl rfl rfl (zh_O _) rfl (zk_C.to (zk_C.up (by decide) (zF_O_isAny hm)) (fun o ho => zk_K.okv ho ?_))
  refine zi_ifeq rfl (fun hc => ?_) (fun hc => ?_)
  · have hF := zf_p hc hF
    refine zi_iload rfl rfl ?_
    refine zi_ifne rfl (fun hc => ?_) (fun hc => ?_)
    · have hF := zf_n hc hF
      refine zi_iconst (v := (0 : Int32)) rfl rfl ?_
      exact zk_sb (zJ_O_remove_94   _ _ _ hF) rfl trivial
    · have hF := zf_p hc hF
      refine zi_iconst (v := (1 : Int32)) rfl rfl ?_
      refine zi_goto rfl ?_
      exact zk_sb (zJ_O_remove_94   _ _ _ hF) rfl trivial
  · have hF := zf_n hc hF
    refine zi_aload_n rfl rfl ?_
    refine zi_iload_n rfl rfl ?_
    refine zi_iload rfl rfl ?_
    refine zi_aload_n rfl rfl ?_
    refine zi_iload rfl rfl ?_
    obtain ⟨v5, s6, hm, hF⟩ := zf_b hF
    refine zi_callV rfl rfl rfl (zh_O _) rfl (zk_C.to (zk_C.up (by decide) (zF_O_next hm)) (fun o ho => zk_K.okv ho ?_))
    obtain ⟨v7, s8, hm, hF⟩ := zf_b hF
    refine zi_callV rfl rfl rfl (zh_O _) rfl (zk_C.to (zk_C.up (by decide) (zF_O_linkBehind hm)) (fun o ho => zk_K.okn ho ?_))
    refine zi_iconst (v := (1 : Int32)) rfl rfl ?_
    cases hF
    exact zi_zreturn rfl rfl rfl rfl
theorem zJ_O_remove_13 {X : zkX} : ∀ (n : Nat) (x1 : Int32) (x2 : Int64) (x4 : Int32) (x5 : Int32) (x6 : Int32) (s : zSt) (r), F_O_remove_13   n x1 x2 x4 x5 x6 s = some r → zk_W X 2 m_O_remove (13, [(0, .ref 2), (1, .int x1), (2, .long x2), (4, .int x4), (5, .int x5), (6, .int x6)], [], zHp s) (fun o => o = zoI r) := by
  intro n
  induction n with
  | zero => intro x1 x2 x4 x5 x6 s r hF; cases hF
  | succ n ih =>
    intro x1 x2 x4 x5 x6 s r hF
    rw [F_O_remove_13] at hF
    refine zi_iload rfl rfl ?_
    refine zi_sipush (v := (1024 : Int32)) rfl rfl ?_
    refine zi_icge rfl (fun hc => ?_) (fun hc => ?_)
    · have hF := zf_p hc hF
      exact zk_sb (zJ_O_remove_58   _ _ _ _ _ hF) rfl ⟨rfl, rfl, rfl, rfl, trivial⟩
    · have hF := zf_n hc hF
      refine zi_iload rfl rfl ?_
      refine zi_ifeq rfl (fun hc => ?_) (fun hc => ?_)
      · have hF := zf_p hc hF
        exact zk_sb (zJ_O_remove_58   _ _ _ _ _ hF) rfl ⟨rfl, rfl, rfl, rfl, trivial⟩
      · have hF := zf_n hc hF
        refine zi_aload_n rfl rfl ?_
        refine zi_iload rfl rfl ?_
        obtain ⟨v9, s10, hm, hF⟩ := zf_b hF
        refine zi_callV rfl rfl rfl (zh_O _) rfl (zk_C.to (zk_C.up (by decide) (zF_O_keyOf hm)) (fun o ho => zk_K.okv ho ?_))
        refine zi_lload_n rfl rfl ?_
        refine zi_lcmp rfl ?_
        refine zi_ifne rfl (fun hc => ?_) (fun hc => ?_)
        · have hF := zf_n hc hF
          refine zi_iload rfl rfl ?_
          refine zi_istore rfl rfl rfl ?_
          refine zi_aload_n rfl rfl ?_
          refine zi_iload rfl rfl ?_
          obtain ⟨v11, s12, hm, hF⟩ := zf_b hF
          refine zi_callV rfl rfl rfl (zh_O _) rfl (zk_C.to (zk_C.up (by decide) (zF_O_next hm)) (fun o ho => zk_K.okv ho ?_))
          refine zi_istore rfl rfl rfl ?_
          refine zi_iinc (y := (x6 + (1 : Int32))) rfl rfl rfl rfl rfl ?_
          refine zi_goto rfl ?_
          exact zk_sb (ih _ _ _ _ _ _ _ hF) rfl ⟨rfl, rfl, rfl, rfl, rfl, rfl, trivial⟩
        · have hF := zf_p hc hF
          refine zi_goto rfl ?_
          exact zk_sb (zJ_O_remove_58   _ _ _ _ _ hF) rfl ⟨rfl, rfl, rfl, rfl, trivial⟩
theorem zF_O_remove {X : zkX} {p1 : Int32} {p2 : Int64} {s : zSt} {r} (hF : F_O_remove p1 p2 s = some r) : zk_C X 3 m_O_remove [.ref 2, .int p1, .long p2] (zHp s) (fun o => o = zoI r) := by
  unfold F_O_remove at hF
  refine zk_enter (lv := [(0, .ref 2), (1, .int p1), (2, .long p2)]) rfl rfl ?_
  refine zi_iconst (v := (0 : Int32)) rfl rfl ?_
  refine zi_istore rfl rfl rfl ?_
  refine zi_aload_n rfl rfl ?_
  refine zi_iload_n rfl rfl ?_
  obtain ⟨v1, s2, hm, hF⟩ := zf_b hF
  refine zi_callV rfl rfl rfl (zh_O _) rfl (zk_C.to (zk_C.up (by decide) (zF_O_first hm)) (fun o ho => zk_K.okv ho ?_))
  refine zi_istore rfl rfl rfl ?_
  refine zi_iconst (v := (0 : Int32)) rfl rfl ?_
  refine zi_istore rfl rfl rfl ?_
  exact zk_sb (zJ_O_remove_13  zFuel _ _ _ _ _ _ _ hF) rfl ⟨rfl, rfl, rfl, rfl, rfl, rfl, trivial⟩
/-! m_X_delete -/
def F_X_delete (p1 : Int32) (p2 : Int64) (s : zSt) : Option ((Int32 ⊕ Nat) × zSt) := (zt (F_X_heldWithKey (p1) (p2) s) (fun v1 s2 => (zb (F_O_remove (v1) (p2) s2) (fun v4 s5 => (if vp_nar .boolean v4 = v4 then some (.inl v4, s5) else none)))))
theorem zF_X_delete {X : zkX} {p1 : Int32} {p2 : Int64} {s : zSt} {r} (hF : F_X_delete p1 p2 s = some r) : zk_C X 10 m_X_delete [.ref 1, .int p1, .long p2] (zHp s) (fun o => o = ztI r) := by
  unfold F_X_delete at hF
  refine zk_enter (lv := [(0, .ref 1), (1, .int p1), (2, .long p2)]) rfl rfl ?_
  refine zi_aload_n rfl rfl ?_
  refine zi_getfield rfl rfl (zh_X _) rfl ?_
  refine zi_aload_n rfl rfl ?_
  refine zi_iload_n rfl rfl ?_
  refine zi_lload_n rfl rfl ?_
  rcases zf_t hF with ⟨v1, s2, hm, hF⟩ | ⟨x3, s2, hm, hF⟩
  rotate_left
  · subst hF
    exact zi_callV rfl rfl rfl (zh_X _) rfl (zk_C.to (zk_C.up (by decide) (zF_X_heldWithKey hm)) (fun o ho => zk_K.thr (x := x3) (h2 := zHp s2) ho rfl rfl))
  refine zi_callV rfl rfl rfl (zh_X _) rfl (zk_C.to (zk_C.up (by decide) (zF_X_heldWithKey hm)) (fun o ho => zk_K.okv ho ?_))
  refine zi_lload_n rfl rfl ?_
  obtain ⟨v4, s5, hm, hF⟩ := zf_b hF
  refine zi_callV rfl rfl rfl (zh_O _) rfl (zk_C.to (zk_C.up (by decide) (zF_O_remove hm)) (fun o ho => zk_K.okv ho ?_))
  obtain ⟨hz, hF⟩ := zf_g hF
  cases hF
  exact zi_zreturn rfl rfl hz rfl
/-! m_L_delete -/
def F_L_delete_17 (y0 : Int64) (y1 : Int32) (s : zSt) : Option (Int32 × zSt) := (if zin y1 1 then some ((0 : Int32), (sB s 3 (vp_updL (gB s 3) (y1).toNatClampNeg y0))) else none)
def F_L_delete (p1 : Int32) (p2 : Int64) (s : zSt) : Option (Int32 × zSt) := (zc (F_X_delete (p1) (p2) s) (fun v1 s2 => (if v1 = 0 then F_L_delete_17    ((0 : Int64)) ((0 : Int32)) s2 else F_L_delete_17    ((1 : Int64)) ((0 : Int32)) s2)) (fun x3 s2 => (if x3 = 0 then some ((1 : Int32), s2) else none)))
theorem zJ_L_delete_17 {X : zkX} (y0 : Int64) (y1 : Int32) (s : zSt) (r) (hF : F_L_delete_17   y0 y1 s = some r) : zk_W X 10 m_L_delete (17, [], [.long y0, .int y1, .ref 20], zHp s) (fun o => o = zoI r) := by
  unfold F_L_delete_17 at hF
  obtain ⟨hb, hF⟩ := zf_g hF
  refine zi_lastore rfl (zh_B3 _) (zin_ok hb) (zs_B3 _ _) ?_
  refine zi_goto rfl ?_
  refine zi_iconst (v := (0 : Int32)) rfl rfl ?_
  cases hF
  exact zi_ireturn rfl rfl rfl
theorem zF_L_delete {X : zkX} {p1 : Int32} {p2 : Int64} {s : zSt} {r} (hF : F_L_delete p1 p2 s = some r) : zk_C X 11 m_L_delete [.ref 1, .int p1, .long p2, .ref 20] (zHp s) (fun o => o = zoI r) := by
  unfold F_L_delete at hF
  refine zk_enter (lv := [(0, .ref 1), (1, .int p1), (2, .long p2), (4, .ref 20)]) rfl rfl ?_
  refine zi_aload rfl rfl ?_
  refine zi_iconst (v := (0 : Int32)) rfl rfl ?_
  refine zi_aload_n rfl rfl ?_
  refine zi_iload_n rfl rfl ?_
  refine zi_lload_n rfl rfl ?_
  rcases zf_c hF with ⟨v1, s2, hm, hF⟩ | ⟨x3, s2, hm, hF⟩
  rotate_left
  · refine zi_callV rfl rfl rfl (zh_X _) rfl (zk_C.to (zk_C.up (by decide) (zF_X_delete hm)) (fun o ho => ?_))
    by_cases hx0 : x3 = 0
    · have hF := zf_p hx0 hF
      rw [hx0] at ho
      refine zk_K.cat (x := 0) (h2 := zHp s2) (hp := 21) ho rfl rfl ?_
      refine zi_iconst (v := (1 : Int32)) rfl rfl ?_
      cases hF
      exact zi_ireturn rfl rfl rfl
    have hF := zf_n hx0 hF
    cases hF
  refine zi_callV rfl rfl rfl (zh_X _) rfl (zk_C.to (zk_C.up (by decide) (zF_X_delete hm)) (fun o ho => zk_K.okv ho ?_))
  refine zi_ifeq rfl (fun hc => ?_) (fun hc => ?_)
  · have hF := zf_p hc hF
    refine zi_lconst (v := (0 : Int64)) rfl rfl ?_
    exact zk_sb (zJ_L_delete_17   _ _ _ _ hF) rfl trivial
  · have hF := zf_n hc hF
    refine zi_lconst (v := (1 : Int64)) rfl rfl ?_
    refine zi_goto rfl ?_
    exact zk_sb (zJ_L_delete_17   _ _ _ _ hF) rfl trivial
/-! m_O_count -/
def F_O_count_38 (x2 : Int32) (s : zSt) : Option (Int32 × zSt) := some (x2, s)
def F_O_count_11  : Nat → Int32 → Int32 → Int32 → zSt → Option (Int32 × zSt)
  | 0, _, _, _, _ => none
  | n + 1, x2, x3, x4, s => (if (1024 : Int32) ≤ x4 then F_O_count_38    (x2) s else (if x3 = 0 then F_O_count_38    (x2) s else (zb (F_O_next (x3) s) (fun v3 s4 => F_O_count_11  n ((x2 + (1 : Int32))) (v3) ((x4 + (1 : Int32))) s4))))
def F_O_count (p1 : Int32) (s : zSt) : Option (Int32 × zSt) := (zb (F_O_first (p1) s) (fun v1 s2 => F_O_count_11   zFuel ((0 : Int32)) (v1) ((0 : Int32)) s2))
theorem zJ_O_count_38 {X : zkX} (x2 : Int32) (s : zSt) (r) (hF : F_O_count_38   x2 s = some r) : zk_W X 2 m_O_count (38, [(2, .int x2)], [], zHp s) (fun o => o = zoI r) := by
  unfold F_O_count_38 at hF
  refine zi_iload_n rfl rfl ?_
  cases hF
  exact zi_ireturn rfl rfl rfl
theorem zJ_O_count_11 {X : zkX} : ∀ (n : Nat) (x2 : Int32) (x3 : Int32) (x4 : Int32) (s : zSt) (r), F_O_count_11   n x2 x3 x4 s = some r → zk_W X 2 m_O_count (11, [(0, .ref 2), (2, .int x2), (3, .int x3), (4, .int x4)], [], zHp s) (fun o => o = zoI r) := by
  intro n
  induction n with
  | zero => intro x2 x3 x4 s r hF; cases hF
  | succ n ih =>
    intro x2 x3 x4 s r hF
    rw [F_O_count_11] at hF
    refine zi_iload rfl rfl ?_
    refine zi_sipush (v := (1024 : Int32)) rfl rfl ?_
    refine zi_icge rfl (fun hc => ?_) (fun hc => ?_)
    · have hF := zf_p hc hF
      exact zk_sb (zJ_O_count_38   _ _ _ hF) rfl ⟨rfl, trivial⟩
    · have hF := zf_n hc hF
      refine zi_iload_n rfl rfl ?_
      refine zi_ifeq rfl (fun hc => ?_) (fun hc => ?_)
      · have hF := zf_p hc hF
        exact zk_sb (zJ_O_count_38   _ _ _ hF) rfl ⟨rfl, trivial⟩
      · have hF := zf_n hc hF
        refine zi_iinc (y := (x2 + (1 : Int32))) rfl rfl rfl rfl rfl ?_
        refine zi_aload_n rfl rfl ?_
        refine zi_iload_n rfl rfl ?_
        obtain ⟨v3, s4, hm, hF⟩ := zf_b hF
        refine zi_callV rfl rfl rfl (zh_O _) rfl (zk_C.to (zk_C.up (by decide) (zF_O_next hm)) (fun o ho => zk_K.okv ho ?_))
        refine zi_istore_n rfl rfl rfl ?_
        refine zi_iinc (y := (x4 + (1 : Int32))) rfl rfl rfl rfl rfl ?_
        refine zi_goto rfl ?_
        exact zk_sb (ih _ _ _ _ _ hF) rfl ⟨rfl, rfl, rfl, rfl, trivial⟩
theorem zF_O_count {X : zkX} {p1 : Int32} {s : zSt} {r} (hF : F_O_count p1 s = some r) : zk_C X 3 m_O_count [.ref 2, .int p1] (zHp s) (fun o => o = zoI r) := by
  unfold F_O_count at hF
  refine zk_enter (lv := [(0, .ref 2), (1, .int p1)]) rfl rfl ?_
  refine zi_iconst (v := (0 : Int32)) rfl rfl ?_
  refine zi_istore_n rfl rfl rfl ?_
  refine zi_aload_n rfl rfl ?_
  refine zi_iload_n rfl rfl ?_
  obtain ⟨v1, s2, hm, hF⟩ := zf_b hF
  refine zi_callV rfl rfl rfl (zh_O _) rfl (zk_C.to (zk_C.up (by decide) (zF_O_first hm)) (fun o ho => zk_K.okv ho ?_))
  refine zi_istore_n rfl rfl rfl ?_
  refine zi_iconst (v := (0 : Int32)) rfl rfl ?_
  refine zi_istore rfl rfl rfl ?_
  exact zk_sb (zJ_O_count_11  zFuel _ _ _ _ _ hF) rfl ⟨rfl, rfl, rfl, rfl, trivial⟩
/-! m_X_keys -/
def F_X_keys (p1 : Int32) (s : zSt) : Option ((Int32 ⊕ Nat) × zSt) := (zt (F_X_held (p1) s) (fun v1 s2 => (zb (F_O_count (v1) s2) (fun v4 s5 => some (.inl v4, s5)))))
theorem zF_X_keys {X : zkX} {p1 : Int32} {s : zSt} {r} (hF : F_X_keys p1 s = some r) : zk_C X 9 m_X_keys [.ref 1, .int p1] (zHp s) (fun o => o = ztI r) := by
  unfold F_X_keys at hF
  refine zk_enter (lv := [(0, .ref 1), (1, .int p1)]) rfl rfl ?_
  refine zi_aload_n rfl rfl ?_
  refine zi_getfield rfl rfl (zh_X _) rfl ?_
  refine zi_aload_n rfl rfl ?_
  refine zi_iload_n rfl rfl ?_
  rcases zf_t hF with ⟨v1, s2, hm, hF⟩ | ⟨x3, s2, hm, hF⟩
  rotate_left
  · subst hF
    exact zi_callV rfl rfl rfl (zh_X _) rfl (zk_C.to (zk_C.up (by decide) (zF_X_held hm)) (fun o ho => zk_K.thr (x := x3) (h2 := zHp s2) ho rfl rfl))
  refine zi_callV rfl rfl rfl (zh_X _) rfl (zk_C.to (zk_C.up (by decide) (zF_X_held hm)) (fun o ho => zk_K.okv ho ?_))
  obtain ⟨v4, s5, hm, hF⟩ := zf_b hF
  refine zi_callV rfl rfl rfl (zh_O _) rfl (zk_C.to (zk_C.up (by decide) (zF_O_count hm)) (fun o ho => zk_K.okv ho ?_))
  cases hF
  exact zi_ireturn rfl rfl rfl
/-! m_L_keys -/
def F_L_keys (p1 : Int32) (s : zSt) : Option (Int32 × zSt) := (zc (F_X_keys (p1) s) (fun v1 s2 => (if zin (0 : Int32) 1 then some ((0 : Int32), (sB s2 3 (vp_updL (gB s2 3) ((0 : Int32)).toNatClampNeg (v1).toInt64))) else none)) (fun x3 s2 => (if x3 = 0 then some ((1 : Int32), s2) else none)))
theorem zF_L_keys {X : zkX} {p1 : Int32} {s : zSt} {r} (hF : F_L_keys p1 s = some r) : zk_C X 10 m_L_keys [.ref 1, .int p1, .ref 20] (zHp s) (fun o => o = zoI r) := by
  unfold F_L_keys at hF
  refine zk_enter (lv := [(0, .ref 1), (1, .int p1), (2, .ref 20)]) rfl rfl ?_
  refine zi_aload_n rfl rfl ?_
  refine zi_iconst (v := (0 : Int32)) rfl rfl ?_
  refine zi_aload_n rfl rfl ?_
  refine zi_iload_n rfl rfl ?_
  rcases zf_c hF with ⟨v1, s2, hm, hF⟩ | ⟨x3, s2, hm, hF⟩
  rotate_left
  · refine zi_callV rfl rfl rfl (zh_X _) rfl (zk_C.to (zk_C.up (by decide) (zF_X_keys hm)) (fun o ho => ?_))
    by_cases hx0 : x3 = 0
    · have hF := zf_p hx0 hF
      rw [hx0] at ho
      refine zk_K.cat (x := 0) (h2 := zHp s2) (hp := 12) ho rfl rfl ?_
      refine zi_iconst (v := (1 : Int32)) rfl rfl ?_
      cases hF
      exact zi_ireturn rfl rfl rfl
    have hF := zf_n hx0 hF
    cases hF
  refine zi_callV rfl rfl rfl (zh_X _) rfl (zk_C.to (zk_C.up (by decide) (zF_X_keys hm)) (fun o ho => zk_K.okv ho ?_))
  refine zi_i2l rfl ?_
  obtain ⟨hb, hF⟩ := zf_g hF
  refine zi_lastore rfl (zh_B3 _) (zin_ok hb) (zs_B3 _ _) ?_
  refine zi_goto rfl ?_
  refine zi_iconst (v := (0 : Int32)) rfl rfl ?_
  cases hF
  exact zi_ireturn rfl rfl rfl
/-! m_O_nth -/
def F_O_nth_11  (s : zSt) : Option (Int32 × zSt) := some ((0 : Int32), s)
def F_O_nth_44 (x3 : Int32) (s : zSt) : Option (Int32 × zSt) := some (x3, s)
def F_O_nth_22  : Nat → Int32 → Int32 → Int32 → zSt → Option (Int32 × zSt)
  | 0, _, _, _, _ => none
  | n + 1, x2, x3, x4, s => (if x2 ≤ x4 then F_O_nth_44    (x3) s else (if x3 = 0 then F_O_nth_44    (x3) s else (zb (F_O_next (x3) s) (fun v3 s4 => F_O_nth_22  n (x2) (v3) ((x4 + (1 : Int32))) s4))))
def F_O_nth (p1 : Int32) (p2 : Int32) (s : zSt) : Option (Int32 × zSt) := (if p2 < 0 then F_O_nth_11     s else (if p2 < (1024 : Int32) then (zb (F_O_first (p1) s) (fun v1 s2 => F_O_nth_22   zFuel (p2) (v1) ((0 : Int32)) s2)) else F_O_nth_11     s))
theorem zJ_O_nth_11 {X : zkX}  (s : zSt) (r) (hF : F_O_nth_11    s = some r) : zk_W X 2 m_O_nth (11, [], [], zHp s) (fun o => o = zoI r) := by
  unfold F_O_nth_11 at hF
  refine zi_iconst (v := (0 : Int32)) rfl rfl ?_
  cases hF
  exact zi_ireturn rfl rfl rfl
theorem zJ_O_nth_44 {X : zkX} (x3 : Int32) (s : zSt) (r) (hF : F_O_nth_44   x3 s = some r) : zk_W X 2 m_O_nth (44, [(3, .int x3)], [], zHp s) (fun o => o = zoI r) := by
  unfold F_O_nth_44 at hF
  refine zi_iload_n rfl rfl ?_
  cases hF
  exact zi_ireturn rfl rfl rfl
theorem zJ_O_nth_22 {X : zkX} : ∀ (n : Nat) (x2 : Int32) (x3 : Int32) (x4 : Int32) (s : zSt) (r), F_O_nth_22   n x2 x3 x4 s = some r → zk_W X 2 m_O_nth (22, [(0, .ref 2), (2, .int x2), (3, .int x3), (4, .int x4)], [], zHp s) (fun o => o = zoI r) := by
  intro n
  induction n with
  | zero => intro x2 x3 x4 s r hF; cases hF
  | succ n ih =>
    intro x2 x3 x4 s r hF
    rw [F_O_nth_22] at hF
    refine zi_iload rfl rfl ?_
    refine zi_iload_n rfl rfl ?_
    refine zi_icge rfl (fun hc => ?_) (fun hc => ?_)
    · have hF := zf_p hc hF
      exact zk_sb (zJ_O_nth_44   _ _ _ hF) rfl ⟨rfl, trivial⟩
    · have hF := zf_n hc hF
      refine zi_iload_n rfl rfl ?_
      refine zi_ifeq rfl (fun hc => ?_) (fun hc => ?_)
      · have hF := zf_p hc hF
        exact zk_sb (zJ_O_nth_44   _ _ _ hF) rfl ⟨rfl, trivial⟩
      · have hF := zf_n hc hF
        refine zi_aload_n rfl rfl ?_
        refine zi_iload_n rfl rfl ?_
        obtain ⟨v3, s4, hm, hF⟩ := zf_b hF
        refine zi_callV rfl rfl rfl (zh_O _) rfl (zk_C.to (zk_C.up (by decide) (zF_O_next hm)) (fun o ho => zk_K.okv ho ?_))
        refine zi_istore_n rfl rfl rfl ?_
        refine zi_iinc (y := (x4 + (1 : Int32))) rfl rfl rfl rfl rfl ?_
        refine zi_goto rfl ?_
        exact zk_sb (ih _ _ _ _ _ hF) rfl ⟨rfl, rfl, rfl, rfl, trivial⟩
theorem zF_O_nth {X : zkX} {p1 : Int32} {p2 : Int32} {s : zSt} {r} (hF : F_O_nth p1 p2 s = some r) : zk_C X 3 m_O_nth [.ref 2, .int p1, .int p2] (zHp s) (fun o => o = zoI r) := by
  unfold F_O_nth at hF
  refine zk_enter (lv := [(0, .ref 2), (1, .int p1), (2, .int p2)]) rfl rfl ?_
  refine zi_iload_n rfl rfl ?_
  refine zi_iflt rfl (fun hc => ?_) (fun hc => ?_)
  · have hF := zf_p hc hF
    exact zk_sb (zJ_O_nth_11    _ _ hF) rfl trivial
  · have hF := zf_n hc hF
    refine zi_iload_n rfl rfl ?_
    refine zi_sipush (v := (1024 : Int32)) rfl rfl ?_
    refine zi_iclt rfl (fun hc => ?_) (fun hc => ?_)
    · have hF := zf_p hc hF
      refine zi_aload_n rfl rfl ?_
      refine zi_iload_n rfl rfl ?_
      obtain ⟨v1, s2, hm, hF⟩ := zf_b hF
      refine zi_callV rfl rfl rfl (zh_O _) rfl (zk_C.to (zk_C.up (by decide) (zF_O_first hm)) (fun o ho => zk_K.okv ho ?_))
      refine zi_istore_n rfl rfl rfl ?_
      refine zi_iconst (v := (0 : Int32)) rfl rfl ?_
      refine zi_istore rfl rfl rfl ?_
      exact zk_sb (zJ_O_nth_22  zFuel _ _ _ _ _ hF) rfl ⟨rfl, rfl, rfl, rfl, trivial⟩
    · have hF := zf_n hc hF
      exact zk_sb (zJ_O_nth_11    _ _ hF) rfl trivial
/-! m_X_key -/
def F_X_key (p1 : Int32) (p2 : Int32) (s : zSt) : Option ((Int64 ⊕ Nat) × zSt) := (zt (F_X_held (p1) s) (fun v1 s2 => (zb (F_O_nth (v1) (p2) s2) (fun v4 s5 => (if v4 = 0 then some (.inr 0, zpush s5) else (zb (F_O_keyOf (v4) s5) (fun v6 s7 => some (.inl v6, s7))))))))
theorem zF_X_key {X : zkX} {p1 : Int32} {p2 : Int32} {s : zSt} {r} (hF : F_X_key p1 p2 s = some r) : zk_C X 9 m_X_key [.ref 1, .int p1, .int p2] (zHp s) (fun o => o = ztL r) := by
  unfold F_X_key at hF
  refine zk_enter (lv := [(0, .ref 1), (1, .int p1), (2, .int p2)]) rfl rfl ?_
  refine zi_aload_n rfl rfl ?_
  refine zi_getfield rfl rfl (zh_X _) rfl ?_
  refine zi_aload_n rfl rfl ?_
  refine zi_iload_n rfl rfl ?_
  rcases zf_t hF with ⟨v1, s2, hm, hF⟩ | ⟨x3, s2, hm, hF⟩
  rotate_left
  · subst hF
    exact zi_callV rfl rfl rfl (zh_X _) rfl (zk_C.to (zk_C.up (by decide) (zF_X_held hm)) (fun o ho => zk_K.thr (x := x3) (h2 := zHp s2) ho rfl rfl))
  refine zi_callV rfl rfl rfl (zh_X _) rfl (zk_C.to (zk_C.up (by decide) (zF_X_held hm)) (fun o ho => zk_K.okv ho ?_))
  refine zi_iload_n rfl rfl ?_
  obtain ⟨v4, s5, hm, hF⟩ := zf_b hF
  refine zi_callV rfl rfl rfl (zh_O _) rfl (zk_C.to (zk_C.up (by decide) (zF_O_nth hm)) (fun o ho => zk_K.okv ho ?_))
  refine zi_istore_n rfl rfl rfl ?_
  refine zi_iload_n rfl rfl ?_
  refine zi_ifne rfl (fun hc => ?_) (fun hc => ?_)
  · have hF := zf_n hc hF
    refine zi_aload_n rfl rfl ?_
    refine zi_getfield rfl rfl (zh_X _) rfl ?_
    refine zi_iload_n rfl rfl ?_
    obtain ⟨v6, s7, hm, hF⟩ := zf_b hF
    refine zi_callV rfl rfl rfl (zh_O _) rfl (zk_C.to (zk_C.up (by decide) (zF_O_keyOf hm)) (fun o ho => zk_K.okv ho ?_))
    cases hF
    exact zi_lreturn rfl rfl rfl
  · have hF := zf_p hc hF
    cases hF
    exact zi_throw rfl rfl rfl rfl rfl (by rw [zh_push]; rfl)
/-! m_L_key -/
def F_L_key (p1 : Int32) (p2 : Int32) (s : zSt) : Option (Int32 × zSt) := (zc (F_X_key (p1) (p2) s) (fun v1 s2 => (if zin (0 : Int32) 1 then some ((0 : Int32), (sB s2 3 (vp_updL (gB s2 3) ((0 : Int32)).toNatClampNeg v1))) else none)) (fun x3 s2 => (if x3 = 0 then some ((1 : Int32), s2) else none)))
theorem zF_L_key {X : zkX} {p1 : Int32} {p2 : Int32} {s : zSt} {r} (hF : F_L_key p1 p2 s = some r) : zk_C X 10 m_L_key [.ref 1, .int p1, .int p2, .ref 20] (zHp s) (fun o => o = zoI r) := by
  unfold F_L_key at hF
  refine zk_enter (lv := [(0, .ref 1), (1, .int p1), (2, .int p2), (3, .ref 20)]) rfl rfl ?_
  refine zi_aload_n rfl rfl ?_
  refine zi_iconst (v := (0 : Int32)) rfl rfl ?_
  refine zi_aload_n rfl rfl ?_
  refine zi_iload_n rfl rfl ?_
  refine zi_iload_n rfl rfl ?_
  rcases zf_c hF with ⟨v1, s2, hm, hF⟩ | ⟨x3, s2, hm, hF⟩
  rotate_left
  · refine zi_callV rfl rfl rfl (zh_X _) rfl (zk_C.to (zk_C.up (by decide) (zF_X_key hm)) (fun o ho => ?_))
    by_cases hx0 : x3 = 0
    · have hF := zf_p hx0 hF
      rw [hx0] at ho
      refine zk_K.cat (x := 0) (h2 := zHp s2) (hp := 12) ho rfl rfl ?_
      refine zi_iconst (v := (1 : Int32)) rfl rfl ?_
      cases hF
      exact zi_ireturn rfl rfl rfl
    have hF := zf_n hx0 hF
    cases hF
  refine zi_callV rfl rfl rfl (zh_X _) rfl (zk_C.to (zk_C.up (by decide) (zF_X_key hm)) (fun o ho => zk_K.okv ho ?_))
  obtain ⟨hb, hF⟩ := zf_g hF
  refine zi_lastore rfl (zh_B3 _) (zin_ok hb) (zs_B3 _ _) ?_
  refine zi_goto rfl ?_
  refine zi_iconst (v := (0 : Int32)) rfl rfl ?_
  cases hF
  exact zi_ireturn rfl rfl rfl
/-! m_X_heldWithLock -/
def F_X_heldWithLock_15  (s : zSt) : Option ((Int32 ⊕ Nat) × zSt) := some (.inr 0, zpush s)
def F_X_heldWithLock (p1 : Int32) (p2 : Int32) (s : zSt) : Option ((Int32 ⊕ Nat) × zSt) := (zt (F_X_held (p1) s) (fun v1 s2 => (if p2 < 0 then F_X_heldWithLock_15     s2 else (if p2 ≤ (2 : Int32) then some (.inl v1, s2) else F_X_heldWithLock_15     s2))))
theorem zJ_X_heldWithLock_15 {X : zkX}  (s : zSt) (r) (hF : F_X_heldWithLock_15    s = some r) : zk_W X 8 m_X_heldWithLock (15, [], [], zHp s) (fun o => o = ztI r) := by
  unfold F_X_heldWithLock_15 at hF
  cases hF
  exact zi_throw rfl rfl rfl rfl rfl (by rw [zh_push]; rfl)
theorem zF_X_heldWithLock {X : zkX} {p1 : Int32} {p2 : Int32} {s : zSt} {r} (hF : F_X_heldWithLock p1 p2 s = some r) : zk_C X 9 m_X_heldWithLock [.ref 1, .int p1, .int p2] (zHp s) (fun o => o = ztI r) := by
  unfold F_X_heldWithLock at hF
  refine zk_enter (lv := [(0, .ref 1), (1, .int p1), (2, .int p2)]) rfl rfl ?_
  refine zi_aload_n rfl rfl ?_
  refine zi_iload_n rfl rfl ?_
  rcases zf_t hF with ⟨v1, s2, hm, hF⟩ | ⟨x3, s2, hm, hF⟩
  rotate_left
  · subst hF
    exact zi_callV rfl rfl rfl (zh_X _) rfl (zk_C.to (zk_C.up (by decide) (zF_X_held hm)) (fun o ho => zk_K.thr (x := x3) (h2 := zHp s2) ho rfl rfl))
  refine zi_callV rfl rfl rfl (zh_X _) rfl (zk_C.to (zk_C.up (by decide) (zF_X_held hm)) (fun o ho => zk_K.okv ho ?_))
  refine zi_istore_n rfl rfl rfl ?_
  refine zi_iload_n rfl rfl ?_
  refine zi_iflt rfl (fun hc => ?_) (fun hc => ?_)
  · have hF := zf_p hc hF
    exact zk_sb (zJ_X_heldWithLock_15    _ _ hF) rfl trivial
  · have hF := zf_n hc hF
    refine zi_iload_n rfl rfl ?_
    refine zi_iconst (v := (2 : Int32)) rfl rfl ?_
    refine zi_icle rfl (fun hc => ?_) (fun hc => ?_)
    · have hF := zf_p hc hF
      refine zi_iload_n rfl rfl ?_
      cases hF
      exact zi_ireturn rfl rfl rfl
    · have hF := zf_n hc hF
      exact zk_sb (zJ_X_heldWithLock_15    _ _ hF) rfl trivial
/-! m_X_lockedAttributes -/
def F_X_lockedAttributes_18 (y0 : Int32) (s : zSt) : Option (Int32 × zSt) := some (y0, s)
def F_X_lockedAttributes (p0 : Int32) (s : zSt) : Option (Int32 × zSt) := (if p0 = 0 then some ((0 : Int32), s) else (if p0 = (1 : Int32) then F_X_lockedAttributes_18    ((32 : Int32)) s else F_X_lockedAttributes_18    ((34 : Int32)) s))
theorem zJ_X_lockedAttributes_18 {X : zkX} (y0 : Int32) (s : zSt) (r) (hF : F_X_lockedAttributes_18   y0 s = some r) : zk_W X 0 m_X_lockedAttributes (18, [], [.int y0], zHp s) (fun o => o = zoI r) := by
  unfold F_X_lockedAttributes_18 at hF
  cases hF
  exact zi_ireturn rfl rfl rfl
theorem zF_X_lockedAttributes {X : zkX} {p0 : Int32} {s : zSt} {r} (hF : F_X_lockedAttributes p0 s = some r) : zk_C X 1 m_X_lockedAttributes [.int p0] (zHp s) (fun o => o = zoI r) := by
  unfold F_X_lockedAttributes at hF
  refine zk_enter (lv := [(0, .int p0)]) rfl rfl ?_
  refine zi_iload_n rfl rfl ?_
  refine zi_ifne rfl (fun hc => ?_) (fun hc => ?_)
  · have hF := zf_n hc hF
    refine zi_iload_n rfl rfl ?_
    refine zi_iconst (v := (1 : Int32)) rfl rfl ?_
    refine zi_icne rfl (fun hc => ?_) (fun hc => ?_)
    · have hF := zf_n hc hF
      refine zi_bipush (v := (34 : Int32)) rfl rfl ?_
      exact zk_sb (zJ_X_lockedAttributes_18   _ _ _ hF) rfl trivial
    · have hF := zf_p hc hF
      refine zi_bipush (v := (32 : Int32)) rfl rfl ?_
      refine zi_goto rfl ?_
      exact zk_sb (zJ_X_lockedAttributes_18   _ _ _ hF) rfl trivial
  · have hF := zf_p hc hF
    refine zi_iconst (v := (0 : Int32)) rfl rfl ?_
    cases hF
    exact zi_ireturn rfl rfl rfl
/-! m_O_close -/
def F_O_close_62  (s : zSt) : Option (Unit × zSt) := some ((), s)
def F_O_close_19  : Nat → Int32 → Int32 → Int32 → zSt → Option (Unit × zSt)
  | 0, _, _, _, _ => none
  | n + 1, x2, x3, x4, s => (if (1024 : Int32) ≤ x4 then F_O_close_62     s else (if x3 = 0 then F_O_close_62     s else (zb (F_O_attributesOf (x3) s) (fun v5 s6 => (zb (F_M_setWord (x3) ((5 : Int32)) (((v5 &&& (x2 ^^^ (-1 : Int32)))).toInt64) s6) (fun v7 s8 => (zb (F_O_next (x3) s8) (fun v9 s10 => F_O_close_19  n (x2) (v9) ((x4 + (1 : Int32))) s10))))))))
def F_O_close (p1 : Int32) (p2 : Int32) (s : zSt) : Option (Unit × zSt) := (zb (F_M_setWord (p1) ((4 : Int32)) ((0 : Int64)) s) (fun v1 s2 => (zb (F_O_first (p1) s2) (fun v3 s4 => F_O_close_19   zFuel (p2) (v3) ((0 : Int32)) s4))))
theorem zJ_O_close_62 {X : zkX}  (s : zSt) (r) (hF : F_O_close_62    s = some r) : zk_W X 2 m_O_close (62, [], [], zHp s) (fun o => o = zoU r) := by
  unfold F_O_close_62 at hF
  cases hF
  exact zi_return rfl rfl rfl
theorem zJ_O_close_19 {X : zkX} : ∀ (n : Nat) (x2 : Int32) (x3 : Int32) (x4 : Int32) (s : zSt) (r), F_O_close_19   n x2 x3 x4 s = some r → zk_W X 2 m_O_close (19, [(0, .ref 2), (2, .int x2), (3, .int x3), (4, .int x4)], [], zHp s) (fun o => o = zoU r) := by
  intro n
  induction n with
  | zero => intro x2 x3 x4 s r hF; cases hF
  | succ n ih =>
    intro x2 x3 x4 s r hF
    rw [F_O_close_19] at hF
    refine zi_iload rfl rfl ?_
    refine zi_sipush (v := (1024 : Int32)) rfl rfl ?_
    refine zi_icge rfl (fun hc => ?_) (fun hc => ?_)
    · have hF := zf_p hc hF
      exact zk_sb (zJ_O_close_62    _ _ hF) rfl trivial
    · have hF := zf_n hc hF
      refine zi_iload_n rfl rfl ?_
      refine zi_ifeq rfl (fun hc => ?_) (fun hc => ?_)
      · have hF := zf_p hc hF
        exact zk_sb (zJ_O_close_62    _ _ hF) rfl trivial
      · have hF := zf_n hc hF
        refine zi_aload_n rfl rfl ?_
        refine zi_getfield rfl rfl (zh_O _) rfl ?_
        refine zi_iload_n rfl rfl ?_
        refine zi_iconst (v := (5 : Int32)) rfl rfl ?_
        refine zi_aload_n rfl rfl ?_
        refine zi_iload_n rfl rfl ?_
        obtain ⟨v5, s6, hm, hF⟩ := zf_b hF
        refine zi_callV rfl rfl rfl (zh_O _) rfl (zk_C.to (zk_C.up (by decide) (zF_O_attributesOf hm)) (fun o ho => zk_K.okv ho ?_))
        refine zi_iload_n rfl rfl ?_
        refine zi_iconst (v := (-1 : Int32)) rfl rfl ?_
        refine zi_ixor rfl ?_
        refine zi_iand rfl ?_
        refine zi_i2l rfl ?_
        obtain ⟨v7, s8, hm, hF⟩ := zf_b hF
        refine zi_callV rfl rfl rfl (zh_M _) rfl (zk_C.to (zk_C.up (by decide) (zF_M_setWord hm)) (fun o ho => zk_K.okn ho ?_))
        refine zi_aload_n rfl rfl ?_
        refine zi_iload_n rfl rfl ?_
        obtain ⟨v9, s10, hm, hF⟩ := zf_b hF
        refine zi_callV rfl rfl rfl (zh_O _) rfl (zk_C.to (zk_C.up (by decide) (zF_O_next hm)) (fun o ho => zk_K.okv ho ?_))
        refine zi_istore_n rfl rfl rfl ?_
        refine zi_iinc (y := (x4 + (1 : Int32))) rfl rfl rfl rfl rfl ?_
        refine zi_goto rfl ?_
        exact zk_sb (ih _ _ _ _ _ hF) rfl ⟨rfl, rfl, rfl, rfl, trivial⟩
theorem zF_O_close {X : zkX} {p1 : Int32} {p2 : Int32} {s : zSt} {r} (hF : F_O_close p1 p2 s = some r) : zk_C X 3 m_O_close [.ref 2, .int p1, .int p2] (zHp s) (fun o => o = zoU r) := by
  unfold F_O_close at hF
  refine zk_enter (lv := [(0, .ref 2), (1, .int p1), (2, .int p2)]) rfl rfl ?_
  refine zi_aload_n rfl rfl ?_
  refine zi_getfield rfl rfl (zh_O _) rfl ?_
  refine zi_iload_n rfl rfl ?_
  refine zi_iconst (v := (4 : Int32)) rfl rfl ?_
  refine zi_lconst (v := (0 : Int64)) rfl rfl ?_
  obtain ⟨v1, s2, hm, hF⟩ := zf_b hF
  refine zi_callV rfl rfl rfl (zh_M _) rfl (zk_C.to (zk_C.up (by decide) (zF_M_setWord hm)) (fun o ho => zk_K.okn ho ?_))
  refine zi_aload_n rfl rfl ?_
  refine zi_iload_n rfl rfl ?_
  obtain ⟨v3, s4, hm, hF⟩ := zf_b hF
  refine zi_callV rfl rfl rfl (zh_O _) rfl (zk_C.to (zk_C.up (by decide) (zF_O_first hm)) (fun o ho => zk_K.okv ho ?_))
  refine zi_istore_n rfl rfl rfl ?_
  refine zi_iconst (v := (0 : Int32)) rfl rfl ?_
  refine zi_istore rfl rfl rfl ?_
  exact zk_sb (zJ_O_close_19  zFuel _ _ _ _ _ hF) rfl ⟨rfl, rfl, rfl, rfl, trivial⟩
/-! m_X_lock -/
def F_X_lock (p1 : Int32) (p2 : Int32) (s : zSt) : Option ((Unit ⊕ Nat) × zSt) := (zt (F_X_heldWithLock (p1) (p2) s) (fun v1 s2 => (zb (F_X_lockedAttributes (p2) s2) (fun v4 s5 => (zb (F_O_close (v1) (v4) s5) (fun v6 s7 => some (.inl (), s7)))))))
theorem zF_X_lock {X : zkX} {p1 : Int32} {p2 : Int32} {s : zSt} {r} (hF : F_X_lock p1 p2 s = some r) : zk_C X 10 m_X_lock [.ref 1, .int p1, .int p2] (zHp s) (fun o => o = ztU r) := by
  unfold F_X_lock at hF
  refine zk_enter (lv := [(0, .ref 1), (1, .int p1), (2, .int p2)]) rfl rfl ?_
  refine zi_aload_n rfl rfl ?_
  refine zi_getfield rfl rfl (zh_X _) rfl ?_
  refine zi_aload_n rfl rfl ?_
  refine zi_iload_n rfl rfl ?_
  refine zi_iload_n rfl rfl ?_
  rcases zf_t hF with ⟨v1, s2, hm, hF⟩ | ⟨x3, s2, hm, hF⟩
  rotate_left
  · subst hF
    exact zi_callV rfl rfl rfl (zh_X _) rfl (zk_C.to (zk_C.up (by decide) (zF_X_heldWithLock hm)) (fun o ho => zk_K.thr (x := x3) (h2 := zHp s2) ho rfl rfl))
  refine zi_callV rfl rfl rfl (zh_X _) rfl (zk_C.to (zk_C.up (by decide) (zF_X_heldWithLock hm)) (fun o ho => zk_K.okv ho ?_))
  refine zi_iload_n rfl rfl ?_
  obtain ⟨v4, s5, hm, hF⟩ := zf_b hF
  refine zi_callS rfl rfl rfl rfl (zk_C.to (zk_C.up (by decide) (zF_X_lockedAttributes hm)) (fun o ho => zk_K.okv ho ?_))
  obtain ⟨v6, s7, hm, hF⟩ := zf_b hF
  refine zi_callV rfl rfl rfl (zh_O _) rfl (zk_C.to (zk_C.up (by decide) (zF_O_close hm)) (fun o ho => zk_K.okn ho ?_))
  cases hF
  exact zi_return rfl rfl rfl
/-! m_L_lock -/
def F_L_lock (p1 : Int32) (p2 : Int32) (s : zSt) : Option (Int32 × zSt) := (zc (F_X_lock (p1) (p2) s) (fun v1 s2 => some ((0 : Int32), s2)) (fun x3 s2 => (if x3 = 0 then some ((1 : Int32), s2) else none)))
theorem zF_L_lock {X : zkX} {p1 : Int32} {p2 : Int32} {s : zSt} {r} (hF : F_L_lock p1 p2 s = some r) : zk_C X 11 m_L_lock [.ref 1, .int p1, .int p2] (zHp s) (fun o => o = zoI r) := by
  unfold F_L_lock at hF
  refine zk_enter (lv := [(0, .ref 1), (1, .int p1), (2, .int p2)]) rfl rfl ?_
  refine zi_aload_n rfl rfl ?_
  refine zi_iload_n rfl rfl ?_
  refine zi_iload_n rfl rfl ?_
  rcases zf_c hF with ⟨v1, s2, hm, hF⟩ | ⟨x3, s2, hm, hF⟩
  rotate_left
  · refine zi_callV rfl rfl rfl (zh_X _) rfl (zk_C.to (zk_C.up (by decide) (zF_X_lock hm)) (fun o ho => ?_))
    by_cases hx0 : x3 = 0
    · have hF := zf_p hx0 hF
      rw [hx0] at ho
      refine zk_K.cat (x := 0) (h2 := zHp s2) (hp := 9) ho rfl rfl ?_
      refine zi_iconst (v := (1 : Int32)) rfl rfl ?_
      cases hF
      exact zi_ireturn rfl rfl rfl
    have hF := zf_n hx0 hF
    cases hF
  refine zi_callV rfl rfl rfl (zh_X _) rfl (zk_C.to (zk_C.up (by decide) (zF_X_lock hm)) (fun o ho => zk_K.okn ho ?_))
  refine zi_goto rfl ?_
  refine zi_iconst (v := (0 : Int32)) rfl rfl ?_
  cases hF
  exact zi_ireturn rfl rfl rfl
/-! m_O_isClosed -/
def F_O_isClosed_71 (x3 : Int32) (s : zSt) : Option (Int32 × zSt) := (if vp_nar .boolean x3 = x3 then some (x3, s) else none)
def F_O_isClosed_56 (K24 : Int32 → Int32 → Int32 → Int32 → zSt → Option (Int32 × zSt)) (x2 : Int32) (x4 : Int32) (x5 : Int32) (y0 : Int32) (s : zSt) : Option (Int32 × zSt) := (zb (F_O_next (x4) s) (fun v5 s6 => K24 (x2) (y0) (v5) ((x5 + (1 : Int32))) s6))
def F_O_isClosed_55 (K24 : Int32 → Int32 → Int32 → Int32 → zSt → Option (Int32 × zSt)) (x2 : Int32) (x4 : Int32) (x5 : Int32) (s : zSt) : Option (Int32 × zSt) := F_O_isClosed_56  K24  (x2) (x4) (x5) ((0 : Int32)) s
def F_O_isClosed_24  : Nat → Int32 → Int32 → Int32 → Int32 → zSt → Option (Int32 × zSt)
  | 0, _, _, _, _, _ => none
  | n + 1, x2, x3, x4, x5, s => (if (1024 : Int32) ≤ x5 then F_O_isClosed_71    (x3) s else (if x4 = 0 then F_O_isClosed_71    (x3) s else (if x3 = 0 then F_O_isClosed_55  (F_O_isClosed_24  n)  (x2) (x4) (x5) s else (zb (F_O_isAny (x4) (x2) s) (fun v7 s8 => (if v7 = 0 then F_O_isClosed_56  (F_O_isClosed_24  n)  (x2) (x4) (x5) ((1 : Int32)) s8 else F_O_isClosed_55  (F_O_isClosed_24  n)  (x2) (x4) (x5) s8))))))
def F_O_isClosed_13 (x1 : Int32) (x2 : Int32) (y0 : Int32) (s : zSt) : Option (Int32 × zSt) := (zb (F_O_first (x1) s) (fun v3 s4 => F_O_isClosed_24   zFuel (x2) (y0) (v3) ((0 : Int32)) s4))
def F_O_isClosed (p1 : Int32) (p2 : Int32) (s : zSt) : Option (Int32 × zSt) := (zb (F_O_isExtensible (p1) s) (fun v1 s2 => (if v1 = 0 then F_O_isClosed_13    (p1) (p2) ((1 : Int32)) s2 else F_O_isClosed_13    (p1) (p2) ((0 : Int32)) s2)))
theorem zJ_O_isClosed_71 {X : zkX} (x3 : Int32) (s : zSt) (r) (hF : F_O_isClosed_71   x3 s = some r) : zk_W X 2 m_O_isClosed (71, [(3, .int x3)], [], zHp s) (fun o => o = zoI r) := by
  unfold F_O_isClosed_71 at hF
  refine zi_iload_n rfl rfl ?_
  obtain ⟨hz, hF⟩ := zf_g hF
  cases hF
  exact zi_zreturn rfl rfl hz rfl
theorem zJ_O_isClosed_56 {X : zkX} (K24 : Int32 → Int32 → Int32 → Int32 → zSt → Option (Int32 × zSt)) (hK24 : ∀ (x2 : Int32) (x3 : Int32) (x4 : Int32) (x5 : Int32) (s : zSt) r, K24 x2 x3 x4 x5 s = some r → zk_W X 2 m_O_isClosed (24, [(0, .ref 2), (2, .int x2), (3, .int x3), (4, .int x4), (5, .int x5)], [], zHp s) (fun o => o = zoI r)) (x2 : Int32) (x4 : Int32) (x5 : Int32) (y0 : Int32) (s : zSt) (r) (hF : F_O_isClosed_56  K24 x2 x4 x5 y0 s = some r) : zk_W X 2 m_O_isClosed (56, [(0, .ref 2), (2, .int x2), (4, .int x4), (5, .int x5)], [.int y0], zHp s) (fun o => o = zoI r) := by
  unfold F_O_isClosed_56 at hF
  refine zi_istore_n rfl rfl rfl ?_
  refine zi_aload_n rfl rfl ?_
  refine zi_iload rfl rfl ?_
  obtain ⟨v5, s6, hm, hF⟩ := zf_b hF
  refine zi_callV rfl rfl rfl (zh_O _) rfl (zk_C.to (zk_C.up (by decide) (zF_O_next hm)) (fun o ho => zk_K.okv ho ?_))
  refine zi_istore rfl rfl rfl ?_
  refine zi_iinc (y := (x5 + (1 : Int32))) rfl rfl rfl rfl rfl ?_
  refine zi_goto rfl ?_
  exact zk_sb (hK24 _ _ _ _ _ _ hF) rfl ⟨rfl, rfl, rfl, rfl, rfl, trivial⟩
theorem zJ_O_isClosed_55 {X : zkX} (K24 : Int32 → Int32 → Int32 → Int32 → zSt → Option (Int32 × zSt)) (hK24 : ∀ (x2 : Int32) (x3 : Int32) (x4 : Int32) (x5 : Int32) (s : zSt) r, K24 x2 x3 x4 x5 s = some r → zk_W X 2 m_O_isClosed (24, [(0, .ref 2), (2, .int x2), (3, .int x3), (4, .int x4), (5, .int x5)], [], zHp s) (fun o => o = zoI r)) (x2 : Int32) (x4 : Int32) (x5 : Int32) (s : zSt) (r) (hF : F_O_isClosed_55  K24 x2 x4 x5 s = some r) : zk_W X 2 m_O_isClosed (55, [(0, .ref 2), (2, .int x2), (4, .int x4), (5, .int x5)], [], zHp s) (fun o => o = zoI r) := by
  unfold F_O_isClosed_55 at hF
  refine zi_iconst (v := (0 : Int32)) rfl rfl ?_
  exact zk_sb (zJ_O_isClosed_56 K24 hK24  _ _ _ _ _ _ hF) rfl ⟨rfl, rfl, rfl, rfl, trivial⟩
theorem zJ_O_isClosed_24 {X : zkX} : ∀ (n : Nat) (x2 : Int32) (x3 : Int32) (x4 : Int32) (x5 : Int32) (s : zSt) (r), F_O_isClosed_24   n x2 x3 x4 x5 s = some r → zk_W X 2 m_O_isClosed (24, [(0, .ref 2), (2, .int x2), (3, .int x3), (4, .int x4), (5, .int x5)], [], zHp s) (fun o => o = zoI r) := by
  intro n
  induction n with
  | zero => intro x2 x3 x4 x5 s r hF; cases hF
  | succ n ih =>
    intro x2 x3 x4 x5 s r hF
    rw [F_O_isClosed_24] at hF
    refine zi_iload rfl rfl ?_
    refine zi_sipush (v := (1024 : Int32)) rfl rfl ?_
    refine zi_icge rfl (fun hc => ?_) (fun hc => ?_)
    · have hF := zf_p hc hF
      exact zk_sb (zJ_O_isClosed_71   _ _ _ hF) rfl ⟨rfl, trivial⟩
    · have hF := zf_n hc hF
      refine zi_iload rfl rfl ?_
      refine zi_ifeq rfl (fun hc => ?_) (fun hc => ?_)
      · have hF := zf_p hc hF
        exact zk_sb (zJ_O_isClosed_71   _ _ _ hF) rfl ⟨rfl, trivial⟩
      · have hF := zf_n hc hF
        refine zi_iload_n rfl rfl ?_
        refine zi_ifeq rfl (fun hc => ?_) (fun hc => ?_)
        · have hF := zf_p hc hF
          exact zk_sb (zJ_O_isClosed_55 (F_O_isClosed_24  n) ih  _ _ _ _ _ hF) rfl ⟨rfl, rfl, rfl, rfl, trivial⟩
        · have hF := zf_n hc hF
          refine zi_aload_n rfl rfl ?_
          refine zi_iload rfl rfl ?_
          refine zi_iload_n rfl rfl ?_
          obtain ⟨v7, s8, hm, hF⟩ := zf_b hF
          refine zi_callV rfl rfl rfl (zh_O _) rfl (zk_C.to (zk_C.up (by decide) (zF_O_isAny hm)) (fun o ho => zk_K.okv ho ?_))
          refine zi_ifne rfl (fun hc => ?_) (fun hc => ?_)
          · have hF := zf_n hc hF
            exact zk_sb (zJ_O_isClosed_55 (F_O_isClosed_24  n) ih  _ _ _ _ _ hF) rfl ⟨rfl, rfl, rfl, rfl, trivial⟩
          · have hF := zf_p hc hF
            refine zi_iconst (v := (1 : Int32)) rfl rfl ?_
            refine zi_goto rfl ?_
            exact zk_sb (zJ_O_isClosed_56 (F_O_isClosed_24  n) ih  _ _ _ _ _ _ hF) rfl ⟨rfl, rfl, rfl, rfl, trivial⟩
theorem zJ_O_isClosed_13 {X : zkX} (x1 : Int32) (x2 : Int32) (y0 : Int32) (s : zSt) (r) (hF : F_O_isClosed_13   x1 x2 y0 s = some r) : zk_W X 2 m_O_isClosed (13, [(0, .ref 2), (1, .int x1), (2, .int x2)], [.int y0], zHp s) (fun o => o = zoI r) := by
  unfold F_O_isClosed_13 at hF
  refine zi_istore_n rfl rfl rfl ?_
  refine zi_aload_n rfl rfl ?_
  refine zi_iload_n rfl rfl ?_
  obtain ⟨v3, s4, hm, hF⟩ := zf_b hF
  refine zi_callV rfl rfl rfl (zh_O _) rfl (zk_C.to (zk_C.up (by decide) (zF_O_first hm)) (fun o ho => zk_K.okv ho ?_))
  refine zi_istore rfl rfl rfl ?_
  refine zi_iconst (v := (0 : Int32)) rfl rfl ?_
  refine zi_istore rfl rfl rfl ?_
  exact zk_sb (zJ_O_isClosed_24  zFuel _ _ _ _ _ _ hF) rfl ⟨rfl, rfl, rfl, rfl, rfl, trivial⟩
theorem zF_O_isClosed {X : zkX} {p1 : Int32} {p2 : Int32} {s : zSt} {r} (hF : F_O_isClosed p1 p2 s = some r) : zk_C X 3 m_O_isClosed [.ref 2, .int p1, .int p2] (zHp s) (fun o => o = zoI r) := by
  unfold F_O_isClosed at hF
  refine zk_enter (lv := [(0, .ref 2), (1, .int p1), (2, .int p2)]) rfl rfl ?_
  refine zi_aload_n rfl rfl ?_
  refine zi_iload_n rfl rfl ?_
  obtain ⟨v1, s2, hm, hF⟩ := zf_b hF
  refine zi_callV rfl rfl rfl (zh_O _) rfl (zk_C.to (zk_C.up (by decide) (zF_O_isExtensible hm)) (fun o ho => zk_K.okv ho ?_))
  refine zi_ifne rfl (fun hc => ?_) (fun hc => ?_)
  · have hF := zf_n hc hF
    refine zi_iconst (v := (0 : Int32)) rfl rfl ?_
    exact zk_sb (zJ_O_isClosed_13   _ _ _ _ _ hF) rfl ⟨rfl, rfl, rfl, trivial⟩
  · have hF := zf_p hc hF
    refine zi_iconst (v := (1 : Int32)) rfl rfl ?_
    refine zi_goto rfl ?_
    exact zk_sb (zJ_O_isClosed_13   _ _ _ _ _ hF) rfl ⟨rfl, rfl, rfl, trivial⟩
/-! m_X_locked -/
def F_X_locked (p1 : Int32) (p2 : Int32) (s : zSt) : Option ((Int32 ⊕ Nat) × zSt) := (zt (F_X_heldWithLock (p1) (p2) s) (fun v1 s2 => (zb (F_X_lockedAttributes (p2) s2) (fun v4 s5 => (zb (F_O_isClosed (v1) (v4) s5) (fun v6 s7 => (if vp_nar .boolean v6 = v6 then some (.inl v6, s7) else none)))))))
theorem zF_X_locked {X : zkX} {p1 : Int32} {p2 : Int32} {s : zSt} {r} (hF : F_X_locked p1 p2 s = some r) : zk_C X 10 m_X_locked [.ref 1, .int p1, .int p2] (zHp s) (fun o => o = ztI r) := by
  unfold F_X_locked at hF
  refine zk_enter (lv := [(0, .ref 1), (1, .int p1), (2, .int p2)]) rfl rfl ?_
  refine zi_aload_n rfl rfl ?_
  refine zi_getfield rfl rfl (zh_X _) rfl ?_
  refine zi_aload_n rfl rfl ?_
  refine zi_iload_n rfl rfl ?_
  refine zi_iload_n rfl rfl ?_
  rcases zf_t hF with ⟨v1, s2, hm, hF⟩ | ⟨x3, s2, hm, hF⟩
  rotate_left
  · subst hF
    exact zi_callV rfl rfl rfl (zh_X _) rfl (zk_C.to (zk_C.up (by decide) (zF_X_heldWithLock hm)) (fun o ho => zk_K.thr (x := x3) (h2 := zHp s2) ho rfl rfl))
  refine zi_callV rfl rfl rfl (zh_X _) rfl (zk_C.to (zk_C.up (by decide) (zF_X_heldWithLock hm)) (fun o ho => zk_K.okv ho ?_))
  refine zi_iload_n rfl rfl ?_
  obtain ⟨v4, s5, hm, hF⟩ := zf_b hF
  refine zi_callS rfl rfl rfl rfl (zk_C.to (zk_C.up (by decide) (zF_X_lockedAttributes hm)) (fun o ho => zk_K.okv ho ?_))
  obtain ⟨v6, s7, hm, hF⟩ := zf_b hF
  refine zi_callV rfl rfl rfl (zh_O _) rfl (zk_C.to (zk_C.up (by decide) (zF_O_isClosed hm)) (fun o ho => zk_K.okv ho ?_))
  obtain ⟨hz, hF⟩ := zf_g hF
  cases hF
  exact zi_zreturn rfl rfl hz rfl
/-! m_L_locked -/
def F_L_locked_16 (y0 : Int64) (y1 : Int32) (s : zSt) : Option (Int32 × zSt) := (if zin y1 1 then some ((0 : Int32), (sB s 3 (vp_updL (gB s 3) (y1).toNatClampNeg y0))) else none)
def F_L_locked (p1 : Int32) (p2 : Int32) (s : zSt) : Option (Int32 × zSt) := (zc (F_X_locked (p1) (p2) s) (fun v1 s2 => (if v1 = 0 then F_L_locked_16    ((0 : Int64)) ((0 : Int32)) s2 else F_L_locked_16    ((1 : Int64)) ((0 : Int32)) s2)) (fun x3 s2 => (if x3 = 0 then some ((1 : Int32), s2) else none)))
theorem zJ_L_locked_16 {X : zkX} (y0 : Int64) (y1 : Int32) (s : zSt) (r) (hF : F_L_locked_16   y0 y1 s = some r) : zk_W X 10 m_L_locked (16, [], [.long y0, .int y1, .ref 20], zHp s) (fun o => o = zoI r) := by
  unfold F_L_locked_16 at hF
  obtain ⟨hb, hF⟩ := zf_g hF
  refine zi_lastore rfl (zh_B3 _) (zin_ok hb) (zs_B3 _ _) ?_
  refine zi_goto rfl ?_
  refine zi_iconst (v := (0 : Int32)) rfl rfl ?_
  cases hF
  exact zi_ireturn rfl rfl rfl
theorem zF_L_locked {X : zkX} {p1 : Int32} {p2 : Int32} {s : zSt} {r} (hF : F_L_locked p1 p2 s = some r) : zk_C X 11 m_L_locked [.ref 1, .int p1, .int p2, .ref 20] (zHp s) (fun o => o = zoI r) := by
  unfold F_L_locked at hF
  refine zk_enter (lv := [(0, .ref 1), (1, .int p1), (2, .int p2), (3, .ref 20)]) rfl rfl ?_
  refine zi_aload_n rfl rfl ?_
  refine zi_iconst (v := (0 : Int32)) rfl rfl ?_
  refine zi_aload_n rfl rfl ?_
  refine zi_iload_n rfl rfl ?_
  refine zi_iload_n rfl rfl ?_
  rcases zf_c hF with ⟨v1, s2, hm, hF⟩ | ⟨x3, s2, hm, hF⟩
  rotate_left
  · refine zi_callV rfl rfl rfl (zh_X _) rfl (zk_C.to (zk_C.up (by decide) (zF_X_locked hm)) (fun o ho => ?_))
    by_cases hx0 : x3 = 0
    · have hF := zf_p hx0 hF
      rw [hx0] at ho
      refine zk_K.cat (x := 0) (h2 := zHp s2) (hp := 20) ho rfl rfl ?_
      refine zi_iconst (v := (1 : Int32)) rfl rfl ?_
      cases hF
      exact zi_ireturn rfl rfl rfl
    have hF := zf_n hx0 hF
    cases hF
  refine zi_callV rfl rfl rfl (zh_X _) rfl (zk_C.to (zk_C.up (by decide) (zF_X_locked hm)) (fun o ho => zk_K.okv ho ?_))
  refine zi_ifeq rfl (fun hc => ?_) (fun hc => ?_)
  · have hF := zf_p hc hF
    refine zi_lconst (v := (0 : Int64)) rfl rfl ?_
    exact zk_sb (zJ_L_locked_16   _ _ _ _ hF) rfl trivial
  · have hF := zf_n hc hF
    refine zi_lconst (v := (1 : Int64)) rfl rfl ?_
    refine zi_goto rfl ?_
    exact zk_sb (zJ_L_locked_16   _ _ _ _ hF) rfl trivial

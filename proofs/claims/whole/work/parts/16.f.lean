/-! m_O_isAccessor -/
def F_O_isAccessor_23 (y0 : Int32) (s : zSt) : Option (Int32 × zSt) := (if vp_nar .boolean y0 = y0 then some (y0, s) else none)
def F_O_isAccessor (p1 : Int32) (s : zSt) : Option (Int32 × zSt) := (zb (F_M_word (p1) ((5 : Int32)) s) (fun v1 s2 => (if (lg_cmp (v1 &&& (64 : Int64)) (0 : Int64)) = 0 then F_O_isAccessor_23    ((0 : Int32)) s2 else F_O_isAccessor_23    ((1 : Int32)) s2)))
theorem zJ_O_isAccessor_23 {X : zkX} (y0 : Int32) (s : zSt) (r) (hF : F_O_isAccessor_23   y0 s = some r) : zk_W X 1 m_O_isAccessor (23, [], [.int y0], zHp s) (fun o => o = zoI r) := by
  unfold F_O_isAccessor_23 at hF
  obtain ⟨hz, hF⟩ := zf_g hF
  cases hF
  exact zi_zreturn rfl rfl hz rfl
theorem zF_O_isAccessor {X : zkX} {p1 : Int32} {s : zSt} {r} (hF : F_O_isAccessor p1 s = some r) : zk_C X 2 m_O_isAccessor [.ref 2, .int p1] (zHp s) (fun o => o = zoI r) := by
  unfold F_O_isAccessor at hF
  refine zk_enter (lv := [(0, .ref 2), (1, .int p1)]) rfl rfl ?_
  refine zi_aload_n rfl rfl ?_
  refine zi_getfield rfl rfl (zh_O _) rfl ?_
  refine zi_iload_n rfl rfl ?_
  refine zi_iconst (v := (5 : Int32)) rfl rfl ?_
  obtain ⟨v1, s2, hm, hF⟩ := zf_b hF
  refine zi_callV rfl rfl rfl (zh_M _) rfl (zk_C.to (zk_C.up (by decide) (zF_M_word hm)) (fun o ho => zk_K.okv ho ?_))
  refine zi_ldc2_w (v := (64 : Int64)) rfl rfl ?_
  refine zi_land rfl ?_
  refine zi_lconst (v := (0 : Int64)) rfl rfl ?_
  refine zi_lcmp rfl ?_
  refine zi_ifeq rfl (fun hc => ?_) (fun hc => ?_)
  · have hF := zf_p hc hF
    refine zi_iconst (v := (0 : Int32)) rfl rfl ?_
    exact zk_sb (zJ_O_isAccessor_23   _ _ _ hF) rfl trivial
  · have hF := zf_n hc hF
    refine zi_iconst (v := (1 : Int32)) rfl rfl ?_
    refine zi_goto rfl ?_
    exact zk_sb (zJ_O_isAccessor_23   _ _ _ hF) rfl trivial
/-! m_X_get -/
def F_X_get_51 (y0 : Int32) (s : zSt) : Option ((Int32 ⊕ Nat) × zSt) := some (.inl y0, s)
def F_X_get_50  (s : zSt) : Option ((Int32 ⊕ Nat) × zSt) := F_X_get_51    ((0 : Int32)) s
def F_X_get (p1 : Int32) (p2 : Int64) (s : zSt) : Option ((Int32 ⊕ Nat) × zSt) := (zt (F_X_heldWithKey (p1) (p2) s) (fun v1 s2 => (zb (F_O_find (v1) (p2) s2) (fun v4 s5 => (zb (F_X_giveValue (v4) s5) (fun v6 s7 => (zb (F_O_isAccessor (v4) s7) (fun v8 s9 => (if v8 = 0 then F_X_get_50     s9 else (if (gI s9 1) = (5 : Int32) then F_X_get_51    ((1 : Int32)) s9 else F_X_get_50     s9))))))))))
theorem zJ_X_get_51 {X : zkX} (y0 : Int32) (s : zSt) (r) (hF : F_X_get_51   y0 s = some r) : zk_W X 9 m_X_get (51, [], [.int y0], zHp s) (fun o => o = ztI r) := by
  unfold F_X_get_51 at hF
  cases hF
  exact zi_ireturn rfl rfl rfl
theorem zJ_X_get_50 {X : zkX}  (s : zSt) (r) (hF : F_X_get_50    s = some r) : zk_W X 9 m_X_get (50, [], [], zHp s) (fun o => o = ztI r) := by
  unfold F_X_get_50 at hF
  refine zi_iconst (v := (0 : Int32)) rfl rfl ?_
  exact zk_sb (zJ_X_get_51   _ _ _ hF) rfl trivial
theorem zF_X_get {X : zkX} {p1 : Int32} {p2 : Int64} {s : zSt} {r} (hF : F_X_get p1 p2 s = some r) : zk_C X 10 m_X_get [.ref 1, .int p1, .long p2] (zHp s) (fun o => o = ztI r) := by
  unfold F_X_get at hF
  refine zk_enter (lv := [(0, .ref 1), (1, .int p1), (2, .long p2)]) rfl rfl ?_
  refine zi_aload_n rfl rfl ?_
  refine zi_iload_n rfl rfl ?_
  refine zi_lload_n rfl rfl ?_
  rcases zf_t hF with ⟨v1, s2, hm, hF⟩ | ⟨x3, s2, hm, hF⟩
  rotate_left
  · subst hF
    exact zi_callV rfl rfl rfl (zh_X _) rfl (zk_C.to (zk_C.up (by decide) (zF_X_heldWithKey hm)) (fun o ho => zk_K.thr (x := x3) (h2 := zHp s2) ho rfl rfl))
  refine zi_callV rfl rfl rfl (zh_X _) rfl (zk_C.to (zk_C.up (by decide) (zF_X_heldWithKey hm)) (fun o ho => zk_K.okv ho ?_))
  refine zi_istore rfl rfl rfl ?_
  refine zi_aload_n rfl rfl ?_
  refine zi_getfield rfl rfl (zh_X _) rfl ?_
  refine zi_iload rfl rfl ?_
  refine zi_lload_n rfl rfl ?_
  obtain ⟨v4, s5, hm, hF⟩ := zf_b hF
  refine zi_callV rfl rfl rfl (zh_O _) rfl (zk_C.to (zk_C.up (by decide) (zF_O_find hm)) (fun o ho => zk_K.okv ho ?_))
  refine zi_istore rfl rfl rfl ?_
  refine zi_aload_n rfl rfl ?_
  refine zi_iload rfl rfl ?_
  obtain ⟨v6, s7, hm, hF⟩ := zf_b hF
  refine zi_callV rfl rfl rfl (zh_X _) rfl (zk_C.to (zk_C.up (by decide) (zF_X_giveValue hm)) (fun o ho => zk_K.okn ho ?_))
  refine zi_aload_n rfl rfl ?_
  refine zi_getfield rfl rfl (zh_X _) rfl ?_
  refine zi_iload rfl rfl ?_
  obtain ⟨v8, s9, hm, hF⟩ := zf_b hF
  refine zi_callV rfl rfl rfl (zh_O _) rfl (zk_C.to (zk_C.up (by decide) (zF_O_isAccessor hm)) (fun o ho => zk_K.okv ho ?_))
  refine zi_ifeq rfl (fun hc => ?_) (fun hc => ?_)
  · have hF := zf_p hc hF
    exact zk_sb (zJ_X_get_50    _ _ hF) rfl trivial
  · have hF := zf_n hc hF
    refine zi_aload_n rfl rfl ?_
    refine zi_getfield rfl rfl (zh_X _) rfl ?_
    refine zi_iconst (v := (5 : Int32)) rfl rfl ?_
    refine zi_icne rfl (fun hc => ?_) (fun hc => ?_)
    · have hF := zf_n hc hF
      exact zk_sb (zJ_X_get_50    _ _ hF) rfl trivial
    · have hF := zf_p hc hF
      refine zi_iconst (v := (1 : Int32)) rfl rfl ?_
      refine zi_goto rfl ?_
      exact zk_sb (zJ_X_get_51   _ _ _ hF) rfl trivial
/-! m_L_get -/
def F_L_get (p1 : Int32) (p2 : Int64) (s : zSt) : Option (Int32 × zSt) := (zc (F_X_get (p1) (p2) s) (fun v1 s2 => (if zin (0 : Int32) 1 then some ((0 : Int32), (sB s2 3 (vp_updL (gB s2 3) ((0 : Int32)).toNatClampNeg (v1).toInt64))) else none)) (fun x3 s2 => (if x3 = 0 then some ((1 : Int32), s2) else none)))
theorem zF_L_get {X : zkX} {p1 : Int32} {p2 : Int64} {s : zSt} {r} (hF : F_L_get p1 p2 s = some r) : zk_C X 11 m_L_get [.ref 1, .int p1, .long p2, .ref 20] (zHp s) (fun o => o = zoI r) := by
  unfold F_L_get at hF
  refine zk_enter (lv := [(0, .ref 1), (1, .int p1), (2, .long p2), (4, .ref 20)]) rfl rfl ?_
  refine zi_aload rfl rfl ?_
  refine zi_iconst (v := (0 : Int32)) rfl rfl ?_
  refine zi_aload_n rfl rfl ?_
  refine zi_iload_n rfl rfl ?_
  refine zi_lload_n rfl rfl ?_
  rcases zf_c hF with ⟨v1, s2, hm, hF⟩ | ⟨x3, s2, hm, hF⟩
  rotate_left
  · refine zi_callV rfl rfl rfl (zh_X _) rfl (zk_C.to (zk_C.up (by decide) (zF_X_get hm)) (fun o ho => ?_))
    by_cases hx0 : x3 = 0
    · have hF := zf_p hx0 hF
      rw [hx0] at ho
      refine zk_K.cat (x := 0) (h2 := zHp s2) (hp := 14) ho rfl rfl ?_
      refine zi_iconst (v := (1 : Int32)) rfl rfl ?_
      cases hF
      exact zi_ireturn rfl rfl rfl
    have hF := zf_n hx0 hF
    cases hF
  refine zi_callV rfl rfl rfl (zh_X _) rfl (zk_C.to (zk_C.up (by decide) (zF_X_get hm)) (fun o ho => zk_K.okv ho ?_))
  refine zi_i2l rfl ?_
  obtain ⟨hb, hF⟩ := zf_g hF
  refine zi_lastore rfl (zh_B3 _) (zin_ok hb) (zs_B3 _ _) ?_
  refine zi_goto rfl ?_
  refine zi_iconst (v := (0 : Int32)) rfl rfl ?_
  cases hF
  exact zi_ireturn rfl rfl rfl
/-! m_O_setterOf -/
def F_O_setterOf (p1 : Int32) (s : zSt) : Option (Int32 × zSt) := (zb (F_M_word (p1) ((3 : Int32)) s) (fun v1 s2 => some ((v1).toInt32, s2)))
theorem zF_O_setterOf {X : zkX} {p1 : Int32} {s : zSt} {r} (hF : F_O_setterOf p1 s = some r) : zk_C X 2 m_O_setterOf [.ref 2, .int p1] (zHp s) (fun o => o = zoI r) := by
  unfold F_O_setterOf at hF
  refine zk_enter (lv := [(0, .ref 2), (1, .int p1)]) rfl rfl ?_
  refine zi_aload_n rfl rfl ?_
  refine zi_getfield rfl rfl (zh_O _) rfl ?_
  refine zi_iload_n rfl rfl ?_
  refine zi_iconst (v := (3 : Int32)) rfl rfl ?_
  obtain ⟨v1, s2, hm, hF⟩ := zf_b hF
  refine zi_callV rfl rfl rfl (zh_M _) rfl (zk_C.to (zk_C.up (by decide) (zF_M_word hm)) (fun o ho => zk_K.okv ho ?_))
  refine zi_l2i rfl ?_
  cases hF
  exact zi_ireturn rfl rfl rfl
/-! m_X_giveObject -/
def F_X_giveObject_10 (x1 : Int32) (y0 : Int32) (s : zSt) : Option (Unit × zSt) := (zb (F_M_keep ((25 : Int32)) (x1) (sJ (sI s 1 y0) 1 (0 : Int64))) (fun v1 s2 => some ((), s2)))
def F_X_giveObject (p1 : Int32) (s : zSt) : Option (Unit × zSt) := (if p1 = 0 then F_X_giveObject_10    (p1) ((0 : Int32)) s else F_X_giveObject_10    (p1) ((5 : Int32)) s)
theorem zJ_X_giveObject_10 {X : zkX} (x1 : Int32) (y0 : Int32) (s : zSt) (r) (hF : F_X_giveObject_10   x1 y0 s = some r) : zk_W X 1 m_X_giveObject (10, [(0, .ref 1), (1, .int x1)], [.int y0, .ref 1], zHp s) (fun o => o = zoU r) := by
  unfold F_X_giveObject_10 at hF
  refine zi_putfield rfl rfl (zh_X _) rfl rfl (zs_I1 _ _) ?_
  refine zi_aload_n rfl rfl ?_
  refine zi_lconst (v := (0 : Int64)) rfl rfl ?_
  refine zi_putfield rfl rfl (zh_X _) rfl rfl (zs_J1 _ _) ?_
  refine zi_aload_n rfl rfl ?_
  refine zi_getfield rfl rfl (zh_X _) rfl ?_
  refine zi_bipush (v := (25 : Int32)) rfl rfl ?_
  refine zi_iload_n rfl rfl ?_
  obtain ⟨v1, s2, hm, hF⟩ := zf_b hF
  refine zi_callV rfl rfl rfl (zh_M _) rfl (zk_C.to (zk_C.up (by decide) (zF_M_keep hm)) (fun o ho => zk_K.okn ho ?_))
  cases hF
  exact zi_return rfl rfl rfl
theorem zF_X_giveObject {X : zkX} {p1 : Int32} {s : zSt} {r} (hF : F_X_giveObject p1 s = some r) : zk_C X 2 m_X_giveObject [.ref 1, .int p1] (zHp s) (fun o => o = zoU r) := by
  unfold F_X_giveObject at hF
  refine zk_enter (lv := [(0, .ref 1), (1, .int p1)]) rfl rfl ?_
  refine zi_aload_n rfl rfl ?_
  refine zi_iload_n rfl rfl ?_
  refine zi_ifne rfl (fun hc => ?_) (fun hc => ?_)
  · have hF := zf_n hc hF
    refine zi_iconst (v := (5 : Int32)) rfl rfl ?_
    exact zk_sb (zJ_X_giveObject_10   _ _ _ _ hF) rfl ⟨rfl, rfl, trivial⟩
  · have hF := zf_p hc hF
    refine zi_iconst (v := (0 : Int32)) rfl rfl ?_
    refine zi_goto rfl ?_
    exact zk_sb (zJ_X_giveObject_10   _ _ _ _ hF) rfl ⟨rfl, rfl, trivial⟩
/-! m_O_isAny -/
def F_O_isAny_22 (y0 : Int32) (s : zSt) : Option (Int32 × zSt) := (if vp_nar .boolean y0 = y0 then some (y0, s) else none)
def F_O_isAny (p1 : Int32) (p2 : Int32) (s : zSt) : Option (Int32 × zSt) := (zb (F_M_word (p1) ((5 : Int32)) s) (fun v1 s2 => (if (lg_cmp (v1 &&& (p2).toInt64) (0 : Int64)) = 0 then F_O_isAny_22    ((0 : Int32)) s2 else F_O_isAny_22    ((1 : Int32)) s2)))
theorem zJ_O_isAny_22 {X : zkX} (y0 : Int32) (s : zSt) (r) (hF : F_O_isAny_22   y0 s = some r) : zk_W X 1 m_O_isAny (22, [], [.int y0], zHp s) (fun o => o = zoI r) := by
  unfold F_O_isAny_22 at hF
  obtain ⟨hz, hF⟩ := zf_g hF
  cases hF
  exact zi_zreturn rfl rfl hz rfl
theorem zF_O_isAny {X : zkX} {p1 : Int32} {p2 : Int32} {s : zSt} {r} (hF : F_O_isAny p1 p2 s = some r) : zk_C X 2 m_O_isAny [.ref 2, .int p1, .int p2] (zHp s) (fun o => o = zoI r) := by
  unfold F_O_isAny at hF
  refine zk_enter (lv := [(0, .ref 2), (1, .int p1), (2, .int p2)]) rfl rfl ?_
  refine zi_aload_n rfl rfl ?_
  refine zi_getfield rfl rfl (zh_O _) rfl ?_
  refine zi_iload_n rfl rfl ?_
  refine zi_iconst (v := (5 : Int32)) rfl rfl ?_
  obtain ⟨v1, s2, hm, hF⟩ := zf_b hF
  refine zi_callV rfl rfl rfl (zh_M _) rfl (zk_C.to (zk_C.up (by decide) (zF_M_word hm)) (fun o ho => zk_K.okv ho ?_))
  refine zi_iload_n rfl rfl ?_
  refine zi_i2l rfl ?_
  refine zi_land rfl ?_
  refine zi_lconst (v := (0 : Int64)) rfl rfl ?_
  refine zi_lcmp rfl ?_
  refine zi_ifeq rfl (fun hc => ?_) (fun hc => ?_)
  · have hF := zf_p hc hF
    refine zi_iconst (v := (0 : Int32)) rfl rfl ?_
    exact zk_sb (zJ_O_isAny_22   _ _ _ hF) rfl trivial
  · have hF := zf_n hc hF
    refine zi_iconst (v := (1 : Int32)) rfl rfl ?_
    refine zi_goto rfl ?_
    exact zk_sb (zJ_O_isAny_22   _ _ _ hF) rfl trivial
/-! m_O_isExtensible -/
def F_O_isExtensible_19 (y0 : Int32) (s : zSt) : Option (Int32 × zSt) := (if vp_nar .boolean y0 = y0 then some (y0, s) else none)
def F_O_isExtensible (p1 : Int32) (s : zSt) : Option (Int32 × zSt) := (zb (F_M_word (p1) ((4 : Int32)) s) (fun v1 s2 => (if (lg_cmp v1 (0 : Int64)) = 0 then F_O_isExtensible_19    ((0 : Int32)) s2 else F_O_isExtensible_19    ((1 : Int32)) s2)))
theorem zJ_O_isExtensible_19 {X : zkX} (y0 : Int32) (s : zSt) (r) (hF : F_O_isExtensible_19   y0 s = some r) : zk_W X 1 m_O_isExtensible (19, [], [.int y0], zHp s) (fun o => o = zoI r) := by
  unfold F_O_isExtensible_19 at hF
  obtain ⟨hz, hF⟩ := zf_g hF
  cases hF
  exact zi_zreturn rfl rfl hz rfl
theorem zF_O_isExtensible {X : zkX} {p1 : Int32} {s : zSt} {r} (hF : F_O_isExtensible p1 s = some r) : zk_C X 2 m_O_isExtensible [.ref 2, .int p1] (zHp s) (fun o => o = zoI r) := by
  unfold F_O_isExtensible at hF
  refine zk_enter (lv := [(0, .ref 2), (1, .int p1)]) rfl rfl ?_
  refine zi_aload_n rfl rfl ?_
  refine zi_getfield rfl rfl (zh_O _) rfl ?_
  refine zi_iload_n rfl rfl ?_
  refine zi_iconst (v := (4 : Int32)) rfl rfl ?_
  obtain ⟨v1, s2, hm, hF⟩ := zf_b hF
  refine zi_callV rfl rfl rfl (zh_M _) rfl (zk_C.to (zk_C.up (by decide) (zF_M_word hm)) (fun o ho => zk_K.okv ho ?_))
  refine zi_lconst (v := (0 : Int64)) rfl rfl ?_
  refine zi_lcmp rfl ?_
  refine zi_ifeq rfl (fun hc => ?_) (fun hc => ?_)
  · have hF := zf_p hc hF
    refine zi_iconst (v := (0 : Int32)) rfl rfl ?_
    exact zk_sb (zJ_O_isExtensible_19   _ _ _ hF) rfl trivial
  · have hF := zf_n hc hF
    refine zi_iconst (v := (1 : Int32)) rfl rfl ?_
    refine zi_goto rfl ?_
    exact zk_sb (zJ_O_isExtensible_19   _ _ _ hF) rfl trivial
/-! m_D_tell -/
def F_D_tell (p1 : Int32) (p2 : Int32) (s : zSt) : Option (Unit × zSt) := some ((), (sI (sI s 7 p1) 8 ((p2 &&& p1) &&& (50 : Int32))))
theorem zF_D_tell {X : zkX} {p1 : Int32} {p2 : Int32} {s : zSt} {r} (hF : F_D_tell p1 p2 s = some r) : zk_C X 1 m_D_tell [.ref 6, .int p1, .int p2] (zHp s) (fun o => o = zoU r) := by
  unfold F_D_tell at hF
  refine zk_enter (lv := [(0, .ref 6), (1, .int p1), (2, .int p2)]) rfl rfl ?_
  refine zi_aload_n rfl rfl ?_
  refine zi_iload_n rfl rfl ?_
  refine zi_putfield rfl rfl (zh_D _) rfl rfl (zs_I7 _ _) ?_
  refine zi_aload_n rfl rfl ?_
  refine zi_iload_n rfl rfl ?_
  refine zi_iload_n rfl rfl ?_
  refine zi_iand rfl ?_
  refine zi_bipush (v := (50 : Int32)) rfl rfl ?_
  refine zi_iand rfl ?_
  refine zi_putfield rfl rfl (zh_D _) rfl rfl (zs_I8 _ _) ?_
  cases hF
  exact zi_return rfl rfl rfl
/-! m_D_tellValue -/
def F_D_tellValue (p1 : Int32) (p2 : Int64) (p4 : Int32) (s : zSt) : Option (Unit × zSt) := some ((), (sI (sJ (sI s 9 p1) 2 p2) 10 p4))
theorem zF_D_tellValue {X : zkX} {p1 : Int32} {p2 : Int64} {p4 : Int32} {s : zSt} {r} (hF : F_D_tellValue p1 p2 p4 s = some r) : zk_C X 1 m_D_tellValue [.ref 6, .int p1, .long p2, .int p4] (zHp s) (fun o => o = zoU r) := by
  unfold F_D_tellValue at hF
  refine zk_enter (lv := [(0, .ref 6), (1, .int p1), (2, .long p2), (4, .int p4)]) rfl rfl ?_
  refine zi_aload_n rfl rfl ?_
  refine zi_iload_n rfl rfl ?_
  refine zi_putfield rfl rfl (zh_D _) rfl rfl (zs_I9 _ _) ?_
  refine zi_aload_n rfl rfl ?_
  refine zi_lload_n rfl rfl ?_
  refine zi_putfield rfl rfl (zh_D _) rfl rfl (zs_J2 _ _) ?_
  refine zi_aload_n rfl rfl ?_
  refine zi_iload rfl rfl ?_
  refine zi_putfield rfl rfl (zh_D _) rfl rfl (zs_I10 _ _) ?_
  cases hF
  exact zi_return rfl rfl rfl
/-! m_D_tellsTrue -/
def F_D_tellsTrue_14 (y0 : Int32) (s : zSt) : Option (Int32 × zSt) := (if vp_nar .boolean y0 = y0 then some (y0, s) else none)
def F_D_tellsTrue (p1 : Int32) (s : zSt) : Option (Int32 × zSt) := (if ((gI s 8) &&& p1) = 0 then F_D_tellsTrue_14    ((0 : Int32)) s else F_D_tellsTrue_14    ((1 : Int32)) s)
theorem zJ_D_tellsTrue_14 {X : zkX} (y0 : Int32) (s : zSt) (r) (hF : F_D_tellsTrue_14   y0 s = some r) : zk_W X 0 m_D_tellsTrue (14, [], [.int y0], zHp s) (fun o => o = zoI r) := by
  unfold F_D_tellsTrue_14 at hF
  obtain ⟨hz, hF⟩ := zf_g hF
  cases hF
  exact zi_zreturn rfl rfl hz rfl
theorem zF_D_tellsTrue {X : zkX} {p1 : Int32} {s : zSt} {r} (hF : F_D_tellsTrue p1 s = some r) : zk_C X 1 m_D_tellsTrue [.ref 6, .int p1] (zHp s) (fun o => o = zoI r) := by
  unfold F_D_tellsTrue at hF
  refine zk_enter (lv := [(0, .ref 6), (1, .int p1)]) rfl rfl ?_
  refine zi_aload_n rfl rfl ?_
  refine zi_getfield rfl rfl (zh_D _) rfl ?_
  refine zi_iload_n rfl rfl ?_
  refine zi_iand rfl ?_
  refine zi_ifeq rfl (fun hc => ?_) (fun hc => ?_)
  · have hF := zf_p hc hF
    refine zi_iconst (v := (0 : Int32)) rfl rfl ?_
    exact zk_sb (zJ_D_tellsTrue_14   _ _ _ hF) rfl trivial
  · have hF := zf_n hc hF
    refine zi_iconst (v := (1 : Int32)) rfl rfl ?_
    refine zi_goto rfl ?_
    exact zk_sb (zJ_D_tellsTrue_14   _ _ _ hF) rfl trivial
/-! m_D_tells -/
def F_D_tells_14 (y0 : Int32) (s : zSt) : Option (Int32 × zSt) := (if vp_nar .boolean y0 = y0 then some (y0, s) else none)
def F_D_tells (p1 : Int32) (s : zSt) : Option (Int32 × zSt) := (if ((gI s 7) &&& p1) = 0 then F_D_tells_14    ((0 : Int32)) s else F_D_tells_14    ((1 : Int32)) s)
theorem zJ_D_tells_14 {X : zkX} (y0 : Int32) (s : zSt) (r) (hF : F_D_tells_14   y0 s = some r) : zk_W X 0 m_D_tells (14, [], [.int y0], zHp s) (fun o => o = zoI r) := by
  unfold F_D_tells_14 at hF
  obtain ⟨hz, hF⟩ := zf_g hF
  cases hF
  exact zi_zreturn rfl rfl hz rfl
theorem zF_D_tells {X : zkX} {p1 : Int32} {s : zSt} {r} (hF : F_D_tells p1 s = some r) : zk_C X 1 m_D_tells [.ref 6, .int p1] (zHp s) (fun o => o = zoI r) := by
  unfold F_D_tells at hF
  refine zk_enter (lv := [(0, .ref 6), (1, .int p1)]) rfl rfl ?_
  refine zi_aload_n rfl rfl ?_
  refine zi_getfield rfl rfl (zh_D _) rfl ?_
  refine zi_iload_n rfl rfl ?_
  refine zi_iand rfl ?_
  refine zi_ifeq rfl (fun hc => ?_) (fun hc => ?_)
  · have hF := zf_p hc hF
    refine zi_iconst (v := (0 : Int32)) rfl rfl ?_
    exact zk_sb (zJ_D_tells_14   _ _ _ hF) rfl trivial
  · have hF := zf_n hc hF
    refine zi_iconst (v := (1 : Int32)) rfl rfl ?_
    refine zi_goto rfl ?_
    exact zk_sb (zJ_D_tells_14   _ _ _ hF) rfl trivial
/-! m_O_isValue -/
def F_O_isValue_42 (y0 : Int32) (s : zSt) : Option (Int32 × zSt) := (if vp_nar .boolean y0 = y0 then some (y0, s) else none)
def F_O_isValue_41  (s : zSt) : Option (Int32 × zSt) := F_O_isValue_42    ((0 : Int32)) s
def F_O_isValue (p1 : Int32) (s : zSt) : Option (Int32 × zSt) := (zb (F_O_kindOf (p1) s) (fun v1 s2 => (if v1 = (gI s2 9) then (zb (F_O_numberOf (p1) s2) (fun v3 s4 => (if (lg_cmp v3 (gJ s4 2)) = 0 then (zb (F_O_objectOf (p1) s4) (fun v5 s6 => (if v5 = (gI s6 10) then F_O_isValue_42    ((1 : Int32)) s6 else F_O_isValue_41     s6))) else F_O_isValue_41     s4))) else F_O_isValue_41     s2)))
theorem zJ_O_isValue_42 {X : zkX} (y0 : Int32) (s : zSt) (r) (hF : F_O_isValue_42   y0 s = some r) : zk_W X 2 m_O_isValue (42, [], [.int y0], zHp s) (fun o => o = zoI r) := by
  unfold F_O_isValue_42 at hF
  obtain ⟨hz, hF⟩ := zf_g hF
  cases hF
  exact zi_zreturn rfl rfl hz rfl
theorem zJ_O_isValue_41 {X : zkX}  (s : zSt) (r) (hF : F_O_isValue_41    s = some r) : zk_W X 2 m_O_isValue (41, [], [], zHp s) (fun o => o = zoI r) := by
  unfold F_O_isValue_41 at hF
  refine zi_iconst (v := (0 : Int32)) rfl rfl ?_
  exact zk_sb (zJ_O_isValue_42   _ _ _ hF) rfl trivial
theorem zF_O_isValue {X : zkX} {p1 : Int32} {s : zSt} {r} (hF : F_O_isValue p1 s = some r) : zk_C X 3 m_O_isValue [.ref 2, .int p1, .ref 6] (zHp s) (fun o => o = zoI r) := by
  unfold F_O_isValue at hF
  refine zk_enter (lv := [(0, .ref 2), (1, .int p1), (2, .ref 6)]) rfl rfl ?_
  refine zi_aload_n rfl rfl ?_
  refine zi_iload_n rfl rfl ?_
  obtain ⟨v1, s2, hm, hF⟩ := zf_b hF
  refine zi_callV rfl rfl rfl (zh_O _) rfl (zk_C.to (zk_C.up (by decide) (zF_O_kindOf hm)) (fun o ho => zk_K.okv ho ?_))
  refine zi_aload_n rfl rfl ?_
  refine zi_getfield rfl rfl (zh_D _) rfl ?_
  refine zi_icne rfl (fun hc => ?_) (fun hc => ?_)
  · have hF := zf_n hc hF
    exact zk_sb (zJ_O_isValue_41    _ _ hF) rfl trivial
  · have hF := zf_p hc hF
    refine zi_aload_n rfl rfl ?_
    refine zi_iload_n rfl rfl ?_
    obtain ⟨v3, s4, hm, hF⟩ := zf_b hF
    refine zi_callV rfl rfl rfl (zh_O _) rfl (zk_C.to (zk_C.up (by decide) (zF_O_numberOf hm)) (fun o ho => zk_K.okv ho ?_))
    refine zi_aload_n rfl rfl ?_
    refine zi_getfield rfl rfl (zh_D _) rfl ?_
    refine zi_lcmp rfl ?_
    refine zi_ifne rfl (fun hc => ?_) (fun hc => ?_)
    · have hF := zf_n hc hF
      exact zk_sb (zJ_O_isValue_41    _ _ hF) rfl trivial
    · have hF := zf_p hc hF
      refine zi_aload_n rfl rfl ?_
      refine zi_iload_n rfl rfl ?_
      obtain ⟨v5, s6, hm, hF⟩ := zf_b hF
      refine zi_callV rfl rfl rfl (zh_O _) rfl (zk_C.to (zk_C.up (by decide) (zF_O_objectOf hm)) (fun o ho => zk_K.okv ho ?_))
      refine zi_aload_n rfl rfl ?_
      refine zi_getfield rfl rfl (zh_D _) rfl ?_
      refine zi_icne rfl (fun hc => ?_) (fun hc => ?_)
      · have hF := zf_n hc hF
        exact zk_sb (zJ_O_isValue_41    _ _ hF) rfl trivial
      · have hF := zf_p hc hF
        refine zi_iconst (v := (1 : Int32)) rfl rfl ?_
        refine zi_goto rfl ?_
        exact zk_sb (zJ_O_isValue_42   _ _ _ hF) rfl trivial
/-! m_O_isFixed -/
def F_O_isFixed_151 (y0 : Int32) (s : zSt) : Option (Int32 × zSt) := (if vp_nar .boolean y0 = y0 then some (y0, s) else none)
def F_O_isFixed_150  (s : zSt) : Option (Int32 × zSt) := F_O_isFixed_151    ((0 : Int32)) s
def F_O_isFixed_146  (s : zSt) : Option (Int32 × zSt) := F_O_isFixed_151    ((1 : Int32)) s
def F_O_isFixed_100 (y0 : Int32) (s : zSt) : Option (Int32 × zSt) := (if vp_nar .boolean y0 = y0 then some (y0, s) else none)
def F_O_isFixed_95  (s : zSt) : Option (Int32 × zSt) := F_O_isFixed_100    ((1 : Int32)) s
def F_O_isFixed_99  (s : zSt) : Option (Int32 × zSt) := F_O_isFixed_100    ((0 : Int32)) s
def F_O_isFixed_74 (x1 : Int32) (s : zSt) : Option (Int32 × zSt) := (zb (F_D_tells ((8 : Int32)) s) (fun v21 s22 => (if v21 = 0 then F_O_isFixed_99     s22 else (zb (F_O_setterOf (x1) s22) (fun v23 s24 => (if (gI s22 12) = v23 then F_O_isFixed_99     s24 else F_O_isFixed_95     s24))))))
def F_O_isFixed_38 (x1 : Int32) (s : zSt) : Option (Int32 × zSt) := (zb (F_O_isAccessor (x1) s) (fun v5 s6 => (if v5 = 0 then (zb (F_D_tells ((12 : Int32)) s6) (fun v7 s8 => (if v7 = 0 then (zb (F_O_isAny (x1) ((2 : Int32)) s8) (fun v9 s10 => (if v9 = 0 then (zb (F_D_tellsTrue ((2 : Int32)) s10) (fun v11 s12 => (if v11 = 0 then (zb (F_D_tells ((1 : Int32)) s12) (fun v13 s14 => (if v13 = 0 then F_O_isFixed_150     s14 else (zb (F_O_isValue (x1) s14) (fun v15 s16 => (if v15 = 0 then F_O_isFixed_146     s16 else F_O_isFixed_150     s16)))))) else F_O_isFixed_146     s12))) else F_O_isFixed_150     s10))) else some ((1 : Int32), s8)))) else (zb (F_D_tells ((3 : Int32)) s6) (fun v17 s18 => (if v17 = 0 then (zb (F_D_tells ((4 : Int32)) s18) (fun v19 s20 => (if v19 = 0 then F_O_isFixed_74    (x1) s20 else (zb (F_O_objectOf (x1) s20) (fun v25 s26 => (if (gI s20 11) = v25 then F_O_isFixed_74    (x1) s26 else F_O_isFixed_95     s26)))))) else F_O_isFixed_95     s18))))))
def F_O_isFixed (p1 : Int32) (s : zSt) : Option (Int32 × zSt) := (zb (F_D_tellsTrue ((32 : Int32)) s) (fun v1 s2 => (if v1 = 0 then (zb (F_D_tells ((16 : Int32)) s2) (fun v3 s4 => (if v3 = 0 then F_O_isFixed_38    (p1) s4 else (zb (F_D_tellsTrue ((16 : Int32)) s4) (fun v27 s28 => (zb (F_O_isAny (p1) ((16 : Int32)) s28) (fun v29 s30 => (if v27 = v29 then F_O_isFixed_38    (p1) s30 else some ((1 : Int32), s30))))))))) else some ((1 : Int32), s2))))
theorem zJ_O_isFixed_151 {X : zkX} (y0 : Int32) (s : zSt) (r) (hF : F_O_isFixed_151   y0 s = some r) : zk_W X 3 m_O_isFixed (151, [], [.int y0], zHp s) (fun o => o = zoI r) := by
  unfold F_O_isFixed_151 at hF
  obtain ⟨hz, hF⟩ := zf_g hF
  cases hF
  exact zi_zreturn rfl rfl hz rfl
theorem zJ_O_isFixed_150 {X : zkX}  (s : zSt) (r) (hF : F_O_isFixed_150    s = some r) : zk_W X 3 m_O_isFixed (150, [], [], zHp s) (fun o => o = zoI r) := by
  unfold F_O_isFixed_150 at hF
  refine zi_iconst (v := (0 : Int32)) rfl rfl ?_
  exact zk_sb (zJ_O_isFixed_151   _ _ _ hF) rfl trivial
theorem zJ_O_isFixed_146 {X : zkX}  (s : zSt) (r) (hF : F_O_isFixed_146    s = some r) : zk_W X 3 m_O_isFixed (146, [], [], zHp s) (fun o => o = zoI r) := by
  unfold F_O_isFixed_146 at hF
  refine zi_iconst (v := (1 : Int32)) rfl rfl ?_
  refine zi_goto rfl ?_
  exact zk_sb (zJ_O_isFixed_151   _ _ _ hF) rfl trivial
theorem zJ_O_isFixed_100 {X : zkX} (y0 : Int32) (s : zSt) (r) (hF : F_O_isFixed_100   y0 s = some r) : zk_W X 3 m_O_isFixed (100, [], [.int y0], zHp s) (fun o => o = zoI r) := by
  unfold F_O_isFixed_100 at hF
  obtain ⟨hz, hF⟩ := zf_g hF
  cases hF
  exact zi_zreturn rfl rfl hz rfl
theorem zJ_O_isFixed_95 {X : zkX}  (s : zSt) (r) (hF : F_O_isFixed_95    s = some r) : zk_W X 3 m_O_isFixed (95, [], [], zHp s) (fun o => o = zoI r) := by
  unfold F_O_isFixed_95 at hF
  refine zi_iconst (v := (1 : Int32)) rfl rfl ?_
  refine zi_goto rfl ?_
  exact zk_sb (zJ_O_isFixed_100   _ _ _ hF) rfl trivial
theorem zJ_O_isFixed_99 {X : zkX}  (s : zSt) (r) (hF : F_O_isFixed_99    s = some r) : zk_W X 3 m_O_isFixed (99, [], [], zHp s) (fun o => o = zoI r) := by
  unfold F_O_isFixed_99 at hF
  refine zi_iconst (v := (0 : Int32)) rfl rfl ?_
  exact zk_sb (zJ_O_isFixed_100   _ _ _ hF) rfl trivial
theorem zJ_O_isFixed_74 {X : zkX} (x1 : Int32) (s : zSt) (r) (hF : F_O_isFixed_74   x1 s = some r) : zk_W X 3 m_O_isFixed (74, [(0, .ref 2), (1, .int x1), (2, .ref 6)], [], zHp s) (fun o => o = zoI r) := by
  unfold F_O_isFixed_74 at hF
  refine zi_aload_n rfl rfl ?_
  refine zi_bipush (v := (8 : Int32)) rfl rfl ?_
  obtain ⟨v21, s22, hm, hF⟩ := zf_b hF
  refine zi_callV rfl rfl rfl (zh_D _) rfl (zk_C.to (zk_C.up (by decide) (zF_D_tells hm)) (fun o ho => zk_K.okv ho ?_))
  refine zi_ifeq rfl (fun hc => ?_) (fun hc => ?_)
  · have hF := zf_p hc hF
    exact zk_sb (zJ_O_isFixed_99    _ _ hF) rfl trivial
  · have hF := zf_n hc hF
    refine zi_aload_n rfl rfl ?_
    refine zi_getfield rfl rfl (zh_D _) rfl ?_
    refine zi_aload_n rfl rfl ?_
    refine zi_iload_n rfl rfl ?_
    obtain ⟨v23, s24, hm, hF⟩ := zf_b hF
    refine zi_callV rfl rfl rfl (zh_O _) rfl (zk_C.to (zk_C.up (by decide) (zF_O_setterOf hm)) (fun o ho => zk_K.okv ho ?_))
    refine zi_iceq rfl (fun hc => ?_) (fun hc => ?_)
    · have hF := zf_p hc hF
      exact zk_sb (zJ_O_isFixed_99    _ _ hF) rfl trivial
    · have hF := zf_n hc hF
      exact zk_sb (zJ_O_isFixed_95    _ _ hF) rfl trivial
theorem zJ_O_isFixed_38 {X : zkX} (x1 : Int32) (s : zSt) (r) (hF : F_O_isFixed_38   x1 s = some r) : zk_W X 3 m_O_isFixed (38, [(0, .ref 2), (1, .int x1), (2, .ref 6)], [], zHp s) (fun o => o = zoI r) := by
  unfold F_O_isFixed_38 at hF
  refine zi_aload_n rfl rfl ?_
  refine zi_iload_n rfl rfl ?_
  obtain ⟨v5, s6, hm, hF⟩ := zf_b hF
  refine zi_callV rfl rfl rfl (zh_O _) rfl (zk_C.to (zk_C.up (by decide) (zF_O_isAccessor hm)) (fun o ho => zk_K.okv ho ?_))
  refine zi_ifeq rfl (fun hc => ?_) (fun hc => ?_)
  · have hF := zf_p hc hF
    refine zi_aload_n rfl rfl ?_
    refine zi_bipush (v := (12 : Int32)) rfl rfl ?_
    obtain ⟨v7, s8, hm, hF⟩ := zf_b hF
    refine zi_callV rfl rfl rfl (zh_D _) rfl (zk_C.to (zk_C.up (by decide) (zF_D_tells hm)) (fun o ho => zk_K.okv ho ?_))
    refine zi_ifeq rfl (fun hc => ?_) (fun hc => ?_)
    · have hF := zf_p hc hF
      refine zi_aload_n rfl rfl ?_
      refine zi_iload_n rfl rfl ?_
      refine zi_iconst (v := (2 : Int32)) rfl rfl ?_
      obtain ⟨v9, s10, hm, hF⟩ := zf_b hF
      refine zi_callV rfl rfl rfl (zh_O _) rfl (zk_C.to (zk_C.up (by decide) (zF_O_isAny hm)) (fun o ho => zk_K.okv ho ?_))
      refine zi_ifne rfl (fun hc => ?_) (fun hc => ?_)
      · have hF := zf_n hc hF
        exact zk_sb (zJ_O_isFixed_150    _ _ hF) rfl trivial
      · have hF := zf_p hc hF
        refine zi_aload_n rfl rfl ?_
        refine zi_iconst (v := (2 : Int32)) rfl rfl ?_
        obtain ⟨v11, s12, hm, hF⟩ := zf_b hF
        refine zi_callV rfl rfl rfl (zh_D _) rfl (zk_C.to (zk_C.up (by decide) (zF_D_tellsTrue hm)) (fun o ho => zk_K.okv ho ?_))
        refine zi_ifne rfl (fun hc => ?_) (fun hc => ?_)
        · have hF := zf_n hc hF
          exact zk_sb (zJ_O_isFixed_146    _ _ hF) rfl trivial
        · have hF := zf_p hc hF
          refine zi_aload_n rfl rfl ?_
          refine zi_iconst (v := (1 : Int32)) rfl rfl ?_
          obtain ⟨v13, s14, hm, hF⟩ := zf_b hF
          refine zi_callV rfl rfl rfl (zh_D _) rfl (zk_C.to (zk_C.up (by decide) (zF_D_tells hm)) (fun o ho => zk_K.okv ho ?_))
          refine zi_ifeq rfl (fun hc => ?_) (fun hc => ?_)
          · have hF := zf_p hc hF
            exact zk_sb (zJ_O_isFixed_150    _ _ hF) rfl trivial
          · have hF := zf_n hc hF
            refine zi_aload_n rfl rfl ?_
            refine zi_iload_n rfl rfl ?_
            refine zi_aload_n rfl rfl ?_
            obtain ⟨v15, s16, hm, hF⟩ := zf_b hF
            refine zi_callV rfl rfl rfl (zh_O _) rfl (zk_C.to (zk_C.up (by decide) (zF_O_isValue hm)) (fun o ho => zk_K.okv ho ?_))
            refine zi_ifne rfl (fun hc => ?_) (fun hc => ?_)
            · have hF := zf_n hc hF
              exact zk_sb (zJ_O_isFixed_150    _ _ hF) rfl trivial
            · have hF := zf_p hc hF
              exact zk_sb (zJ_O_isFixed_146    _ _ hF) rfl trivial
    · have hF := zf_n hc hF
      refine zi_iconst (v := (1 : Int32)) rfl rfl ?_
      cases hF
      exact zi_zreturn rfl rfl rfl rfl
  · have hF := zf_n hc hF
    refine zi_aload_n rfl rfl ?_
    refine zi_iconst (v := (3 : Int32)) rfl rfl ?_
    obtain ⟨v17, s18, hm, hF⟩ := zf_b hF
    refine zi_callV rfl rfl rfl (zh_D _) rfl (zk_C.to (zk_C.up (by decide) (zF_D_tells hm)) (fun o ho => zk_K.okv ho ?_))
    refine zi_ifne rfl (fun hc => ?_) (fun hc => ?_)
    · have hF := zf_n hc hF
      exact zk_sb (zJ_O_isFixed_95    _ _ hF) rfl trivial
    · have hF := zf_p hc hF
      refine zi_aload_n rfl rfl ?_
      refine zi_iconst (v := (4 : Int32)) rfl rfl ?_
      obtain ⟨v19, s20, hm, hF⟩ := zf_b hF
      refine zi_callV rfl rfl rfl (zh_D _) rfl (zk_C.to (zk_C.up (by decide) (zF_D_tells hm)) (fun o ho => zk_K.okv ho ?_))
      refine zi_ifeq rfl (fun hc => ?_) (fun hc => ?_)
      · have hF := zf_p hc hF
        exact zk_sb (zJ_O_isFixed_74   _ _ _ hF) rfl ⟨rfl, rfl, rfl, trivial⟩
      · have hF := zf_n hc hF
        refine zi_aload_n rfl rfl ?_
        refine zi_getfield rfl rfl (zh_D _) rfl ?_
        refine zi_aload_n rfl rfl ?_
        refine zi_iload_n rfl rfl ?_
        obtain ⟨v25, s26, hm, hF⟩ := zf_b hF
        refine zi_callV rfl rfl rfl (zh_O _) rfl (zk_C.to (zk_C.up (by decide) (zF_O_objectOf hm)) (fun o ho => zk_K.okv ho ?_))
        refine zi_icne rfl (fun hc => ?_) (fun hc => ?_)
        · have hF := zf_n hc hF
          exact zk_sb (zJ_O_isFixed_95    _ _ hF) rfl trivial
        · have hF := zf_p hc hF
          exact zk_sb (zJ_O_isFixed_74   _ _ _ hF) rfl ⟨rfl, rfl, rfl, trivial⟩
theorem zF_O_isFixed {X : zkX} {p1 : Int32} {s : zSt} {r} (hF : F_O_isFixed p1 s = some r) : zk_C X 4 m_O_isFixed [.ref 2, .int p1, .ref 6] (zHp s) (fun o => o = zoI r) := by
  unfold F_O_isFixed at hF
  refine zk_enter (lv := [(0, .ref 2), (1, .int p1), (2, .ref 6)]) rfl rfl ?_
  refine zi_aload_n rfl rfl ?_
  refine zi_bipush (v := (32 : Int32)) rfl rfl ?_
  obtain ⟨v1, s2, hm, hF⟩ := zf_b hF
  refine zi_callV rfl rfl rfl (zh_D _) rfl (zk_C.to (zk_C.up (by decide) (zF_D_tellsTrue hm)) (fun o ho => zk_K.okv ho ?_))
  refine zi_ifeq rfl (fun hc => ?_) (fun hc => ?_)
  · have hF := zf_p hc hF
    refine zi_aload_n rfl rfl ?_
    refine zi_bipush (v := (16 : Int32)) rfl rfl ?_
    obtain ⟨v3, s4, hm, hF⟩ := zf_b hF
    refine zi_callV rfl rfl rfl (zh_D _) rfl (zk_C.to (zk_C.up (by decide) (zF_D_tells hm)) (fun o ho => zk_K.okv ho ?_))
    refine zi_ifeq rfl (fun hc => ?_) (fun hc => ?_)
    · have hF := zf_p hc hF
      exact zk_sb (zJ_O_isFixed_38   _ _ _ hF) rfl ⟨rfl, rfl, rfl, trivial⟩
    · have hF := zf_n hc hF
      refine zi_aload_n rfl rfl ?_
      refine zi_bipush (v := (16 : Int32)) rfl rfl ?_
      obtain ⟨v27, s28, hm, hF⟩ := zf_b hF
      refine zi_callV rfl rfl rfl (zh_D _) rfl (zk_C.to (zk_C.up (by decide) (zF_D_tellsTrue hm)) (fun o ho => zk_K.okv ho ?_))
      refine zi_aload_n rfl rfl ?_
      refine zi_iload_n rfl rfl ?_
      refine zi_bipush (v := (16 : Int32)) rfl rfl ?_
      obtain ⟨v29, s30, hm, hF⟩ := zf_b hF
      refine zi_callV rfl rfl rfl (zh_O _) rfl (zk_C.to (zk_C.up (by decide) (zF_O_isAny hm)) (fun o ho => zk_K.okv ho ?_))
      refine zi_iceq rfl (fun hc => ?_) (fun hc => ?_)
      · have hF := zf_p hc hF
        exact zk_sb (zJ_O_isFixed_38   _ _ _ hF) rfl ⟨rfl, rfl, rfl, trivial⟩
      · have hF := zf_n hc hF
        refine zi_iconst (v := (1 : Int32)) rfl rfl ?_
        cases hF
        exact zi_zreturn rfl rfl rfl rfl
  · have hF := zf_n hc hF
    refine zi_iconst (v := (1 : Int32)) rfl rfl ?_
    cases hF
    exact zi_zreturn rfl rfl rfl rfl
/-! m_O_attributesOf -/
def F_O_attributesOf (p1 : Int32) (s : zSt) : Option (Int32 × zSt) := (zb (F_M_word (p1) ((5 : Int32)) s) (fun v1 s2 => some ((v1).toInt32, s2)))
theorem zF_O_attributesOf {X : zkX} {p1 : Int32} {s : zSt} {r} (hF : F_O_attributesOf p1 s = some r) : zk_C X 2 m_O_attributesOf [.ref 2, .int p1] (zHp s) (fun o => o = zoI r) := by
  unfold F_O_attributesOf at hF
  refine zk_enter (lv := [(0, .ref 2), (1, .int p1)]) rfl rfl ?_
  refine zi_aload_n rfl rfl ?_
  refine zi_getfield rfl rfl (zh_O _) rfl ?_
  refine zi_iload_n rfl rfl ?_
  refine zi_iconst (v := (5 : Int32)) rfl rfl ?_
  obtain ⟨v1, s2, hm, hF⟩ := zf_b hF
  refine zi_callV rfl rfl rfl (zh_M _) rfl (zk_C.to (zk_C.up (by decide) (zF_M_word hm)) (fun o ho => zk_K.okv ho ?_))
  refine zi_l2i rfl ?_
  cases hF
  exact zi_ireturn rfl rfl rfl
/-! m_O_turnOver -/
def F_O_turnOver_25 (x1 : Int32) (y0 : Int32) (s : zSt) : Option (Unit × zSt) := (zb (F_M_setWord (x1) ((5 : Int32)) ((y0).toInt64) s) (fun v5 s6 => (zb (F_M_setWord (x1) ((3 : Int32)) ((0 : Int64)) s6) (fun v7 s8 => (zb (F_O_writeValue (x1) ((0 : Int32)) ((0 : Int64)) ((0 : Int32)) s8) (fun v9 s10 => some ((), s10)))))))
def F_O_turnOver (p1 : Int32) (s : zSt) : Option (Unit × zSt) := (zb (F_O_attributesOf (p1) s) (fun v1 s2 => (zb (F_O_isAccessor (p1) s2) (fun v3 s4 => (if v3 = 0 then F_O_turnOver_25    (p1) (((v1 &&& (48 : Int32)) ||| (64 : Int32))) s4 else F_O_turnOver_25    (p1) ((v1 &&& (48 : Int32))) s4)))))
theorem zJ_O_turnOver_25 {X : zkX} (x1 : Int32) (y0 : Int32) (s : zSt) (r) (hF : F_O_turnOver_25   x1 y0 s = some r) : zk_W X 2 m_O_turnOver (25, [(0, .ref 2), (1, .int x1)], [.int y0], zHp s) (fun o => o = zoU r) := by
  unfold F_O_turnOver_25 at hF
  refine zi_istore_n rfl rfl rfl ?_
  refine zi_aload_n rfl rfl ?_
  refine zi_getfield rfl rfl (zh_O _) rfl ?_
  refine zi_iload_n rfl rfl ?_
  refine zi_iconst (v := (5 : Int32)) rfl rfl ?_
  refine zi_iload_n rfl rfl ?_
  refine zi_i2l rfl ?_
  obtain ⟨v5, s6, hm, hF⟩ := zf_b hF
  refine zi_callV rfl rfl rfl (zh_M _) rfl (zk_C.to (zk_C.up (by decide) (zF_M_setWord hm)) (fun o ho => zk_K.okn ho ?_))
  refine zi_aload_n rfl rfl ?_
  refine zi_getfield rfl rfl (zh_O _) rfl ?_
  refine zi_iload_n rfl rfl ?_
  refine zi_iconst (v := (3 : Int32)) rfl rfl ?_
  refine zi_lconst (v := (0 : Int64)) rfl rfl ?_
  obtain ⟨v7, s8, hm, hF⟩ := zf_b hF
  refine zi_callV rfl rfl rfl (zh_M _) rfl (zk_C.to (zk_C.up (by decide) (zF_M_setWord hm)) (fun o ho => zk_K.okn ho ?_))
  refine zi_aload_n rfl rfl ?_
  refine zi_iload_n rfl rfl ?_
  refine zi_iconst (v := (0 : Int32)) rfl rfl ?_
  refine zi_lconst (v := (0 : Int64)) rfl rfl ?_
  refine zi_iconst (v := (0 : Int32)) rfl rfl ?_
  obtain ⟨v9, s10, hm, hF⟩ := zf_b hF
  refine zi_callV rfl rfl rfl (zh_O _) rfl (zk_C.to (zk_C.up (by decide) (zF_O_writeValue hm)) (fun o ho => zk_K.okn ho ?_))
  cases hF
  exact zi_return rfl rfl rfl
theorem zF_O_turnOver {X : zkX} {p1 : Int32} {s : zSt} {r} (hF : F_O_turnOver p1 s = some r) : zk_C X 3 m_O_turnOver [.ref 2, .int p1] (zHp s) (fun o => o = zoU r) := by
  unfold F_O_turnOver at hF
  refine zk_enter (lv := [(0, .ref 2), (1, .int p1)]) rfl rfl ?_
  refine zi_aload_n rfl rfl ?_
  refine zi_iload_n rfl rfl ?_
  obtain ⟨v1, s2, hm, hF⟩ := zf_b hF
  refine zi_callV rfl rfl rfl (zh_O _) rfl (zk_C.to (zk_C.up (by decide) (zF_O_attributesOf hm)) (fun o ho => zk_K.okv ho ?_))
  refine zi_bipush (v := (48 : Int32)) rfl rfl ?_
  refine zi_iand rfl ?_
  refine zi_istore_n rfl rfl rfl ?_
  refine zi_aload_n rfl rfl ?_
  refine zi_iload_n rfl rfl ?_
  obtain ⟨v3, s4, hm, hF⟩ := zf_b hF
  refine zi_callV rfl rfl rfl (zh_O _) rfl (zk_C.to (zk_C.up (by decide) (zF_O_isAccessor hm)) (fun o ho => zk_K.okv ho ?_))
  refine zi_ifeq rfl (fun hc => ?_) (fun hc => ?_)
  · have hF := zf_p hc hF
    refine zi_iload_n rfl rfl ?_
    refine zi_bipush (v := (64 : Int32)) rfl rfl ?_
    refine zi_ior rfl ?_
    exact zk_sb (zJ_O_turnOver_25   _ _ _ _ hF) rfl ⟨rfl, rfl, trivial⟩
  · have hF := zf_n hc hF
    refine zi_iload_n rfl rfl ?_
    refine zi_goto rfl ?_
    exact zk_sb (zJ_O_turnOver_25   _ _ _ _ hF) rfl ⟨rfl, rfl, trivial⟩
/-! m_O_become -/
def F_O_become_136  (s : zSt) : Option (Unit × zSt) := some ((), s)
def F_O_become_113 (x1 : Int32) (s : zSt) : Option (Unit × zSt) := (zb (F_D_tells ((8 : Int32)) s) (fun v13 s14 => (if v13 = 0 then F_O_become_136     s14 else (zb (F_M_setWord (x1) ((3 : Int32)) (((gI s14 12)).toInt64) s14) (fun v15 s16 => F_O_become_136     s16)))))
def F_O_become_105 (x1 : Int32) (y0 : Int32) (y1 : Int32) (s : zSt) : Option (Unit × zSt) := (zb (F_O_writeValue (y1) (y0) ((0 : Int64)) ((gI s 11)) s) (fun v17 s18 => F_O_become_113    (x1) s18))
def F_O_become_83 (x1 : Int32) (s : zSt) : Option (Unit × zSt) := (zb (F_D_tells ((4 : Int32)) s) (fun v11 s12 => (if v11 = 0 then F_O_become_113    (x1) s12 else (if (gI s12 11) = 0 then F_O_become_105    (x1) ((0 : Int32)) (x1) s12 else F_O_become_105    (x1) ((5 : Int32)) (x1) s12))))
def F_O_become_26 (x1 : Int32) (s : zSt) : Option (Unit × zSt) := (zb (F_O_attributesOf (x1) s) (fun v5 s6 => (zb (F_M_setWord (x1) ((5 : Int32)) ((((v5 &&& (((gI s6 7) &&& (50 : Int32)) ^^^ (-1 : Int32))) ||| (gI s6 8))).toInt64) s6) (fun v7 s8 => (zb (F_D_tells ((1 : Int32)) s8) (fun v9 s10 => (if v9 = 0 then F_O_become_83    (x1) s10 else (zb (F_O_writeValue (x1) ((gI s10 9)) ((gJ s10 2)) ((gI s10 10)) s10) (fun v19 s20 => F_O_become_83    (x1) s20)))))))))
def F_O_become_15 (x1 : Int32) (y0 : Int32) (s : zSt) : Option (Unit × zSt) := (zb (F_D_tells (y0) s) (fun v3 s4 => (if v3 = 0 then F_O_become_26    (x1) s4 else (zb (F_O_turnOver (x1) s4) (fun v21 s22 => F_O_become_26    (x1) s22)))))
def F_O_become (p1 : Int32) (s : zSt) : Option (Unit × zSt) := (zb (F_O_isAccessor (p1) s) (fun v1 s2 => (if v1 = 0 then F_O_become_15    (p1) ((12 : Int32)) s2 else F_O_become_15    (p1) ((3 : Int32)) s2)))
theorem zJ_O_become_136 {X : zkX}  (s : zSt) (r) (hF : F_O_become_136    s = some r) : zk_W X 3 m_O_become (136, [], [], zHp s) (fun o => o = zoU r) := by
  unfold F_O_become_136 at hF
  cases hF
  exact zi_return rfl rfl rfl
theorem zJ_O_become_113 {X : zkX} (x1 : Int32) (s : zSt) (r) (hF : F_O_become_113   x1 s = some r) : zk_W X 3 m_O_become (113, [(0, .ref 2), (1, .int x1), (2, .ref 6)], [], zHp s) (fun o => o = zoU r) := by
  unfold F_O_become_113 at hF
  refine zi_aload_n rfl rfl ?_
  refine zi_bipush (v := (8 : Int32)) rfl rfl ?_
  obtain ⟨v13, s14, hm, hF⟩ := zf_b hF
  refine zi_callV rfl rfl rfl (zh_D _) rfl (zk_C.to (zk_C.up (by decide) (zF_D_tells hm)) (fun o ho => zk_K.okv ho ?_))
  refine zi_ifeq rfl (fun hc => ?_) (fun hc => ?_)
  · have hF := zf_p hc hF
    exact zk_sb (zJ_O_become_136    _ _ hF) rfl trivial
  · have hF := zf_n hc hF
    refine zi_aload_n rfl rfl ?_
    refine zi_getfield rfl rfl (zh_O _) rfl ?_
    refine zi_iload_n rfl rfl ?_
    refine zi_iconst (v := (3 : Int32)) rfl rfl ?_
    refine zi_aload_n rfl rfl ?_
    refine zi_getfield rfl rfl (zh_D _) rfl ?_
    refine zi_i2l rfl ?_
    obtain ⟨v15, s16, hm, hF⟩ := zf_b hF
    refine zi_callV rfl rfl rfl (zh_M _) rfl (zk_C.to (zk_C.up (by decide) (zF_M_setWord hm)) (fun o ho => zk_K.okn ho ?_))
    exact zk_sb (zJ_O_become_136    _ _ hF) rfl trivial
theorem zJ_O_become_105 {X : zkX} (x1 : Int32) (y0 : Int32) (y1 : Int32) (s : zSt) (r) (hF : F_O_become_105   x1 y0 y1 s = some r) : zk_W X 3 m_O_become (105, [(0, .ref 2), (1, .int x1), (2, .ref 6)], [.int y0, .int y1, .ref 2], zHp s) (fun o => o = zoU r) := by
  unfold F_O_become_105 at hF
  refine zi_lconst (v := (0 : Int64)) rfl rfl ?_
  refine zi_aload_n rfl rfl ?_
  refine zi_getfield rfl rfl (zh_D _) rfl ?_
  obtain ⟨v17, s18, hm, hF⟩ := zf_b hF
  refine zi_callV rfl rfl rfl (zh_O _) rfl (zk_C.to (zk_C.up (by decide) (zF_O_writeValue hm)) (fun o ho => zk_K.okn ho ?_))
  exact zk_sb (zJ_O_become_113   _ _ _ hF) rfl ⟨rfl, rfl, rfl, trivial⟩
theorem zJ_O_become_83 {X : zkX} (x1 : Int32) (s : zSt) (r) (hF : F_O_become_83   x1 s = some r) : zk_W X 3 m_O_become (83, [(0, .ref 2), (1, .int x1), (2, .ref 6)], [], zHp s) (fun o => o = zoU r) := by
  unfold F_O_become_83 at hF
  refine zi_aload_n rfl rfl ?_
  refine zi_iconst (v := (4 : Int32)) rfl rfl ?_
  obtain ⟨v11, s12, hm, hF⟩ := zf_b hF
  refine zi_callV rfl rfl rfl (zh_D _) rfl (zk_C.to (zk_C.up (by decide) (zF_D_tells hm)) (fun o ho => zk_K.okv ho ?_))
  refine zi_ifeq rfl (fun hc => ?_) (fun hc => ?_)
  · have hF := zf_p hc hF
    exact zk_sb (zJ_O_become_113   _ _ _ hF) rfl ⟨rfl, rfl, rfl, trivial⟩
  · have hF := zf_n hc hF
    refine zi_aload_n rfl rfl ?_
    refine zi_iload_n rfl rfl ?_
    refine zi_aload_n rfl rfl ?_
    refine zi_getfield rfl rfl (zh_D _) rfl ?_
    refine zi_ifne rfl (fun hc => ?_) (fun hc => ?_)
    · have hF := zf_n hc hF
      refine zi_iconst (v := (5 : Int32)) rfl rfl ?_
      exact zk_sb (zJ_O_become_105   _ _ _ _ _ hF) rfl ⟨rfl, rfl, rfl, trivial⟩
    · have hF := zf_p hc hF
      refine zi_iconst (v := (0 : Int32)) rfl rfl ?_
      refine zi_goto rfl ?_
      exact zk_sb (zJ_O_become_105   _ _ _ _ _ hF) rfl ⟨rfl, rfl, rfl, trivial⟩
theorem zJ_O_become_26 {X : zkX} (x1 : Int32) (s : zSt) (r) (hF : F_O_become_26   x1 s = some r) : zk_W X 3 m_O_become (26, [(0, .ref 2), (1, .int x1), (2, .ref 6)], [], zHp s) (fun o => o = zoU r) := by
  unfold F_O_become_26 at hF
  refine zi_aload_n rfl rfl ?_
  refine zi_iload_n rfl rfl ?_
  obtain ⟨v5, s6, hm, hF⟩ := zf_b hF
  refine zi_callV rfl rfl rfl (zh_O _) rfl (zk_C.to (zk_C.up (by decide) (zF_O_attributesOf hm)) (fun o ho => zk_K.okv ho ?_))
  refine zi_aload_n rfl rfl ?_
  refine zi_getfield rfl rfl (zh_D _) rfl ?_
  refine zi_bipush (v := (50 : Int32)) rfl rfl ?_
  refine zi_iand rfl ?_
  refine zi_iconst (v := (-1 : Int32)) rfl rfl ?_
  refine zi_ixor rfl ?_
  refine zi_iand rfl ?_
  refine zi_istore_n rfl rfl rfl ?_
  refine zi_aload_n rfl rfl ?_
  refine zi_getfield rfl rfl (zh_O _) rfl ?_
  refine zi_iload_n rfl rfl ?_
  refine zi_iconst (v := (5 : Int32)) rfl rfl ?_
  refine zi_iload_n rfl rfl ?_
  refine zi_aload_n rfl rfl ?_
  refine zi_getfield rfl rfl (zh_D _) rfl ?_
  refine zi_ior rfl ?_
  refine zi_i2l rfl ?_
  obtain ⟨v7, s8, hm, hF⟩ := zf_b hF
  refine zi_callV rfl rfl rfl (zh_M _) rfl (zk_C.to (zk_C.up (by decide) (zF_M_setWord hm)) (fun o ho => zk_K.okn ho ?_))
  refine zi_aload_n rfl rfl ?_
  refine zi_iconst (v := (1 : Int32)) rfl rfl ?_
  obtain ⟨v9, s10, hm, hF⟩ := zf_b hF
  refine zi_callV rfl rfl rfl (zh_D _) rfl (zk_C.to (zk_C.up (by decide) (zF_D_tells hm)) (fun o ho => zk_K.okv ho ?_))
  refine zi_ifeq rfl (fun hc => ?_) (fun hc => ?_)
  · have hF := zf_p hc hF
    exact zk_sb (zJ_O_become_83   _ _ _ hF) rfl ⟨rfl, rfl, rfl, trivial⟩
  · have hF := zf_n hc hF
    refine zi_aload_n rfl rfl ?_
    refine zi_iload_n rfl rfl ?_
    refine zi_aload_n rfl rfl ?_
    refine zi_getfield rfl rfl (zh_D _) rfl ?_
    refine zi_aload_n rfl rfl ?_
    refine zi_getfield rfl rfl (zh_D _) rfl ?_
    refine zi_aload_n rfl rfl ?_
    refine zi_getfield rfl rfl (zh_D _) rfl ?_
    obtain ⟨v19, s20, hm, hF⟩ := zf_b hF
    refine zi_callV rfl rfl rfl (zh_O _) rfl (zk_C.to (zk_C.up (by decide) (zF_O_writeValue hm)) (fun o ho => zk_K.okn ho ?_))
    exact zk_sb (zJ_O_become_83   _ _ _ hF) rfl ⟨rfl, rfl, rfl, trivial⟩
theorem zJ_O_become_15 {X : zkX} (x1 : Int32) (y0 : Int32) (s : zSt) (r) (hF : F_O_become_15   x1 y0 s = some r) : zk_W X 3 m_O_become (15, [(0, .ref 2), (1, .int x1), (2, .ref 6)], [.int y0, .ref 6], zHp s) (fun o => o = zoU r) := by
  unfold F_O_become_15 at hF
  obtain ⟨v3, s4, hm, hF⟩ := zf_b hF
  refine zi_callV rfl rfl rfl (zh_D _) rfl (zk_C.to (zk_C.up (by decide) (zF_D_tells hm)) (fun o ho => zk_K.okv ho ?_))
  refine zi_ifeq rfl (fun hc => ?_) (fun hc => ?_)
  · have hF := zf_p hc hF
    exact zk_sb (zJ_O_become_26   _ _ _ hF) rfl ⟨rfl, rfl, rfl, trivial⟩
  · have hF := zf_n hc hF
    refine zi_aload_n rfl rfl ?_
    refine zi_iload_n rfl rfl ?_
    obtain ⟨v21, s22, hm, hF⟩ := zf_b hF
    refine zi_callV rfl rfl rfl (zh_O _) rfl (zk_C.to (zk_C.up (by decide) (zF_O_turnOver hm)) (fun o ho => zk_K.okn ho ?_))
    exact zk_sb (zJ_O_become_26   _ _ _ hF) rfl ⟨rfl, rfl, rfl, trivial⟩
theorem zF_O_become {X : zkX} {p1 : Int32} {s : zSt} {r} (hF : F_O_become p1 s = some r) : zk_C X 4 m_O_become [.ref 2, .int p1, .ref 6] (zHp s) (fun o => o = zoU r) := by
  unfold F_O_become at hF
  refine zk_enter (lv := [(0, .ref 2), (1, .int p1), (2, .ref 6)]) rfl rfl ?_
  refine zi_aload_n rfl rfl ?_
  refine zi_aload_n rfl rfl ?_
  refine zi_iload_n rfl rfl ?_
  obtain ⟨v1, s2, hm, hF⟩ := zf_b hF
  refine zi_callV rfl rfl rfl (zh_O _) rfl (zk_C.to (zk_C.up (by decide) (zF_O_isAccessor hm)) (fun o ho => zk_K.okv ho ?_))
  refine zi_ifeq rfl (fun hc => ?_) (fun hc => ?_)
  · have hF := zf_p hc hF
    refine zi_bipush (v := (12 : Int32)) rfl rfl ?_
    exact zk_sb (zJ_O_become_15   _ _ _ _ hF) rfl ⟨rfl, rfl, rfl, trivial⟩
  · have hF := zf_n hc hF
    refine zi_iconst (v := (3 : Int32)) rfl rfl ?_
    refine zi_goto rfl ?_
    exact zk_sb (zJ_O_become_15   _ _ _ _ hF) rfl ⟨rfl, rfl, rfl, trivial⟩
/-! m_O_change -/
def F_O_change_21 (x1 : Int32) (s : zSt) : Option (Int32 × zSt) := (zb (F_O_become (x1) s) (fun v3 s4 => some ((0 : Int32), s4)))
def F_O_change (p1 : Int32) (s : zSt) : Option (Int32 × zSt) := (zb (F_O_isAny (p1) ((32 : Int32)) s) (fun v1 s2 => (if v1 = 0 then (zb (F_O_isFixed (p1) s2) (fun v5 s6 => (if v5 = 0 then F_O_change_21    (p1) s6 else some ((2 : Int32), s6)))) else F_O_change_21    (p1) s2)))
theorem zJ_O_change_21 {X : zkX} (x1 : Int32) (s : zSt) (r) (hF : F_O_change_21   x1 s = some r) : zk_W X 4 m_O_change (21, [(0, .ref 2), (1, .int x1), (2, .ref 6)], [], zHp s) (fun o => o = zoI r) := by
  unfold F_O_change_21 at hF
  refine zi_aload_n rfl rfl ?_
  refine zi_iload_n rfl rfl ?_
  refine zi_aload_n rfl rfl ?_
  obtain ⟨v3, s4, hm, hF⟩ := zf_b hF
  refine zi_callV rfl rfl rfl (zh_O _) rfl (zk_C.to (zk_C.up (by decide) (zF_O_become hm)) (fun o ho => zk_K.okn ho ?_))
  refine zi_iconst (v := (0 : Int32)) rfl rfl ?_
  cases hF
  exact zi_ireturn rfl rfl rfl
theorem zF_O_change {X : zkX} {p1 : Int32} {s : zSt} {r} (hF : F_O_change p1 s = some r) : zk_C X 5 m_O_change [.ref 2, .int p1, .ref 6] (zHp s) (fun o => o = zoI r) := by
  unfold F_O_change at hF
  refine zk_enter (lv := [(0, .ref 2), (1, .int p1), (2, .ref 6)]) rfl rfl ?_
  refine zi_aload_n rfl rfl ?_
  refine zi_iload_n rfl rfl ?_
  refine zi_bipush (v := (32 : Int32)) rfl rfl ?_
  obtain ⟨v1, s2, hm, hF⟩ := zf_b hF
  refine zi_callV rfl rfl rfl (zh_O _) rfl (zk_C.to (zk_C.up (by decide) (zF_O_isAny hm)) (fun o ho => zk_K.okv ho ?_))
  refine zi_ifne rfl (fun hc => ?_) (fun hc => ?_)
  · have hF := zf_n hc hF
    exact zk_sb (zJ_O_change_21   _ _ _ hF) rfl ⟨rfl, rfl, rfl, trivial⟩
  · have hF := zf_p hc hF
    refine zi_aload_n rfl rfl ?_
    refine zi_iload_n rfl rfl ?_
    refine zi_aload_n rfl rfl ?_
    obtain ⟨v5, s6, hm, hF⟩ := zf_b hF
    refine zi_callV rfl rfl rfl (zh_O _) rfl (zk_C.to (zk_C.up (by decide) (zF_O_isFixed hm)) (fun o ho => zk_K.okv ho ?_))
    refine zi_ifeq rfl (fun hc => ?_) (fun hc => ?_)
    · have hF := zf_p hc hF
      exact zk_sb (zJ_O_change_21   _ _ _ hF) rfl ⟨rfl, rfl, rfl, trivial⟩
    · have hF := zf_n hc hF
      refine zi_iconst (v := (2 : Int32)) rfl rfl ?_
      cases hF
      exact zi_ireturn rfl rfl rfl
/-! m_O_staysAhead -/
def F_O_staysAhead_23 (y0 : Int32) (s : zSt) : Option (Int32 × zSt) := (if vp_nar .boolean y0 = y0 then some (y0, s) else none)
def F_O_staysAhead_18  (s : zSt) : Option (Int32 × zSt) := F_O_staysAhead_23    ((1 : Int32)) s
def F_O_staysAhead_22  (s : zSt) : Option (Int32 × zSt) := F_O_staysAhead_23    ((0 : Int32)) s
def F_O_staysAhead (p0 : Int64) (p2 : Int64) (s : zSt) : Option (Int32 × zSt) := (if (lg_cmp p2 (0 : Int64)) < 0 then F_O_staysAhead_18     s else (if (lg_cmp p0 (0 : Int64)) < 0 then F_O_staysAhead_22     s else (if 0 ≤ (lg_cmp p0 p2) then F_O_staysAhead_22     s else F_O_staysAhead_18     s)))
theorem zJ_O_staysAhead_23 {X : zkX} (y0 : Int32) (s : zSt) (r) (hF : F_O_staysAhead_23   y0 s = some r) : zk_W X 0 m_O_staysAhead (23, [], [.int y0], zHp s) (fun o => o = zoI r) := by
  unfold F_O_staysAhead_23 at hF
  obtain ⟨hz, hF⟩ := zf_g hF
  cases hF
  exact zi_zreturn rfl rfl hz rfl
theorem zJ_O_staysAhead_18 {X : zkX}  (s : zSt) (r) (hF : F_O_staysAhead_18    s = some r) : zk_W X 0 m_O_staysAhead (18, [], [], zHp s) (fun o => o = zoI r) := by
  unfold F_O_staysAhead_18 at hF
  refine zi_iconst (v := (1 : Int32)) rfl rfl ?_
  refine zi_goto rfl ?_
  exact zk_sb (zJ_O_staysAhead_23   _ _ _ hF) rfl trivial
theorem zJ_O_staysAhead_22 {X : zkX}  (s : zSt) (r) (hF : F_O_staysAhead_22    s = some r) : zk_W X 0 m_O_staysAhead (22, [], [], zHp s) (fun o => o = zoI r) := by
  unfold F_O_staysAhead_22 at hF
  refine zi_iconst (v := (0 : Int32)) rfl rfl ?_
  exact zk_sb (zJ_O_staysAhead_23   _ _ _ hF) rfl trivial
theorem zF_O_staysAhead {X : zkX} {p0 : Int64} {p2 : Int64} {s : zSt} {r} (hF : F_O_staysAhead p0 p2 s = some r) : zk_C X 1 m_O_staysAhead [.long p0, .long p2] (zHp s) (fun o => o = zoI r) := by
  unfold F_O_staysAhead at hF
  refine zk_enter (lv := [(0, .long p0), (2, .long p2)]) rfl rfl ?_
  refine zi_lload_n rfl rfl ?_
  refine zi_lconst (v := (0 : Int64)) rfl rfl ?_
  refine zi_lcmp rfl ?_
  refine zi_iflt rfl (fun hc => ?_) (fun hc => ?_)
  · have hF := zf_p hc hF
    exact zk_sb (zJ_O_staysAhead_18    _ _ hF) rfl trivial
  · have hF := zf_n hc hF
    refine zi_lload_n rfl rfl ?_
    refine zi_lconst (v := (0 : Int64)) rfl rfl ?_
    refine zi_lcmp rfl ?_
    refine zi_iflt rfl (fun hc => ?_) (fun hc => ?_)
    · have hF := zf_p hc hF
      exact zk_sb (zJ_O_staysAhead_22    _ _ hF) rfl trivial
    · have hF := zf_n hc hF
      refine zi_lload_n rfl rfl ?_
      refine zi_lload_n rfl rfl ?_
      refine zi_lcmp rfl ?_
      refine zi_ifge rfl (fun hc => ?_) (fun hc => ?_)
      · have hF := zf_p hc hF
        exact zk_sb (zJ_O_staysAhead_22    _ _ hF) rfl trivial
      · have hF := zf_n hc hF
        exact zk_sb (zJ_O_staysAhead_18    _ _ hF) rfl trivial
/-! m_O_linkBehind -/
def F_O_linkBehind_29  (s : zSt) : Option (Unit × zSt) := some ((), s)
def F_O_linkBehind (p1 : Int32) (p2 : Int32) (p3 : Int32) (s : zSt) : Option (Unit × zSt) := (if p2 = 0 then (zb (F_M_setWord (p1) ((2 : Int32)) ((p3).toInt64) s) (fun v3 s4 => F_O_linkBehind_29     s4)) else (zb (F_M_setWord (p2) ((1 : Int32)) ((p3).toInt64) s) (fun v1 s2 => F_O_linkBehind_29     s2)))
theorem zJ_O_linkBehind_29 {X : zkX}  (s : zSt) (r) (hF : F_O_linkBehind_29    s = some r) : zk_W X 1 m_O_linkBehind (29, [], [], zHp s) (fun o => o = zoU r) := by
  unfold F_O_linkBehind_29 at hF
  cases hF
  exact zi_return rfl rfl rfl
theorem zF_O_linkBehind {X : zkX} {p1 : Int32} {p2 : Int32} {p3 : Int32} {s : zSt} {r} (hF : F_O_linkBehind p1 p2 p3 s = some r) : zk_C X 2 m_O_linkBehind [.ref 2, .int p1, .int p2, .int p3] (zHp s) (fun o => o = zoU r) := by
  unfold F_O_linkBehind at hF
  refine zk_enter (lv := [(0, .ref 2), (1, .int p1), (2, .int p2), (3, .int p3)]) rfl rfl ?_
  refine zi_iload_n rfl rfl ?_
  refine zi_ifne rfl (fun hc => ?_) (fun hc => ?_)
  · have hF := zf_n hc hF
    refine zi_aload_n rfl rfl ?_
    refine zi_getfield rfl rfl (zh_O _) rfl ?_
    refine zi_iload_n rfl rfl ?_
    refine zi_iconst (v := (1 : Int32)) rfl rfl ?_
    refine zi_iload_n rfl rfl ?_
    refine zi_i2l rfl ?_
    obtain ⟨v1, s2, hm, hF⟩ := zf_b hF
    refine zi_callV rfl rfl rfl (zh_M _) rfl (zk_C.to (zk_C.up (by decide) (zF_M_setWord hm)) (fun o ho => zk_K.okn ho ?_))
    exact zk_sb (zJ_O_linkBehind_29    _ _ hF) rfl trivial
  · have hF := zf_p hc hF
    refine zi_aload_n rfl rfl ?_
    refine zi_getfield rfl rfl (zh_O _) rfl ?_
    refine zi_iload_n rfl rfl ?_
    refine zi_iconst (v := (2 : Int32)) rfl rfl ?_
    refine zi_iload_n rfl rfl ?_
    refine zi_i2l rfl ?_
    obtain ⟨v3, s4, hm, hF⟩ := zf_b hF
    refine zi_callV rfl rfl rfl (zh_M _) rfl (zk_C.to (zk_C.up (by decide) (zF_M_setWord hm)) (fun o ho => zk_K.okn ho ?_))
    refine zi_goto rfl ?_
    exact zk_sb (zJ_O_linkBehind_29    _ _ hF) rfl trivial
/-! m_O_add -/
def F_O_add_95 (x1 : Int32) (x5 : Int32) (x6 : Int32) (x7 : Int32) (s : zSt) : Option (Int32 × zSt) := (zb (F_M_setWord (x5) ((1 : Int32)) ((x7).toInt64) s) (fun v9 s10 => (zb (F_O_linkBehind (x1) (x6) (x5) s10) (fun v11 s12 => some ((0 : Int32), s12)))))
def F_O_add_48  : Nat → Int32 → Int64 → Int32 → Int32 → Int32 → Int32 → zSt → Option (Int32 × zSt)
  | 0, _, _, _, _, _, _, _ => none
  | n + 1, x1, x2, x5, x6, x7, x8, s => (if (1024 : Int32) ≤ x8 then F_O_add_95    (x1) (x5) (x6) (x7) s else (if x7 = 0 then F_O_add_95    (x1) (x5) (x6) (x7) s else (zb (F_O_keyOf (x7) s) (fun v13 s14 => (zb (F_O_staysAhead (v13) (x2) s14) (fun v15 s16 => (if v15 = 0 then F_O_add_95    (x1) (x5) (x6) (x7) s16 else (zb (F_O_next (x7) s16) (fun v17 s18 => F_O_add_48  n (x1) (x2) (x5) (x7) (v17) ((x8 + (1 : Int32))) s18)))))))))
def F_O_add (p1 : Int32) (p2 : Int64) (s : zSt) : Option (Int32 × zSt) := (zb (F_M_make  s) (fun v1 s2 => (if v1 = 0 then some ((2 : Int32), s2) else (zb (F_M_setWord (v1) ((4 : Int32)) (p2) s2) (fun v3 s4 => (zb (F_O_become (v1) s4) (fun v5 s6 => (zb (F_O_first (p1) s6) (fun v7 s8 => F_O_add_48   zFuel (p1) (p2) (v1) ((0 : Int32)) (v7) ((0 : Int32)) s8)))))))))
theorem zJ_O_add_95 {X : zkX} (x1 : Int32) (x5 : Int32) (x6 : Int32) (x7 : Int32) (s : zSt) (r) (hF : F_O_add_95   x1 x5 x6 x7 s = some r) : zk_W X 4 m_O_add (95, [(0, .ref 2), (1, .int x1), (5, .int x5), (6, .int x6), (7, .int x7)], [], zHp s) (fun o => o = zoI r) := by
  unfold F_O_add_95 at hF
  refine zi_aload_n rfl rfl ?_
  refine zi_getfield rfl rfl (zh_O _) rfl ?_
  refine zi_iload rfl rfl ?_
  refine zi_iconst (v := (1 : Int32)) rfl rfl ?_
  refine zi_iload rfl rfl ?_
  refine zi_i2l rfl ?_
  obtain ⟨v9, s10, hm, hF⟩ := zf_b hF
  refine zi_callV rfl rfl rfl (zh_M _) rfl (zk_C.to (zk_C.up (by decide) (zF_M_setWord hm)) (fun o ho => zk_K.okn ho ?_))
  refine zi_aload_n rfl rfl ?_
  refine zi_iload_n rfl rfl ?_
  refine zi_iload rfl rfl ?_
  refine zi_iload rfl rfl ?_
  obtain ⟨v11, s12, hm, hF⟩ := zf_b hF
  refine zi_callV rfl rfl rfl (zh_O _) rfl (zk_C.to (zk_C.up (by decide) (zF_O_linkBehind hm)) (fun o ho => zk_K.okn ho ?_))
  refine zi_iconst (v := (0 : Int32)) rfl rfl ?_
  cases hF
  exact zi_ireturn rfl rfl rfl
theorem zJ_O_add_48 {X : zkX} : ∀ (n : Nat) (x1 : Int32) (x2 : Int64) (x5 : Int32) (x6 : Int32) (x7 : Int32) (x8 : Int32) (s : zSt) (r), F_O_add_48   n x1 x2 x5 x6 x7 x8 s = some r → zk_W X 4 m_O_add (48, [(0, .ref 2), (1, .int x1), (2, .long x2), (5, .int x5), (6, .int x6), (7, .int x7), (8, .int x8)], [], zHp s) (fun o => o = zoI r) := by
  intro n
  induction n with
  | zero => intro x1 x2 x5 x6 x7 x8 s r hF; cases hF
  | succ n ih =>
    intro x1 x2 x5 x6 x7 x8 s r hF
    rw [F_O_add_48] at hF
    refine zi_iload rfl rfl ?_
    refine zi_sipush (v := (1024 : Int32)) rfl rfl ?_
    refine zi_icge rfl (fun hc => ?_) (fun hc => ?_)
    · have hF := zf_p hc hF
      exact zk_sb (zJ_O_add_95   _ _ _ _ _ _ hF) rfl ⟨rfl, rfl, rfl, rfl, rfl, trivial⟩
    · have hF := zf_n hc hF
      refine zi_iload rfl rfl ?_
      refine zi_ifeq rfl (fun hc => ?_) (fun hc => ?_)
      · have hF := zf_p hc hF
        exact zk_sb (zJ_O_add_95   _ _ _ _ _ _ hF) rfl ⟨rfl, rfl, rfl, rfl, rfl, trivial⟩
      · have hF := zf_n hc hF
        refine zi_aload_n rfl rfl ?_
        refine zi_iload rfl rfl ?_
        obtain ⟨v13, s14, hm, hF⟩ := zf_b hF
        refine zi_callV rfl rfl rfl (zh_O _) rfl (zk_C.to (zk_C.up (by decide) (zF_O_keyOf hm)) (fun o ho => zk_K.okv ho ?_))
        refine zi_lload_n rfl rfl ?_
        obtain ⟨v15, s16, hm, hF⟩ := zf_b hF
        refine zi_callS rfl rfl rfl rfl (zk_C.to (zk_C.up (by decide) (zF_O_staysAhead hm)) (fun o ho => zk_K.okv ho ?_))
        refine zi_ifne rfl (fun hc => ?_) (fun hc => ?_)
        · have hF := zf_n hc hF
          refine zi_iload rfl rfl ?_
          refine zi_istore rfl rfl rfl ?_
          refine zi_aload_n rfl rfl ?_
          refine zi_iload rfl rfl ?_
          obtain ⟨v17, s18, hm, hF⟩ := zf_b hF
          refine zi_callV rfl rfl rfl (zh_O _) rfl (zk_C.to (zk_C.up (by decide) (zF_O_next hm)) (fun o ho => zk_K.okv ho ?_))
          refine zi_istore rfl rfl rfl ?_
          refine zi_iinc (y := (x8 + (1 : Int32))) rfl rfl rfl rfl rfl ?_
          refine zi_goto rfl ?_
          exact zk_sb (ih _ _ _ _ _ _ _ _ hF) rfl ⟨rfl, rfl, rfl, rfl, rfl, rfl, rfl, trivial⟩
        · have hF := zf_p hc hF
          refine zi_goto rfl ?_
          exact zk_sb (zJ_O_add_95   _ _ _ _ _ _ hF) rfl ⟨rfl, rfl, rfl, rfl, rfl, trivial⟩
theorem zF_O_add {X : zkX} {p1 : Int32} {p2 : Int64} {s : zSt} {r} (hF : F_O_add p1 p2 s = some r) : zk_C X 5 m_O_add [.ref 2, .int p1, .long p2, .ref 6] (zHp s) (fun o => o = zoI r) := by
  unfold F_O_add at hF
  refine zk_enter (lv := [(0, .ref 2), (1, .int p1), (2, .long p2), (4, .ref 6)]) rfl rfl ?_
  refine zi_aload_n rfl rfl ?_
  refine zi_getfield rfl rfl (zh_O _) rfl ?_
  obtain ⟨v1, s2, hm, hF⟩ := zf_b hF
  refine zi_callV rfl rfl rfl (zh_M _) rfl (zk_C.to (zk_C.up (by decide) (zF_M_make hm)) (fun o ho => zk_K.okv ho ?_))
  refine zi_istore rfl rfl rfl ?_
  refine zi_iload rfl rfl ?_
  refine zi_ifne rfl (fun hc => ?_) (fun hc => ?_)
  · have hF := zf_n hc hF
    refine zi_aload_n rfl rfl ?_
    refine zi_getfield rfl rfl (zh_O _) rfl ?_
    refine zi_iload rfl rfl ?_
    refine zi_iconst (v := (4 : Int32)) rfl rfl ?_
    refine zi_lload_n rfl rfl ?_
    obtain ⟨v3, s4, hm, hF⟩ := zf_b hF
    refine zi_callV rfl rfl rfl (zh_M _) rfl (zk_C.to (zk_C.up (by decide) (zF_M_setWord hm)) (fun o ho => zk_K.okn ho ?_))
    refine zi_aload_n rfl rfl ?_
    refine zi_iload rfl rfl ?_
    refine zi_aload rfl rfl ?_
    obtain ⟨v5, s6, hm, hF⟩ := zf_b hF
    refine zi_callV rfl rfl rfl (zh_O _) rfl (zk_C.to (zk_C.up (by decide) (zF_O_become hm)) (fun o ho => zk_K.okn ho ?_))
    refine zi_iconst (v := (0 : Int32)) rfl rfl ?_
    refine zi_istore rfl rfl rfl ?_
    refine zi_aload_n rfl rfl ?_
    refine zi_iload_n rfl rfl ?_
    obtain ⟨v7, s8, hm, hF⟩ := zf_b hF
    refine zi_callV rfl rfl rfl (zh_O _) rfl (zk_C.to (zk_C.up (by decide) (zF_O_first hm)) (fun o ho => zk_K.okv ho ?_))
    refine zi_istore rfl rfl rfl ?_
    refine zi_iconst (v := (0 : Int32)) rfl rfl ?_
    refine zi_istore rfl rfl rfl ?_
    exact zk_sb (zJ_O_add_48  zFuel _ _ _ _ _ _ _ _ hF) rfl ⟨rfl, rfl, rfl, rfl, rfl, rfl, rfl, trivial⟩
  · have hF := zf_p hc hF
    refine zi_iconst (v := (2 : Int32)) rfl rfl ?_
    cases hF
    exact zi_ireturn rfl rfl rfl

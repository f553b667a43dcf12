/-! m_X_prototype -/
def F_X_prototype (p1 : Int32) (p2 : Int32) (s : zSt) : Option ((Unit ⊕ Nat) × zSt) := (zt (F_X_held (p1) s) (fun v1 s2 => (zt (F_X_needRoot (p2) s2) (fun v4 s5 => (zb (F_O_prototypeOf (v1) s5) (fun v7 s8 => (zb (F_M_keep (p2) (v7) s8) (fun v9 s10 => some (.inl (), s10)))))))))
theorem zF_X_prototype {X : zkX} {p1 : Int32} {p2 : Int32} {s : zSt} {r} (hF : F_X_prototype p1 p2 s = some r) : zk_C X 9 m_X_prototype [.ref 1, .int p1, .int p2] (zHp s) (fun o => o = ztU r) := by
  unfold F_X_prototype at hF
  refine zk_enter (lv := [(0, .ref 1), (1, .int p1), (2, .int p2)]) rfl rfl ?_
  refine zi_aload_n rfl rfl ?_
  refine zi_iload_n rfl rfl ?_
  rcases zf_t hF with ⟨v1, s2, hm, hF⟩ | ⟨x3, s2, hm, hF⟩
  rotate_left
  · subst hF
    exact zi_callV rfl rfl rfl (zh_X _) rfl (zk_C.to (zk_C.up (by decide) (zF_X_held hm)) (fun o ho => zk_K.thr (x := x3) (h2 := zHp s2) ho rfl rfl))
  refine zi_callV rfl rfl rfl (zh_X _) rfl (zk_C.to (zk_C.up (by decide) (zF_X_held hm)) (fun o ho => zk_K.okv ho ?_))
  refine zi_istore_n rfl rfl rfl ?_
  refine zi_iload_n rfl rfl ?_
  rcases zf_t hF with ⟨v4, s5, hm, hF⟩ | ⟨x6, s5, hm, hF⟩
  rotate_left
  · subst hF
    exact zi_callS rfl rfl rfl rfl (zk_C.to (zk_C.up (by decide) (zF_X_needRoot hm)) (fun o ho => zk_K.thr (x := x6) (h2 := zHp s5) ho rfl rfl))
  refine zi_callS rfl rfl rfl rfl (zk_C.to (zk_C.up (by decide) (zF_X_needRoot hm)) (fun o ho => zk_K.okn ho ?_))
  refine zi_aload_n rfl rfl ?_
  refine zi_getfield rfl rfl (zh_X _) rfl ?_
  refine zi_iload_n rfl rfl ?_
  refine zi_aload_n rfl rfl ?_
  refine zi_getfield rfl rfl (zh_X _) rfl ?_
  refine zi_iload_n rfl rfl ?_
  obtain ⟨v7, s8, hm, hF⟩ := zf_b hF
  refine zi_callV rfl rfl rfl (zh_O _) rfl (zk_C.to (zk_C.up (by decide) (zF_O_prototypeOf hm)) (fun o ho => zk_K.okv ho ?_))
  obtain ⟨v9, s10, hm, hF⟩ := zf_b hF
  refine zi_callV rfl rfl rfl (zh_M _) rfl (zk_C.to (zk_C.up (by decide) (zF_M_keep hm)) (fun o ho => zk_K.okn ho ?_))
  cases hF
  exact zi_return rfl rfl rfl
/-! m_L_prototype -/
def F_L_prototype (p1 : Int32) (p2 : Int32) (s : zSt) : Option (Int32 × zSt) := (zc (F_X_prototype (p1) (p2) s) (fun v1 s2 => some ((0 : Int32), s2)) (fun x3 s2 => (if x3 = 0 then some ((1 : Int32), s2) else none)))
theorem zF_L_prototype {X : zkX} {p1 : Int32} {p2 : Int32} {s : zSt} {r} (hF : F_L_prototype p1 p2 s = some r) : zk_C X 10 m_L_prototype [.ref 1, .int p1, .int p2] (zHp s) (fun o => o = zoI r) := by
  unfold F_L_prototype at hF
  refine zk_enter (lv := [(0, .ref 1), (1, .int p1), (2, .int p2)]) rfl rfl ?_
  refine zi_aload_n rfl rfl ?_
  refine zi_iload_n rfl rfl ?_
  refine zi_iload_n rfl rfl ?_
  rcases zf_c hF with ⟨v1, s2, hm, hF⟩ | ⟨x3, s2, hm, hF⟩
  rotate_left
  · refine zi_callV rfl rfl rfl (zh_X _) rfl (zk_C.to (zk_C.up (by decide) (zF_X_prototype hm)) (fun o ho => ?_))
    by_cases hx0 : x3 = 0
    · have hF := zf_p hx0 hF
      rw [hx0] at ho
      refine zk_K.cat (x := 0) (h2 := zHp s2) (hp := 9) ho rfl rfl ?_
      refine zi_iconst (v := (1 : Int32)) rfl rfl ?_
      cases hF
      exact zi_ireturn rfl rfl rfl
    have hF := zf_n hx0 hF
    cases hF
  refine zi_callV rfl rfl rfl (zh_X _) rfl (zk_C.to (zk_C.up (by decide) (zF_X_prototype hm)) (fun o ho => zk_K.okn ho ?_))
  refine zi_goto rfl ?_
  refine zi_iconst (v := (0 : Int32)) rfl rfl ?_
  cases hF
  exact zi_ireturn rfl rfl rfl
/-! m_M_collectBeforeEach -/
def F_M_collectBeforeEach (p1 : Int32) (s : zSt) : Option (Unit × zSt) := some ((), (sI (sI s 5 p1) 6 (0 : Int32)))
theorem zF_M_collectBeforeEach {X : zkX} {p1 : Int32} {s : zSt} {r} (hF : F_M_collectBeforeEach p1 s = some r) : zk_C X 1 m_M_collectBeforeEach [.ref 3, .int p1] (zHp s) (fun o => o = zoU r) := by
  unfold F_M_collectBeforeEach at hF
  refine zk_enter (lv := [(0, .ref 3), (1, .int p1)]) rfl rfl ?_
  refine zi_aload_n rfl rfl ?_
  refine zi_iload_n rfl rfl ?_
  refine zi_putfield rfl rfl (zh_M _) rfl rfl (zs_I5 _ _) ?_
  refine zi_aload_n rfl rfl ?_
  refine zi_iconst (v := (0 : Int32)) rfl rfl ?_
  refine zi_putfield rfl rfl (zh_M _) rfl rfl (zs_I6 _ _) ?_
  cases hF
  exact zi_return rfl rfl rfl
/-! m_X_stress -/
def F_X_stress (p1 : Int32) (s : zSt) : Option ((Unit ⊕ Nat) × zSt) := (if 0 ≤ p1 then (zb (F_M_collectBeforeEach (p1) s) (fun v1 s2 => some (.inl (), s2))) else some (.inr 0, zpush s))
theorem zF_X_stress {X : zkX} {p1 : Int32} {s : zSt} {r} (hF : F_X_stress p1 s = some r) : zk_C X 7 m_X_stress [.ref 1, .int p1] (zHp s) (fun o => o = ztU r) := by
  unfold F_X_stress at hF
  refine zk_enter (lv := [(0, .ref 1), (1, .int p1)]) rfl rfl ?_
  refine zi_iload_n rfl rfl ?_
  refine zi_ifge rfl (fun hc => ?_) (fun hc => ?_)
  · have hF := zf_p hc hF
    refine zi_aload_n rfl rfl ?_
    refine zi_getfield rfl rfl (zh_X _) rfl ?_
    refine zi_iload_n rfl rfl ?_
    obtain ⟨v1, s2, hm, hF⟩ := zf_b hF
    refine zi_callV rfl rfl rfl (zh_M _) rfl (zk_C.to (zk_C.up (by decide) (zF_M_collectBeforeEach hm)) (fun o ho => zk_K.okn ho ?_))
    cases hF
    exact zi_return rfl rfl rfl
  · have hF := zf_n hc hF
    cases hF
    exact zi_throw rfl rfl rfl rfl rfl (by rw [zh_push]; rfl)
/-! m_L_stress -/
def F_L_stress (p1 : Int32) (s : zSt) : Option (Int32 × zSt) := (zc (F_X_stress (p1) s) (fun v1 s2 => some ((0 : Int32), s2)) (fun x3 s2 => (if x3 = 0 then some ((1 : Int32), s2) else none)))
theorem zF_L_stress {X : zkX} {p1 : Int32} {s : zSt} {r} (hF : F_L_stress p1 s = some r) : zk_C X 8 m_L_stress [.ref 1, .int p1] (zHp s) (fun o => o = zoI r) := by
  unfold F_L_stress at hF
  refine zk_enter (lv := [(0, .ref 1), (1, .int p1)]) rfl rfl ?_
  refine zi_aload_n rfl rfl ?_
  refine zi_iload_n rfl rfl ?_
  rcases zf_c hF with ⟨v1, s2, hm, hF⟩ | ⟨x3, s2, hm, hF⟩
  rotate_left
  · refine zi_callV rfl rfl rfl (zh_X _) rfl (zk_C.to (zk_C.up (by decide) (zF_X_stress hm)) (fun o ho => ?_))
    by_cases hx0 : x3 = 0
    · have hF := zf_p hx0 hF
      rw [hx0] at ho
      refine zk_K.cat (x := 0) (h2 := zHp s2) (hp := 8) ho rfl rfl ?_
      refine zi_iconst (v := (1 : Int32)) rfl rfl ?_
      cases hF
      exact zi_ireturn rfl rfl rfl
    have hF := zf_n hx0 hF
    cases hF
  refine zi_callV rfl rfl rfl (zh_X _) rfl (zk_C.to (zk_C.up (by decide) (zF_X_stress hm)) (fun o ho => zk_K.okn ho ?_))
  refine zi_goto rfl ?_
  refine zi_iconst (v := (0 : Int32)) rfl rfl ?_
  cases hF
  exact zi_ireturn rfl rfl rfl
/-! m_R_thrown -/
def F_R_thrown  (s : zSt) : Option (Int32 × zSt) := some ((gI s 13), s)
theorem zF_R_thrown {X : zkX} {s : zSt} {r} (hF : F_R_thrown  s = some r) : zk_C X 1 m_R_thrown [.ref 7] (zHp s) (fun o => o = zoI r) := by
  unfold F_R_thrown at hF
  refine zk_enter (lv := [(0, .ref 7)]) rfl rfl ?_
  refine zi_aload_n rfl rfl ?_
  refine zi_getfield rfl rfl (zh_R _) rfl ?_
  cases hF
  exact zi_ireturn rfl rfl rfl
/-! m_R_in -/
def F_R_in_18 (y0 : Int32) (s : zSt) : Option (Int32 × zSt) := (if vp_nar .boolean y0 = y0 then some (y0, s) else none)
def F_R_in_17  (s : zSt) : Option (Int32 × zSt) := F_R_in_18    ((0 : Int32)) s
def F_R_in (p0 : Int64) (p2 : Int64) (p4 : Int64) (s : zSt) : Option (Int32 × zSt) := (if (lg_cmp p0 p2) < 0 then F_R_in_17     s else (if 0 < (lg_cmp p0 p4) then F_R_in_17     s else F_R_in_18    ((1 : Int32)) s))
theorem zJ_R_in_18 {X : zkX} (y0 : Int32) (s : zSt) (r) (hF : F_R_in_18   y0 s = some r) : zk_W X 0 m_R_in (18, [], [.int y0], zHp s) (fun o => o = zoI r) := by
  unfold F_R_in_18 at hF
  obtain ⟨hz, hF⟩ := zf_g hF
  cases hF
  exact zi_zreturn rfl rfl hz rfl
theorem zJ_R_in_17 {X : zkX}  (s : zSt) (r) (hF : F_R_in_17    s = some r) : zk_W X 0 m_R_in (17, [], [], zHp s) (fun o => o = zoI r) := by
  unfold F_R_in_17 at hF
  refine zi_iconst (v := (0 : Int32)) rfl rfl ?_
  exact zk_sb (zJ_R_in_18   _ _ _ hF) rfl trivial
theorem zF_R_in {X : zkX} {p0 : Int64} {p2 : Int64} {p4 : Int64} {s : zSt} {r} (hF : F_R_in p0 p2 p4 s = some r) : zk_C X 1 m_R_in [.long p0, .long p2, .long p4] (zHp s) (fun o => o = zoI r) := by
  unfold F_R_in at hF
  refine zk_enter (lv := [(0, .long p0), (2, .long p2), (4, .long p4)]) rfl rfl ?_
  refine zi_lload_n rfl rfl ?_
  refine zi_lload_n rfl rfl ?_
  refine zi_lcmp rfl ?_
  refine zi_iflt rfl (fun hc => ?_) (fun hc => ?_)
  · have hF := zf_p hc hF
    exact zk_sb (zJ_R_in_17    _ _ hF) rfl trivial
  · have hF := zf_n hc hF
    refine zi_lload_n rfl rfl ?_
    refine zi_lload rfl rfl ?_
    refine zi_lcmp rfl ?_
    refine zi_ifgt rfl (fun hc => ?_) (fun hc => ?_)
    · have hF := zf_p hc hF
      exact zk_sb (zJ_R_in_17    _ _ hF) rfl trivial
    · have hF := zf_n hc hF
      refine zi_iconst (v := (1 : Int32)) rfl rfl ?_
      refine zi_goto rfl ?_
      exact zk_sb (zJ_R_in_18   _ _ _ hF) rfl trivial
/-! m_R_isRoot -/
def F_R_isRoot (p0 : Int32) (s : zSt) : Option (Int32 × zSt) := (zb (F_R_in ((p0).toInt64) ((0 : Int64)) ((23 : Int64)) s) (fun v1 s2 => (if vp_nar .boolean v1 = v1 then some (v1, s2) else none)))
theorem zF_R_isRoot {X : zkX} {p0 : Int32} {s : zSt} {r} (hF : F_R_isRoot p0 s = some r) : zk_C X 2 m_R_isRoot [.int p0] (zHp s) (fun o => o = zoI r) := by
  unfold F_R_isRoot at hF
  refine zk_enter (lv := [(0, .int p0)]) rfl rfl ?_
  refine zi_iload_n rfl rfl ?_
  refine zi_i2l rfl ?_
  refine zi_lconst (v := (0 : Int64)) rfl rfl ?_
  refine zi_ldc2_w (v := (23 : Int64)) rfl rfl ?_
  obtain ⟨v1, s2, hm, hF⟩ := zf_b hF
  refine zi_callS rfl rfl rfl rfl (zk_C.to (zk_C.up (by decide) (zF_R_in hm)) (fun o ho => zk_K.okv ho ?_))
  obtain ⟨hz, hF⟩ := zf_g hF
  cases hF
  exact zi_zreturn rfl rfl hz rfl
/-! m_R_holds -/
def F_R_holds_21 (y0 : Int32) (s : zSt) : Option (Int32 × zSt) := (if vp_nar .boolean y0 = y0 then some (y0, s) else none)
def F_R_holds_20  (s : zSt) : Option (Int32 × zSt) := F_R_holds_21    ((0 : Int32)) s
def F_R_holds (p1 : Int32) (s : zSt) : Option (Int32 × zSt) := (zb (F_R_isRoot (p1) s) (fun v1 s2 => (if v1 = 0 then F_R_holds_20     s2 else (if zin p1 24 then (if (gA s2 1 (p1).toNatClampNeg) ≤ 0 then F_R_holds_20     s2 else F_R_holds_21    ((1 : Int32)) s2) else none))))
theorem zJ_R_holds_21 {X : zkX} (y0 : Int32) (s : zSt) (r) (hF : F_R_holds_21   y0 s = some r) : zk_W X 2 m_R_holds (21, [], [.int y0], zHp s) (fun o => o = zoI r) := by
  unfold F_R_holds_21 at hF
  obtain ⟨hz, hF⟩ := zf_g hF
  cases hF
  exact zi_zreturn rfl rfl hz rfl
theorem zJ_R_holds_20 {X : zkX}  (s : zSt) (r) (hF : F_R_holds_20    s = some r) : zk_W X 2 m_R_holds (20, [], [], zHp s) (fun o => o = zoI r) := by
  unfold F_R_holds_20 at hF
  refine zi_iconst (v := (0 : Int32)) rfl rfl ?_
  exact zk_sb (zJ_R_holds_21   _ _ _ hF) rfl trivial
theorem zF_R_holds {X : zkX} {p1 : Int32} {s : zSt} {r} (hF : F_R_holds p1 s = some r) : zk_C X 3 m_R_holds [.ref 7, .int p1] (zHp s) (fun o => o = zoI r) := by
  unfold F_R_holds at hF
  refine zk_enter (lv := [(0, .ref 7), (1, .int p1)]) rfl rfl ?_
  refine zi_iload_n rfl rfl ?_
  obtain ⟨v1, s2, hm, hF⟩ := zf_b hF
  refine zi_callS rfl rfl rfl rfl (zk_C.to (zk_C.up (by decide) (zF_R_isRoot hm)) (fun o ho => zk_K.okv ho ?_))
  refine zi_ifeq rfl (fun hc => ?_) (fun hc => ?_)
  · have hF := zf_p hc hF
    exact zk_sb (zJ_R_holds_20    _ _ hF) rfl trivial
  · have hF := zf_n hc hF
    refine zi_aload_n rfl rfl ?_
    refine zi_getfield rfl rfl (zh_R _) rfl ?_
    refine zi_iload_n rfl rfl ?_
    obtain ⟨hb, hF⟩ := zf_g hF
    refine zi_iaload rfl (zr_A1 _ _) (zin_ok hb) ?_
    refine zi_ifle rfl (fun hc => ?_) (fun hc => ?_)
    · have hF := zf_p hc hF
      exact zk_sb (zJ_R_holds_20    _ _ hF) rfl trivial
    · have hF := zf_n hc hF
      refine zi_iconst (v := (1 : Int32)) rfl rfl ?_
      refine zi_goto rfl ?_
      exact zk_sb (zJ_R_holds_21   _ _ _ hF) rfl trivial
/-! m_R_says -/
def F_R_says_10 (x1 : Int32) (y0 : Int32) (s : zSt) : Option (Int32 × zSt) := (if vp_nar .boolean x1 = x1 then some (x1, (sI s 13 y0)) else none)
def F_R_says (p1 : Int32) (s : zSt) : Option (Int32 × zSt) := (if p1 = 0 then F_R_says_10    (p1) ((1 : Int32)) s else F_R_says_10    (p1) ((0 : Int32)) s)
theorem zJ_R_says_10 {X : zkX} (x1 : Int32) (y0 : Int32) (s : zSt) (r) (hF : F_R_says_10   x1 y0 s = some r) : zk_W X 0 m_R_says (10, [(1, .int x1)], [.int y0, .ref 7], zHp s) (fun o => o = zoI r) := by
  unfold F_R_says_10 at hF
  refine zi_putfield rfl rfl (zh_R _) rfl rfl (zs_I13 _ _) ?_
  refine zi_iload_n rfl rfl ?_
  obtain ⟨hz, hF⟩ := zf_g hF
  cases hF
  exact zi_zreturn rfl rfl hz rfl
theorem zF_R_says {X : zkX} {p1 : Int32} {s : zSt} {r} (hF : F_R_says p1 s = some r) : zk_C X 1 m_R_says [.ref 7, .int p1] (zHp s) (fun o => o = zoI r) := by
  unfold F_R_says at hF
  refine zk_enter (lv := [(0, .ref 7), (1, .int p1)]) rfl rfl ?_
  refine zi_aload_n rfl rfl ?_
  refine zi_iload_n rfl rfl ?_
  refine zi_ifeq rfl (fun hc => ?_) (fun hc => ?_)
  · have hF := zf_p hc hF
    refine zi_iconst (v := (1 : Int32)) rfl rfl ?_
    exact zk_sb (zJ_R_says_10   _ _ _ _ hF) rfl ⟨rfl, trivial⟩
  · have hF := zf_n hc hF
    refine zi_iconst (v := (0 : Int32)) rfl rfl ?_
    refine zi_goto rfl ?_
    exact zk_sb (zJ_R_says_10   _ _ _ _ hF) rfl ⟨rfl, trivial⟩
/-! m_R_add -/
def F_R_add_51 (x1 : Int32) (x2 : Int64) (x4 : Int32) (x5 : Int32) (x6 : Int64) (x8 : Int32) (y0 : Int32) (s : zSt) : Option (Int32 × zSt) := (if zin x8 8400 then (if zin x8 8400 then (if zin x8 8400 then (if zin x8 8400 then (if zin x8 8400 then (if zin x8 8400 then (if zin x8 8400 then (if zin x8 8400 then some (x8, (sI (sA (sA (sB (sA (sA (sA (sB (sA (sI s 15 y0) 5 (upd (gA (sI s 15 y0) 5) (x8).toNatClampNeg x1)) 1 (vp_updL (gB (sA (sI s 15 y0) 5 (upd (gA (sI s 15 y0) 5) (x8).toNatClampNeg x1)) 1) (x8).toNatClampNeg x2)) 6 (upd (gA (sB (sA (sI s 15 y0) 5 (upd (gA (sI s 15 y0) 5) (x8).toNatClampNeg x1)) 1 (vp_updL (gB (sA (sI s 15 y0) 5 (upd (gA (sI s 15 y0) 5) (x8).toNatClampNeg x1)) 1) (x8).toNatClampNeg x2)) 6) (x8).toNatClampNeg (gI (sB (sA (sI s 15 y0) 5 (upd (gA (sI s 15 y0) 5) (x8).toNatClampNeg x1)) 1 (vp_updL (gB (sA (sI s 15 y0) 5 (upd (gA (sI s 15 y0) 5) (x8).toNatClampNeg x1)) 1) (x8).toNatClampNeg x2)) 16))) 7 (upd (gA (sA (sB (sA (sI s 15 y0) 5 (upd (gA (sI s 15 y0) 5) (x8).toNatClampNeg x1)) 1 (vp_updL (gB (sA (sI s 15 y0) 5 (upd (gA (sI s 15 y0) 5) (x8).toNatClampNeg x1)) 1) (x8).toNatClampNeg x2)) 6 (upd (gA (sB (sA (sI s 15 y0) 5 (upd (gA (sI s 15 y0) 5) (x8).toNatClampNeg x1)) 1 (vp_updL (gB (sA (sI s 15 y0) 5 (upd (gA (sI s 15 y0) 5) (x8).toNatClampNeg x1)) 1) (x8).toNatClampNeg x2)) 6) (x8).toNatClampNeg (gI (sB (sA (sI s 15 y0) 5 (upd (gA (sI s 15 y0) 5) (x8).toNatClampNeg x1)) 1 (vp_updL (gB (sA (sI s 15 y0) 5 (upd (gA (sI s 15 y0) 5) (x8).toNatClampNeg x1)) 1) (x8).toNatClampNeg x2)) 16))) 7) (x8).toNatClampNeg x4)) 8 (upd (gA (sA (sA (sB (sA (sI s 15 y0) 5 (upd (gA (sI s 15 y0) 5) (x8).toNatClampNeg x1)) 1 (vp_updL (gB (sA (sI s 15 y0) 5 (upd (gA (sI s 15 y0) 5) (x8).toNatClampNeg x1)) 1) (x8).toNatClampNeg x2)) 6 (upd (gA (sB (sA (sI s 15 y0) 5 (upd (gA (sI s 15 y0) 5) (x8).toNatClampNeg x1)) 1 (vp_updL (gB (sA (sI s 15 y0) 5 (upd (gA (sI s 15 y0) 5) (x8).toNatClampNeg x1)) 1) (x8).toNatClampNeg x2)) 6) (x8).toNatClampNeg (gI (sB (sA (sI s 15 y0) 5 (upd (gA (sI s 15 y0) 5) (x8).toNatClampNeg x1)) 1 (vp_updL (gB (sA (sI s 15 y0) 5 (upd (gA (sI s 15 y0) 5) (x8).toNatClampNeg x1)) 1) (x8).toNatClampNeg x2)) 16))) 7 (upd (gA (sA (sB (sA (sI s 15 y0) 5 (upd (gA (sI s 15 y0) 5) (x8).toNatClampNeg x1)) 1 (vp_updL (gB (sA (sI s 15 y0) 5 (upd (gA (sI s 15 y0) 5) (x8).toNatClampNeg x1)) 1) (x8).toNatClampNeg x2)) 6 (upd (gA (sB (sA (sI s 15 y0) 5 (upd (gA (sI s 15 y0) 5) (x8).toNatClampNeg x1)) 1 (vp_updL (gB (sA (sI s 15 y0) 5 (upd (gA (sI s 15 y0) 5) (x8).toNatClampNeg x1)) 1) (x8).toNatClampNeg x2)) 6) (x8).toNatClampNeg (gI (sB (sA (sI s 15 y0) 5 (upd (gA (sI s 15 y0) 5) (x8).toNatClampNeg x1)) 1 (vp_updL (gB (sA (sI s 15 y0) 5 (upd (gA (sI s 15 y0) 5) (x8).toNatClampNeg x1)) 1) (x8).toNatClampNeg x2)) 16))) 7) (x8).toNatClampNeg x4)) 8) (x8).toNatClampNeg x5)) 2 (vp_updL (gB (sA (sA (sA (sB (sA (sI s 15 y0) 5 (upd (gA (sI s 15 y0) 5) (x8).toNatClampNeg x1)) 1 (vp_updL (gB (sA (sI s 15 y0) 5 (upd (gA (sI s 15 y0) 5) (x8).toNatClampNeg x1)) 1) (x8).toNatClampNeg x2)) 6 (upd (gA (sB (sA (sI s 15 y0) 5 (upd (gA (sI s 15 y0) 5) (x8).toNatClampNeg x1)) 1 (vp_updL (gB (sA (sI s 15 y0) 5 (upd (gA (sI s 15 y0) 5) (x8).toNatClampNeg x1)) 1) (x8).toNatClampNeg x2)) 6) (x8).toNatClampNeg (gI (sB (sA (sI s 15 y0) 5 (upd (gA (sI s 15 y0) 5) (x8).toNatClampNeg x1)) 1 (vp_updL (gB (sA (sI s 15 y0) 5 (upd (gA (sI s 15 y0) 5) (x8).toNatClampNeg x1)) 1) (x8).toNatClampNeg x2)) 16))) 7 (upd (gA (sA (sB (sA (sI s 15 y0) 5 (upd (gA (sI s 15 y0) 5) (x8).toNatClampNeg x1)) 1 (vp_updL (gB (sA (sI s 15 y0) 5 (upd (gA (sI s 15 y0) 5) (x8).toNatClampNeg x1)) 1) (x8).toNatClampNeg x2)) 6 (upd (gA (sB (sA (sI s 15 y0) 5 (upd (gA (sI s 15 y0) 5) (x8).toNatClampNeg x1)) 1 (vp_updL (gB (sA (sI s 15 y0) 5 (upd (gA (sI s 15 y0) 5) (x8).toNatClampNeg x1)) 1) (x8).toNatClampNeg x2)) 6) (x8).toNatClampNeg (gI (sB (sA (sI s 15 y0) 5 (upd (gA (sI s 15 y0) 5) (x8).toNatClampNeg x1)) 1 (vp_updL (gB (sA (sI s 15 y0) 5 (upd (gA (sI s 15 y0) 5) (x8).toNatClampNeg x1)) 1) (x8).toNatClampNeg x2)) 16))) 7) (x8).toNatClampNeg x4)) 8 (upd (gA (sA (sA (sB (sA (sI s 15 y0) 5 (upd (gA (sI s 15 y0) 5) (x8).toNatClampNeg x1)) 1 (vp_updL (gB (sA (sI s 15 y0) 5 (upd (gA (sI s 15 y0) 5) (x8).toNatClampNeg x1)) 1) (x8).toNatClampNeg x2)) 6 (upd (gA (sB (sA (sI s 15 y0) 5 (upd (gA (sI s 15 y0) 5) (x8).toNatClampNeg x1)) 1 (vp_updL (gB (sA (sI s 15 y0) 5 (upd (gA (sI s 15 y0) 5) (x8).toNatClampNeg x1)) 1) (x8).toNatClampNeg x2)) 6) (x8).toNatClampNeg (gI (sB (sA (sI s 15 y0) 5 (upd (gA (sI s 15 y0) 5) (x8).toNatClampNeg x1)) 1 (vp_updL (gB (sA (sI s 15 y0) 5 (upd (gA (sI s 15 y0) 5) (x8).toNatClampNeg x1)) 1) (x8).toNatClampNeg x2)) 16))) 7 (upd (gA (sA (sB (sA (sI s 15 y0) 5 (upd (gA (sI s 15 y0) 5) (x8).toNatClampNeg x1)) 1 (vp_updL (gB (sA (sI s 15 y0) 5 (upd (gA (sI s 15 y0) 5) (x8).toNatClampNeg x1)) 1) (x8).toNatClampNeg x2)) 6 (upd (gA (sB (sA (sI s 15 y0) 5 (upd (gA (sI s 15 y0) 5) (x8).toNatClampNeg x1)) 1 (vp_updL (gB (sA (sI s 15 y0) 5 (upd (gA (sI s 15 y0) 5) (x8).toNatClampNeg x1)) 1) (x8).toNatClampNeg x2)) 6) (x8).toNatClampNeg (gI (sB (sA (sI s 15 y0) 5 (upd (gA (sI s 15 y0) 5) (x8).toNatClampNeg x1)) 1 (vp_updL (gB (sA (sI s 15 y0) 5 (upd (gA (sI s 15 y0) 5) (x8).toNatClampNeg x1)) 1) (x8).toNatClampNeg x2)) 16))) 7) (x8).toNatClampNeg x4)) 8) (x8).toNatClampNeg x5)) 2) (x8).toNatClampNeg x6)) 9 (upd (gA (sB (sA (sA (sA (sB (sA (sI s 15 y0) 5 (upd (gA (sI s 15 y0) 5) (x8).toNatClampNeg x1)) 1 (vp_updL (gB (sA (sI s 15 y0) 5 (upd (gA (sI s 15 y0) 5) (x8).toNatClampNeg x1)) 1) (x8).toNatClampNeg x2)) 6 (upd (gA (sB (sA (sI s 15 y0) 5 (upd (gA (sI s 15 y0) 5) (x8).toNatClampNeg x1)) 1 (vp_updL (gB (sA (sI s 15 y0) 5 (upd (gA (sI s 15 y0) 5) (x8).toNatClampNeg x1)) 1) (x8).toNatClampNeg x2)) 6) (x8).toNatClampNeg (gI (sB (sA (sI s 15 y0) 5 (upd (gA (sI s 15 y0) 5) (x8).toNatClampNeg x1)) 1 (vp_updL (gB (sA (sI s 15 y0) 5 (upd (gA (sI s 15 y0) 5) (x8).toNatClampNeg x1)) 1) (x8).toNatClampNeg x2)) 16))) 7 (upd (gA (sA (sB (sA (sI s 15 y0) 5 (upd (gA (sI s 15 y0) 5) (x8).toNatClampNeg x1)) 1 (vp_updL (gB (sA (sI s 15 y0) 5 (upd (gA (sI s 15 y0) 5) (x8).toNatClampNeg x1)) 1) (x8).toNatClampNeg x2)) 6 (upd (gA (sB (sA (sI s 15 y0) 5 (upd (gA (sI s 15 y0) 5) (x8).toNatClampNeg x1)) 1 (vp_updL (gB (sA (sI s 15 y0) 5 (upd (gA (sI s 15 y0) 5) (x8).toNatClampNeg x1)) 1) (x8).toNatClampNeg x2)) 6) (x8).toNatClampNeg (gI (sB (sA (sI s 15 y0) 5 (upd (gA (sI s 15 y0) 5) (x8).toNatClampNeg x1)) 1 (vp_updL (gB (sA (sI s 15 y0) 5 (upd (gA (sI s 15 y0) 5) (x8).toNatClampNeg x1)) 1) (x8).toNatClampNeg x2)) 16))) 7) (x8).toNatClampNeg x4)) 8 (upd (gA (sA (sA (sB (sA (sI s 15 y0) 5 (upd (gA (sI s 15 y0) 5) (x8).toNatClampNeg x1)) 1 (vp_updL (gB (sA (sI s 15 y0) 5 (upd (gA (sI s 15 y0) 5) (x8).toNatClampNeg x1)) 1) (x8).toNatClampNeg x2)) 6 (upd (gA (sB (sA (sI s 15 y0) 5 (upd (gA (sI s 15 y0) 5) (x8).toNatClampNeg x1)) 1 (vp_updL (gB (sA (sI s 15 y0) 5 (upd (gA (sI s 15 y0) 5) (x8).toNatClampNeg x1)) 1) (x8).toNatClampNeg x2)) 6) (x8).toNatClampNeg (gI (sB (sA (sI s 15 y0) 5 (upd (gA (sI s 15 y0) 5) (x8).toNatClampNeg x1)) 1 (vp_updL (gB (sA (sI s 15 y0) 5 (upd (gA (sI s 15 y0) 5) (x8).toNatClampNeg x1)) 1) (x8).toNatClampNeg x2)) 16))) 7 (upd (gA (sA (sB (sA (sI s 15 y0) 5 (upd (gA (sI s 15 y0) 5) (x8).toNatClampNeg x1)) 1 (vp_updL (gB (sA (sI s 15 y0) 5 (upd (gA (sI s 15 y0) 5) (x8).toNatClampNeg x1)) 1) (x8).toNatClampNeg x2)) 6 (upd (gA (sB (sA (sI s 15 y0) 5 (upd (gA (sI s 15 y0) 5) (x8).toNatClampNeg x1)) 1 (vp_updL (gB (sA (sI s 15 y0) 5 (upd (gA (sI s 15 y0) 5) (x8).toNatClampNeg x1)) 1) (x8).toNatClampNeg x2)) 6) (x8).toNatClampNeg (gI (sB (sA (sI s 15 y0) 5 (upd (gA (sI s 15 y0) 5) (x8).toNatClampNeg x1)) 1 (vp_updL (gB (sA (sI s 15 y0) 5 (upd (gA (sI s 15 y0) 5) (x8).toNatClampNeg x1)) 1) (x8).toNatClampNeg x2)) 16))) 7) (x8).toNatClampNeg x4)) 8) (x8).toNatClampNeg x5)) 2 (vp_updL (gB (sA (sA (sA (sB (sA (sI s 15 y0) 5 (upd (gA (sI s 15 y0) 5) (x8).toNatClampNeg x1)) 1 (vp_updL (gB (sA (sI s 15 y0) 5 (upd (gA (sI s 15 y0) 5) (x8).toNatClampNeg x1)) 1) (x8).toNatClampNeg x2)) 6 (upd (gA (sB (sA (sI s 15 y0) 5 (upd (gA (sI s 15 y0) 5) (x8).toNatClampNeg x1)) 1 (vp_updL (gB (sA (sI s 15 y0) 5 (upd (gA (sI s 15 y0) 5) (x8).toNatClampNeg x1)) 1) (x8).toNatClampNeg x2)) 6) (x8).toNatClampNeg (gI (sB (sA (sI s 15 y0) 5 (upd (gA (sI s 15 y0) 5) (x8).toNatClampNeg x1)) 1 (vp_updL (gB (sA (sI s 15 y0) 5 (upd (gA (sI s 15 y0) 5) (x8).toNatClampNeg x1)) 1) (x8).toNatClampNeg x2)) 16))) 7 (upd (gA (sA (sB (sA (sI s 15 y0) 5 (upd (gA (sI s 15 y0) 5) (x8).toNatClampNeg x1)) 1 (vp_updL (gB (sA (sI s 15 y0) 5 (upd (gA (sI s 15 y0) 5) (x8).toNatClampNeg x1)) 1) (x8).toNatClampNeg x2)) 6 (upd (gA (sB (sA (sI s 15 y0) 5 (upd (gA (sI s 15 y0) 5) (x8).toNatClampNeg x1)) 1 (vp_updL (gB (sA (sI s 15 y0) 5 (upd (gA (sI s 15 y0) 5) (x8).toNatClampNeg x1)) 1) (x8).toNatClampNeg x2)) 6) (x8).toNatClampNeg (gI (sB (sA (sI s 15 y0) 5 (upd (gA (sI s 15 y0) 5) (x8).toNatClampNeg x1)) 1 (vp_updL (gB (sA (sI s 15 y0) 5 (upd (gA (sI s 15 y0) 5) (x8).toNatClampNeg x1)) 1) (x8).toNatClampNeg x2)) 16))) 7) (x8).toNatClampNeg x4)) 8 (upd (gA (sA (sA (sB (sA (sI s 15 y0) 5 (upd (gA (sI s 15 y0) 5) (x8).toNatClampNeg x1)) 1 (vp_updL (gB (sA (sI s 15 y0) 5 (upd (gA (sI s 15 y0) 5) (x8).toNatClampNeg x1)) 1) (x8).toNatClampNeg x2)) 6 (upd (gA (sB (sA (sI s 15 y0) 5 (upd (gA (sI s 15 y0) 5) (x8).toNatClampNeg x1)) 1 (vp_updL (gB (sA (sI s 15 y0) 5 (upd (gA (sI s 15 y0) 5) (x8).toNatClampNeg x1)) 1) (x8).toNatClampNeg x2)) 6) (x8).toNatClampNeg (gI (sB (sA (sI s 15 y0) 5 (upd (gA (sI s 15 y0) 5) (x8).toNatClampNeg x1)) 1 (vp_updL (gB (sA (sI s 15 y0) 5 (upd (gA (sI s 15 y0) 5) (x8).toNatClampNeg x1)) 1) (x8).toNatClampNeg x2)) 16))) 7 (upd (gA (sA (sB (sA (sI s 15 y0) 5 (upd (gA (sI s 15 y0) 5) (x8).toNatClampNeg x1)) 1 (vp_updL (gB (sA (sI s 15 y0) 5 (upd (gA (sI s 15 y0) 5) (x8).toNatClampNeg x1)) 1) (x8).toNatClampNeg x2)) 6 (upd (gA (sB (sA (sI s 15 y0) 5 (upd (gA (sI s 15 y0) 5) (x8).toNatClampNeg x1)) 1 (vp_updL (gB (sA (sI s 15 y0) 5 (upd (gA (sI s 15 y0) 5) (x8).toNatClampNeg x1)) 1) (x8).toNatClampNeg x2)) 6) (x8).toNatClampNeg (gI (sB (sA (sI s 15 y0) 5 (upd (gA (sI s 15 y0) 5) (x8).toNatClampNeg x1)) 1 (vp_updL (gB (sA (sI s 15 y0) 5 (upd (gA (sI s 15 y0) 5) (x8).toNatClampNeg x1)) 1) (x8).toNatClampNeg x2)) 16))) 7) (x8).toNatClampNeg x4)) 8) (x8).toNatClampNeg x5)) 2) (x8).toNatClampNeg x6)) 9) (x8).toNatClampNeg (0 : Int32))) 10 (upd (gA (sA (sB (sA (sA (sA (sB (sA (sI s 15 y0) 5 (upd (gA (sI s 15 y0) 5) (x8).toNatClampNeg x1)) 1 (vp_updL (gB (sA (sI s 15 y0) 5 (upd (gA (sI s 15 y0) 5) (x8).toNatClampNeg x1)) 1) (x8).toNatClampNeg x2)) 6 (upd (gA (sB (sA (sI s 15 y0) 5 (upd (gA (sI s 15 y0) 5) (x8).toNatClampNeg x1)) 1 (vp_updL (gB (sA (sI s 15 y0) 5 (upd (gA (sI s 15 y0) 5) (x8).toNatClampNeg x1)) 1) (x8).toNatClampNeg x2)) 6) (x8).toNatClampNeg (gI (sB (sA (sI s 15 y0) 5 (upd (gA (sI s 15 y0) 5) (x8).toNatClampNeg x1)) 1 (vp_updL (gB (sA (sI s 15 y0) 5 (upd (gA (sI s 15 y0) 5) (x8).toNatClampNeg x1)) 1) (x8).toNatClampNeg x2)) 16))) 7 (upd (gA (sA (sB (sA (sI s 15 y0) 5 (upd (gA (sI s 15 y0) 5) (x8).toNatClampNeg x1)) 1 (vp_updL (gB (sA (sI s 15 y0) 5 (upd (gA (sI s 15 y0) 5) (x8).toNatClampNeg x1)) 1) (x8).toNatClampNeg x2)) 6 (upd (gA (sB (sA (sI s 15 y0) 5 (upd (gA (sI s 15 y0) 5) (x8).toNatClampNeg x1)) 1 (vp_updL (gB (sA (sI s 15 y0) 5 (upd (gA (sI s 15 y0) 5) (x8).toNatClampNeg x1)) 1) (x8).toNatClampNeg x2)) 6) (x8).toNatClampNeg (gI (sB (sA (sI s 15 y0) 5 (upd (gA (sI s 15 y0) 5) (x8).toNatClampNeg x1)) 1 (vp_updL (gB (sA (sI s 15 y0) 5 (upd (gA (sI s 15 y0) 5) (x8).toNatClampNeg x1)) 1) (x8).toNatClampNeg x2)) 16))) 7) (x8).toNatClampNeg x4)) 8 (upd (gA (sA (sA (sB (sA (sI s 15 y0) 5 (upd (gA (sI s 15 y0) 5) (x8).toNatClampNeg x1)) 1 (vp_updL (gB (sA (sI s 15 y0) 5 (upd (gA (sI s 15 y0) 5) (x8).toNatClampNeg x1)) 1) (x8).toNatClampNeg x2)) 6 (upd (gA (sB (sA (sI s 15 y0) 5 (upd (gA (sI s 15 y0) 5) (x8).toNatClampNeg x1)) 1 (vp_updL (gB (sA (sI s 15 y0) 5 (upd (gA (sI s 15 y0) 5) (x8).toNatClampNeg x1)) 1) (x8).toNatClampNeg x2)) 6) (x8).toNatClampNeg (gI (sB (sA (sI s 15 y0) 5 (upd (gA (sI s 15 y0) 5) (x8).toNatClampNeg x1)) 1 (vp_updL (gB (sA (sI s 15 y0) 5 (upd (gA (sI s 15 y0) 5) (x8).toNatClampNeg x1)) 1) (x8).toNatClampNeg x2)) 16))) 7 (upd (gA (sA (sB (sA (sI s 15 y0) 5 (upd (gA (sI s 15 y0) 5) (x8).toNatClampNeg x1)) 1 (vp_updL (gB (sA (sI s 15 y0) 5 (upd (gA (sI s 15 y0) 5) (x8).toNatClampNeg x1)) 1) (x8).toNatClampNeg x2)) 6 (upd (gA (sB (sA (sI s 15 y0) 5 (upd (gA (sI s 15 y0) 5) (x8).toNatClampNeg x1)) 1 (vp_updL (gB (sA (sI s 15 y0) 5 (upd (gA (sI s 15 y0) 5) (x8).toNatClampNeg x1)) 1) (x8).toNatClampNeg x2)) 6) (x8).toNatClampNeg (gI (sB (sA (sI s 15 y0) 5 (upd (gA (sI s 15 y0) 5) (x8).toNatClampNeg x1)) 1 (vp_updL (gB (sA (sI s 15 y0) 5 (upd (gA (sI s 15 y0) 5) (x8).toNatClampNeg x1)) 1) (x8).toNatClampNeg x2)) 16))) 7) (x8).toNatClampNeg x4)) 8) (x8).toNatClampNeg x5)) 2 (vp_updL (gB (sA (sA (sA (sB (sA (sI s 15 y0) 5 (upd (gA (sI s 15 y0) 5) (x8).toNatClampNeg x1)) 1 (vp_updL (gB (sA (sI s 15 y0) 5 (upd (gA (sI s 15 y0) 5) (x8).toNatClampNeg x1)) 1) (x8).toNatClampNeg x2)) 6 (upd (gA (sB (sA (sI s 15 y0) 5 (upd (gA (sI s 15 y0) 5) (x8).toNatClampNeg x1)) 1 (vp_updL (gB (sA (sI s 15 y0) 5 (upd (gA (sI s 15 y0) 5) (x8).toNatClampNeg x1)) 1) (x8).toNatClampNeg x2)) 6) (x8).toNatClampNeg (gI (sB (sA (sI s 15 y0) 5 (upd (gA (sI s 15 y0) 5) (x8).toNatClampNeg x1)) 1 (vp_updL (gB (sA (sI s 15 y0) 5 (upd (gA (sI s 15 y0) 5) (x8).toNatClampNeg x1)) 1) (x8).toNatClampNeg x2)) 16))) 7 (upd (gA (sA (sB (sA (sI s 15 y0) 5 (upd (gA (sI s 15 y0) 5) (x8).toNatClampNeg x1)) 1 (vp_updL (gB (sA (sI s 15 y0) 5 (upd (gA (sI s 15 y0) 5) (x8).toNatClampNeg x1)) 1) (x8).toNatClampNeg x2)) 6 (upd (gA (sB (sA (sI s 15 y0) 5 (upd (gA (sI s 15 y0) 5) (x8).toNatClampNeg x1)) 1 (vp_updL (gB (sA (sI s 15 y0) 5 (upd (gA (sI s 15 y0) 5) (x8).toNatClampNeg x1)) 1) (x8).toNatClampNeg x2)) 6) (x8).toNatClampNeg (gI (sB (sA (sI s 15 y0) 5 (upd (gA (sI s 15 y0) 5) (x8).toNatClampNeg x1)) 1 (vp_updL (gB (sA (sI s 15 y0) 5 (upd (gA (sI s 15 y0) 5) (x8).toNatClampNeg x1)) 1) (x8).toNatClampNeg x2)) 16))) 7) (x8).toNatClampNeg x4)) 8 (upd (gA (sA (sA (sB (sA (sI s 15 y0) 5 (upd (gA (sI s 15 y0) 5) (x8).toNatClampNeg x1)) 1 (vp_updL (gB (sA (sI s 15 y0) 5 (upd (gA (sI s 15 y0) 5) (x8).toNatClampNeg x1)) 1) (x8).toNatClampNeg x2)) 6 (upd (gA (sB (sA (sI s 15 y0) 5 (upd (gA (sI s 15 y0) 5) (x8).toNatClampNeg x1)) 1 (vp_updL (gB (sA (sI s 15 y0) 5 (upd (gA (sI s 15 y0) 5) (x8).toNatClampNeg x1)) 1) (x8).toNatClampNeg x2)) 6) (x8).toNatClampNeg (gI (sB (sA (sI s 15 y0) 5 (upd (gA (sI s 15 y0) 5) (x8).toNatClampNeg x1)) 1 (vp_updL (gB (sA (sI s 15 y0) 5 (upd (gA (sI s 15 y0) 5) (x8).toNatClampNeg x1)) 1) (x8).toNatClampNeg x2)) 16))) 7 (upd (gA (sA (sB (sA (sI s 15 y0) 5 (upd (gA (sI s 15 y0) 5) (x8).toNatClampNeg x1)) 1 (vp_updL (gB (sA (sI s 15 y0) 5 (upd (gA (sI s 15 y0) 5) (x8).toNatClampNeg x1)) 1) (x8).toNatClampNeg x2)) 6 (upd (gA (sB (sA (sI s 15 y0) 5 (upd (gA (sI s 15 y0) 5) (x8).toNatClampNeg x1)) 1 (vp_updL (gB (sA (sI s 15 y0) 5 (upd (gA (sI s 15 y0) 5) (x8).toNatClampNeg x1)) 1) (x8).toNatClampNeg x2)) 6) (x8).toNatClampNeg (gI (sB (sA (sI s 15 y0) 5 (upd (gA (sI s 15 y0) 5) (x8).toNatClampNeg x1)) 1 (vp_updL (gB (sA (sI s 15 y0) 5 (upd (gA (sI s 15 y0) 5) (x8).toNatClampNeg x1)) 1) (x8).toNatClampNeg x2)) 16))) 7) (x8).toNatClampNeg x4)) 8) (x8).toNatClampNeg x5)) 2) (x8).toNatClampNeg x6)) 9 (upd (gA (sB (sA (sA (sA (sB (sA (sI s 15 y0) 5 (upd (gA (sI s 15 y0) 5) (x8).toNatClampNeg x1)) 1 (vp_updL (gB (sA (sI s 15 y0) 5 (upd (gA (sI s 15 y0) 5) (x8).toNatClampNeg x1)) 1) (x8).toNatClampNeg x2)) 6 (upd (gA (sB (sA (sI s 15 y0) 5 (upd (gA (sI s 15 y0) 5) (x8).toNatClampNeg x1)) 1 (vp_updL (gB (sA (sI s 15 y0) 5 (upd (gA (sI s 15 y0) 5) (x8).toNatClampNeg x1)) 1) (x8).toNatClampNeg x2)) 6) (x8).toNatClampNeg (gI (sB (sA (sI s 15 y0) 5 (upd (gA (sI s 15 y0) 5) (x8).toNatClampNeg x1)) 1 (vp_updL (gB (sA (sI s 15 y0) 5 (upd (gA (sI s 15 y0) 5) (x8).toNatClampNeg x1)) 1) (x8).toNatClampNeg x2)) 16))) 7 (upd (gA (sA (sB (sA (sI s 15 y0) 5 (upd (gA (sI s 15 y0) 5) (x8).toNatClampNeg x1)) 1 (vp_updL (gB (sA (sI s 15 y0) 5 (upd (gA (sI s 15 y0) 5) (x8).toNatClampNeg x1)) 1) (x8).toNatClampNeg x2)) 6 (upd (gA (sB (sA (sI s 15 y0) 5 (upd (gA (sI s 15 y0) 5) (x8).toNatClampNeg x1)) 1 (vp_updL (gB (sA (sI s 15 y0) 5 (upd (gA (sI s 15 y0) 5) (x8).toNatClampNeg x1)) 1) (x8).toNatClampNeg x2)) 6) (x8).toNatClampNeg (gI (sB (sA (sI s 15 y0) 5 (upd (gA (sI s 15 y0) 5) (x8).toNatClampNeg x1)) 1 (vp_updL (gB (sA (sI s 15 y0) 5 (upd (gA (sI s 15 y0) 5) (x8).toNatClampNeg x1)) 1) (x8).toNatClampNeg x2)) 16))) 7) (x8).toNatClampNeg x4)) 8 (upd (gA (sA (sA (sB (sA (sI s 15 y0) 5 (upd (gA (sI s 15 y0) 5) (x8).toNatClampNeg x1)) 1 (vp_updL (gB (sA (sI s 15 y0) 5 (upd (gA (sI s 15 y0) 5) (x8).toNatClampNeg x1)) 1) (x8).toNatClampNeg x2)) 6 (upd (gA (sB (sA (sI s 15 y0) 5 (upd (gA (sI s 15 y0) 5) (x8).toNatClampNeg x1)) 1 (vp_updL (gB (sA (sI s 15 y0) 5 (upd (gA (sI s 15 y0) 5) (x8).toNatClampNeg x1)) 1) (x8).toNatClampNeg x2)) 6) (x8).toNatClampNeg (gI (sB (sA (sI s 15 y0) 5 (upd (gA (sI s 15 y0) 5) (x8).toNatClampNeg x1)) 1 (vp_updL (gB (sA (sI s 15 y0) 5 (upd (gA (sI s 15 y0) 5) (x8).toNatClampNeg x1)) 1) (x8).toNatClampNeg x2)) 16))) 7 (upd (gA (sA (sB (sA (sI s 15 y0) 5 (upd (gA (sI s 15 y0) 5) (x8).toNatClampNeg x1)) 1 (vp_updL (gB (sA (sI s 15 y0) 5 (upd (gA (sI s 15 y0) 5) (x8).toNatClampNeg x1)) 1) (x8).toNatClampNeg x2)) 6 (upd (gA (sB (sA (sI s 15 y0) 5 (upd (gA (sI s 15 y0) 5) (x8).toNatClampNeg x1)) 1 (vp_updL (gB (sA (sI s 15 y0) 5 (upd (gA (sI s 15 y0) 5) (x8).toNatClampNeg x1)) 1) (x8).toNatClampNeg x2)) 6) (x8).toNatClampNeg (gI (sB (sA (sI s 15 y0) 5 (upd (gA (sI s 15 y0) 5) (x8).toNatClampNeg x1)) 1 (vp_updL (gB (sA (sI s 15 y0) 5 (upd (gA (sI s 15 y0) 5) (x8).toNatClampNeg x1)) 1) (x8).toNatClampNeg x2)) 16))) 7) (x8).toNatClampNeg x4)) 8) (x8).toNatClampNeg x5)) 2 (vp_updL (gB (sA (sA (sA (sB (sA (sI s 15 y0) 5 (upd (gA (sI s 15 y0) 5) (x8).toNatClampNeg x1)) 1 (vp_updL (gB (sA (sI s 15 y0) 5 (upd (gA (sI s 15 y0) 5) (x8).toNatClampNeg x1)) 1) (x8).toNatClampNeg x2)) 6 (upd (gA (sB (sA (sI s 15 y0) 5 (upd (gA (sI s 15 y0) 5) (x8).toNatClampNeg x1)) 1 (vp_updL (gB (sA (sI s 15 y0) 5 (upd (gA (sI s 15 y0) 5) (x8).toNatClampNeg x1)) 1) (x8).toNatClampNeg x2)) 6) (x8).toNatClampNeg (gI (sB (sA (sI s 15 y0) 5 (upd (gA (sI s 15 y0) 5) (x8).toNatClampNeg x1)) 1 (vp_updL (gB (sA (sI s 15 y0) 5 (upd (gA (sI s 15 y0) 5) (x8).toNatClampNeg x1)) 1) (x8).toNatClampNeg x2)) 16))) 7 (upd (gA (sA (sB (sA (sI s 15 y0) 5 (upd (gA (sI s 15 y0) 5) (x8).toNatClampNeg x1)) 1 (vp_updL (gB (sA (sI s 15 y0) 5 (upd (gA (sI s 15 y0) 5) (x8).toNatClampNeg x1)) 1) (x8).toNatClampNeg x2)) 6 (upd (gA (sB (sA (sI s 15 y0) 5 (upd (gA (sI s 15 y0) 5) (x8).toNatClampNeg x1)) 1 (vp_updL (gB (sA (sI s 15 y0) 5 (upd (gA (sI s 15 y0) 5) (x8).toNatClampNeg x1)) 1) (x8).toNatClampNeg x2)) 6) (x8).toNatClampNeg (gI (sB (sA (sI s 15 y0) 5 (upd (gA (sI s 15 y0) 5) (x8).toNatClampNeg x1)) 1 (vp_updL (gB (sA (sI s 15 y0) 5 (upd (gA (sI s 15 y0) 5) (x8).toNatClampNeg x1)) 1) (x8).toNatClampNeg x2)) 16))) 7) (x8).toNatClampNeg x4)) 8 (upd (gA (sA (sA (sB (sA (sI s 15 y0) 5 (upd (gA (sI s 15 y0) 5) (x8).toNatClampNeg x1)) 1 (vp_updL (gB (sA (sI s 15 y0) 5 (upd (gA (sI s 15 y0) 5) (x8).toNatClampNeg x1)) 1) (x8).toNatClampNeg x2)) 6 (upd (gA (sB (sA (sI s 15 y0) 5 (upd (gA (sI s 15 y0) 5) (x8).toNatClampNeg x1)) 1 (vp_updL (gB (sA (sI s 15 y0) 5 (upd (gA (sI s 15 y0) 5) (x8).toNatClampNeg x1)) 1) (x8).toNatClampNeg x2)) 6) (x8).toNatClampNeg (gI (sB (sA (sI s 15 y0) 5 (upd (gA (sI s 15 y0) 5) (x8).toNatClampNeg x1)) 1 (vp_updL (gB (sA (sI s 15 y0) 5 (upd (gA (sI s 15 y0) 5) (x8).toNatClampNeg x1)) 1) (x8).toNatClampNeg x2)) 16))) 7 (upd (gA (sA (sB (sA (sI s 15 y0) 5 (upd (gA (sI s 15 y0) 5) (x8).toNatClampNeg x1)) 1 (vp_updL (gB (sA (sI s 15 y0) 5 (upd (gA (sI s 15 y0) 5) (x8).toNatClampNeg x1)) 1) (x8).toNatClampNeg x2)) 6 (upd (gA (sB (sA (sI s 15 y0) 5 (upd (gA (sI s 15 y0) 5) (x8).toNatClampNeg x1)) 1 (vp_updL (gB (sA (sI s 15 y0) 5 (upd (gA (sI s 15 y0) 5) (x8).toNatClampNeg x1)) 1) (x8).toNatClampNeg x2)) 6) (x8).toNatClampNeg (gI (sB (sA (sI s 15 y0) 5 (upd (gA (sI s 15 y0) 5) (x8).toNatClampNeg x1)) 1 (vp_updL (gB (sA (sI s 15 y0) 5 (upd (gA (sI s 15 y0) 5) (x8).toNatClampNeg x1)) 1) (x8).toNatClampNeg x2)) 16))) 7) (x8).toNatClampNeg x4)) 8) (x8).toNatClampNeg x5)) 2) (x8).toNatClampNeg x6)) 9) (x8).toNatClampNeg (0 : Int32))) 10) (x8).toNatClampNeg (0 : Int32))) 16 ((gI (sA (sA (sB (sA (sA (sA (sB (sA (sI s 15 y0) 5 (upd (gA (sI s 15 y0) 5) (x8).toNatClampNeg x1)) 1 (vp_updL (gB (sA (sI s 15 y0) 5 (upd (gA (sI s 15 y0) 5) (x8).toNatClampNeg x1)) 1) (x8).toNatClampNeg x2)) 6 (upd (gA (sB (sA (sI s 15 y0) 5 (upd (gA (sI s 15 y0) 5) (x8).toNatClampNeg x1)) 1 (vp_updL (gB (sA (sI s 15 y0) 5 (upd (gA (sI s 15 y0) 5) (x8).toNatClampNeg x1)) 1) (x8).toNatClampNeg x2)) 6) (x8).toNatClampNeg (gI (sB (sA (sI s 15 y0) 5 (upd (gA (sI s 15 y0) 5) (x8).toNatClampNeg x1)) 1 (vp_updL (gB (sA (sI s 15 y0) 5 (upd (gA (sI s 15 y0) 5) (x8).toNatClampNeg x1)) 1) (x8).toNatClampNeg x2)) 16))) 7 (upd (gA (sA (sB (sA (sI s 15 y0) 5 (upd (gA (sI s 15 y0) 5) (x8).toNatClampNeg x1)) 1 (vp_updL (gB (sA (sI s 15 y0) 5 (upd (gA (sI s 15 y0) 5) (x8).toNatClampNeg x1)) 1) (x8).toNatClampNeg x2)) 6 (upd (gA (sB (sA (sI s 15 y0) 5 (upd (gA (sI s 15 y0) 5) (x8).toNatClampNeg x1)) 1 (vp_updL (gB (sA (sI s 15 y0) 5 (upd (gA (sI s 15 y0) 5) (x8).toNatClampNeg x1)) 1) (x8).toNatClampNeg x2)) 6) (x8).toNatClampNeg (gI (sB (sA (sI s 15 y0) 5 (upd (gA (sI s 15 y0) 5) (x8).toNatClampNeg x1)) 1 (vp_updL (gB (sA (sI s 15 y0) 5 (upd (gA (sI s 15 y0) 5) (x8).toNatClampNeg x1)) 1) (x8).toNatClampNeg x2)) 16))) 7) (x8).toNatClampNeg x4)) 8 (upd (gA (sA (sA (sB (sA (sI s 15 y0) 5 (upd (gA (sI s 15 y0) 5) (x8).toNatClampNeg x1)) 1 (vp_updL (gB (sA (sI s 15 y0) 5 (upd (gA (sI s 15 y0) 5) (x8).toNatClampNeg x1)) 1) (x8).toNatClampNeg x2)) 6 (upd (gA (sB (sA (sI s 15 y0) 5 (upd (gA (sI s 15 y0) 5) (x8).toNatClampNeg x1)) 1 (vp_updL (gB (sA (sI s 15 y0) 5 (upd (gA (sI s 15 y0) 5) (x8).toNatClampNeg x1)) 1) (x8).toNatClampNeg x2)) 6) (x8).toNatClampNeg (gI (sB (sA (sI s 15 y0) 5 (upd (gA (sI s 15 y0) 5) (x8).toNatClampNeg x1)) 1 (vp_updL (gB (sA (sI s 15 y0) 5 (upd (gA (sI s 15 y0) 5) (x8).toNatClampNeg x1)) 1) (x8).toNatClampNeg x2)) 16))) 7 (upd (gA (sA (sB (sA (sI s 15 y0) 5 (upd (gA (sI s 15 y0) 5) (x8).toNatClampNeg x1)) 1 (vp_updL (gB (sA (sI s 15 y0) 5 (upd (gA (sI s 15 y0) 5) (x8).toNatClampNeg x1)) 1) (x8).toNatClampNeg x2)) 6 (upd (gA (sB (sA (sI s 15 y0) 5 (upd (gA (sI s 15 y0) 5) (x8).toNatClampNeg x1)) 1 (vp_updL (gB (sA (sI s 15 y0) 5 (upd (gA (sI s 15 y0) 5) (x8).toNatClampNeg x1)) 1) (x8).toNatClampNeg x2)) 6) (x8).toNatClampNeg (gI (sB (sA (sI s 15 y0) 5 (upd (gA (sI s 15 y0) 5) (x8).toNatClampNeg x1)) 1 (vp_updL (gB (sA (sI s 15 y0) 5 (upd (gA (sI s 15 y0) 5) (x8).toNatClampNeg x1)) 1) (x8).toNatClampNeg x2)) 16))) 7) (x8).toNatClampNeg x4)) 8) (x8).toNatClampNeg x5)) 2 (vp_updL (gB (sA (sA (sA (sB (sA (sI s 15 y0) 5 (upd (gA (sI s 15 y0) 5) (x8).toNatClampNeg x1)) 1 (vp_updL (gB (sA (sI s 15 y0) 5 (upd (gA (sI s 15 y0) 5) (x8).toNatClampNeg x1)) 1) (x8).toNatClampNeg x2)) 6 (upd (gA (sB (sA (sI s 15 y0) 5 (upd (gA (sI s 15 y0) 5) (x8).toNatClampNeg x1)) 1 (vp_updL (gB (sA (sI s 15 y0) 5 (upd (gA (sI s 15 y0) 5) (x8).toNatClampNeg x1)) 1) (x8).toNatClampNeg x2)) 6) (x8).toNatClampNeg (gI (sB (sA (sI s 15 y0) 5 (upd (gA (sI s 15 y0) 5) (x8).toNatClampNeg x1)) 1 (vp_updL (gB (sA (sI s 15 y0) 5 (upd (gA (sI s 15 y0) 5) (x8).toNatClampNeg x1)) 1) (x8).toNatClampNeg x2)) 16))) 7 (upd (gA (sA (sB (sA (sI s 15 y0) 5 (upd (gA (sI s 15 y0) 5) (x8).toNatClampNeg x1)) 1 (vp_updL (gB (sA (sI s 15 y0) 5 (upd (gA (sI s 15 y0) 5) (x8).toNatClampNeg x1)) 1) (x8).toNatClampNeg x2)) 6 (upd (gA (sB (sA (sI s 15 y0) 5 (upd (gA (sI s 15 y0) 5) (x8).toNatClampNeg x1)) 1 (vp_updL (gB (sA (sI s 15 y0) 5 (upd (gA (sI s 15 y0) 5) (x8).toNatClampNeg x1)) 1) (x8).toNatClampNeg x2)) 6) (x8).toNatClampNeg (gI (sB (sA (sI s 15 y0) 5 (upd (gA (sI s 15 y0) 5) (x8).toNatClampNeg x1)) 1 (vp_updL (gB (sA (sI s 15 y0) 5 (upd (gA (sI s 15 y0) 5) (x8).toNatClampNeg x1)) 1) (x8).toNatClampNeg x2)) 16))) 7) (x8).toNatClampNeg x4)) 8 (upd (gA (sA (sA (sB (sA (sI s 15 y0) 5 (upd (gA (sI s 15 y0) 5) (x8).toNatClampNeg x1)) 1 (vp_updL (gB (sA (sI s 15 y0) 5 (upd (gA (sI s 15 y0) 5) (x8).toNatClampNeg x1)) 1) (x8).toNatClampNeg x2)) 6 (upd (gA (sB (sA (sI s 15 y0) 5 (upd (gA (sI s 15 y0) 5) (x8).toNatClampNeg x1)) 1 (vp_updL (gB (sA (sI s 15 y0) 5 (upd (gA (sI s 15 y0) 5) (x8).toNatClampNeg x1)) 1) (x8).toNatClampNeg x2)) 6) (x8).toNatClampNeg (gI (sB (sA (sI s 15 y0) 5 (upd (gA (sI s 15 y0) 5) (x8).toNatClampNeg x1)) 1 (vp_updL (gB (sA (sI s 15 y0) 5 (upd (gA (sI s 15 y0) 5) (x8).toNatClampNeg x1)) 1) (x8).toNatClampNeg x2)) 16))) 7 (upd (gA (sA (sB (sA (sI s 15 y0) 5 (upd (gA (sI s 15 y0) 5) (x8).toNatClampNeg x1)) 1 (vp_updL (gB (sA (sI s 15 y0) 5 (upd (gA (sI s 15 y0) 5) (x8).toNatClampNeg x1)) 1) (x8).toNatClampNeg x2)) 6 (upd (gA (sB (sA (sI s 15 y0) 5 (upd (gA (sI s 15 y0) 5) (x8).toNatClampNeg x1)) 1 (vp_updL (gB (sA (sI s 15 y0) 5 (upd (gA (sI s 15 y0) 5) (x8).toNatClampNeg x1)) 1) (x8).toNatClampNeg x2)) 6) (x8).toNatClampNeg (gI (sB (sA (sI s 15 y0) 5 (upd (gA (sI s 15 y0) 5) (x8).toNatClampNeg x1)) 1 (vp_updL (gB (sA (sI s 15 y0) 5 (upd (gA (sI s 15 y0) 5) (x8).toNatClampNeg x1)) 1) (x8).toNatClampNeg x2)) 16))) 7) (x8).toNatClampNeg x4)) 8) (x8).toNatClampNeg x5)) 2) (x8).toNatClampNeg x6)) 9 (upd (gA (sB (sA (sA (sA (sB (sA (sI s 15 y0) 5 (upd (gA (sI s 15 y0) 5) (x8).toNatClampNeg x1)) 1 (vp_updL (gB (sA (sI s 15 y0) 5 (upd (gA (sI s 15 y0) 5) (x8).toNatClampNeg x1)) 1) (x8).toNatClampNeg x2)) 6 (upd (gA (sB (sA (sI s 15 y0) 5 (upd (gA (sI s 15 y0) 5) (x8).toNatClampNeg x1)) 1 (vp_updL (gB (sA (sI s 15 y0) 5 (upd (gA (sI s 15 y0) 5) (x8).toNatClampNeg x1)) 1) (x8).toNatClampNeg x2)) 6) (x8).toNatClampNeg (gI (sB (sA (sI s 15 y0) 5 (upd (gA (sI s 15 y0) 5) (x8).toNatClampNeg x1)) 1 (vp_updL (gB (sA (sI s 15 y0) 5 (upd (gA (sI s 15 y0) 5) (x8).toNatClampNeg x1)) 1) (x8).toNatClampNeg x2)) 16))) 7 (upd (gA (sA (sB (sA (sI s 15 y0) 5 (upd (gA (sI s 15 y0) 5) (x8).toNatClampNeg x1)) 1 (vp_updL (gB (sA (sI s 15 y0) 5 (upd (gA (sI s 15 y0) 5) (x8).toNatClampNeg x1)) 1) (x8).toNatClampNeg x2)) 6 (upd (gA (sB (sA (sI s 15 y0) 5 (upd (gA (sI s 15 y0) 5) (x8).toNatClampNeg x1)) 1 (vp_updL (gB (sA (sI s 15 y0) 5 (upd (gA (sI s 15 y0) 5) (x8).toNatClampNeg x1)) 1) (x8).toNatClampNeg x2)) 6) (x8).toNatClampNeg (gI (sB (sA (sI s 15 y0) 5 (upd (gA (sI s 15 y0) 5) (x8).toNatClampNeg x1)) 1 (vp_updL (gB (sA (sI s 15 y0) 5 (upd (gA (sI s 15 y0) 5) (x8).toNatClampNeg x1)) 1) (x8).toNatClampNeg x2)) 16))) 7) (x8).toNatClampNeg x4)) 8 (upd (gA (sA (sA (sB (sA (sI s 15 y0) 5 (upd (gA (sI s 15 y0) 5) (x8).toNatClampNeg x1)) 1 (vp_updL (gB (sA (sI s 15 y0) 5 (upd (gA (sI s 15 y0) 5) (x8).toNatClampNeg x1)) 1) (x8).toNatClampNeg x2)) 6 (upd (gA (sB (sA (sI s 15 y0) 5 (upd (gA (sI s 15 y0) 5) (x8).toNatClampNeg x1)) 1 (vp_updL (gB (sA (sI s 15 y0) 5 (upd (gA (sI s 15 y0) 5) (x8).toNatClampNeg x1)) 1) (x8).toNatClampNeg x2)) 6) (x8).toNatClampNeg (gI (sB (sA (sI s 15 y0) 5 (upd (gA (sI s 15 y0) 5) (x8).toNatClampNeg x1)) 1 (vp_updL (gB (sA (sI s 15 y0) 5 (upd (gA (sI s 15 y0) 5) (x8).toNatClampNeg x1)) 1) (x8).toNatClampNeg x2)) 16))) 7 (upd (gA (sA (sB (sA (sI s 15 y0) 5 (upd (gA (sI s 15 y0) 5) (x8).toNatClampNeg x1)) 1 (vp_updL (gB (sA (sI s 15 y0) 5 (upd (gA (sI s 15 y0) 5) (x8).toNatClampNeg x1)) 1) (x8).toNatClampNeg x2)) 6 (upd (gA (sB (sA (sI s 15 y0) 5 (upd (gA (sI s 15 y0) 5) (x8).toNatClampNeg x1)) 1 (vp_updL (gB (sA (sI s 15 y0) 5 (upd (gA (sI s 15 y0) 5) (x8).toNatClampNeg x1)) 1) (x8).toNatClampNeg x2)) 6) (x8).toNatClampNeg (gI (sB (sA (sI s 15 y0) 5 (upd (gA (sI s 15 y0) 5) (x8).toNatClampNeg x1)) 1 (vp_updL (gB (sA (sI s 15 y0) 5 (upd (gA (sI s 15 y0) 5) (x8).toNatClampNeg x1)) 1) (x8).toNatClampNeg x2)) 16))) 7) (x8).toNatClampNeg x4)) 8) (x8).toNatClampNeg x5)) 2 (vp_updL (gB (sA (sA (sA (sB (sA (sI s 15 y0) 5 (upd (gA (sI s 15 y0) 5) (x8).toNatClampNeg x1)) 1 (vp_updL (gB (sA (sI s 15 y0) 5 (upd (gA (sI s 15 y0) 5) (x8).toNatClampNeg x1)) 1) (x8).toNatClampNeg x2)) 6 (upd (gA (sB (sA (sI s 15 y0) 5 (upd (gA (sI s 15 y0) 5) (x8).toNatClampNeg x1)) 1 (vp_updL (gB (sA (sI s 15 y0) 5 (upd (gA (sI s 15 y0) 5) (x8).toNatClampNeg x1)) 1) (x8).toNatClampNeg x2)) 6) (x8).toNatClampNeg (gI (sB (sA (sI s 15 y0) 5 (upd (gA (sI s 15 y0) 5) (x8).toNatClampNeg x1)) 1 (vp_updL (gB (sA (sI s 15 y0) 5 (upd (gA (sI s 15 y0) 5) (x8).toNatClampNeg x1)) 1) (x8).toNatClampNeg x2)) 16))) 7 (upd (gA (sA (sB (sA (sI s 15 y0) 5 (upd (gA (sI s 15 y0) 5) (x8).toNatClampNeg x1)) 1 (vp_updL (gB (sA (sI s 15 y0) 5 (upd (gA (sI s 15 y0) 5) (x8).toNatClampNeg x1)) 1) (x8).toNatClampNeg x2)) 6 (upd (gA (sB (sA (sI s 15 y0) 5 (upd (gA (sI s 15 y0) 5) (x8).toNatClampNeg x1)) 1 (vp_updL (gB (sA (sI s 15 y0) 5 (upd (gA (sI s 15 y0) 5) (x8).toNatClampNeg x1)) 1) (x8).toNatClampNeg x2)) 6) (x8).toNatClampNeg (gI (sB (sA (sI s 15 y0) 5 (upd (gA (sI s 15 y0) 5) (x8).toNatClampNeg x1)) 1 (vp_updL (gB (sA (sI s 15 y0) 5 (upd (gA (sI s 15 y0) 5) (x8).toNatClampNeg x1)) 1) (x8).toNatClampNeg x2)) 16))) 7) (x8).toNatClampNeg x4)) 8 (upd (gA (sA (sA (sB (sA (sI s 15 y0) 5 (upd (gA (sI s 15 y0) 5) (x8).toNatClampNeg x1)) 1 (vp_updL (gB (sA (sI s 15 y0) 5 (upd (gA (sI s 15 y0) 5) (x8).toNatClampNeg x1)) 1) (x8).toNatClampNeg x2)) 6 (upd (gA (sB (sA (sI s 15 y0) 5 (upd (gA (sI s 15 y0) 5) (x8).toNatClampNeg x1)) 1 (vp_updL (gB (sA (sI s 15 y0) 5 (upd (gA (sI s 15 y0) 5) (x8).toNatClampNeg x1)) 1) (x8).toNatClampNeg x2)) 6) (x8).toNatClampNeg (gI (sB (sA (sI s 15 y0) 5 (upd (gA (sI s 15 y0) 5) (x8).toNatClampNeg x1)) 1 (vp_updL (gB (sA (sI s 15 y0) 5 (upd (gA (sI s 15 y0) 5) (x8).toNatClampNeg x1)) 1) (x8).toNatClampNeg x2)) 16))) 7 (upd (gA (sA (sB (sA (sI s 15 y0) 5 (upd (gA (sI s 15 y0) 5) (x8).toNatClampNeg x1)) 1 (vp_updL (gB (sA (sI s 15 y0) 5 (upd (gA (sI s 15 y0) 5) (x8).toNatClampNeg x1)) 1) (x8).toNatClampNeg x2)) 6 (upd (gA (sB (sA (sI s 15 y0) 5 (upd (gA (sI s 15 y0) 5) (x8).toNatClampNeg x1)) 1 (vp_updL (gB (sA (sI s 15 y0) 5 (upd (gA (sI s 15 y0) 5) (x8).toNatClampNeg x1)) 1) (x8).toNatClampNeg x2)) 6) (x8).toNatClampNeg (gI (sB (sA (sI s 15 y0) 5 (upd (gA (sI s 15 y0) 5) (x8).toNatClampNeg x1)) 1 (vp_updL (gB (sA (sI s 15 y0) 5 (upd (gA (sI s 15 y0) 5) (x8).toNatClampNeg x1)) 1) (x8).toNatClampNeg x2)) 16))) 7) (x8).toNatClampNeg x4)) 8) (x8).toNatClampNeg x5)) 2) (x8).toNatClampNeg x6)) 9) (x8).toNatClampNeg (0 : Int32))) 10 (upd (gA (sA (sB (sA (sA (sA (sB (sA (sI s 15 y0) 5 (upd (gA (sI s 15 y0) 5) (x8).toNatClampNeg x1)) 1 (vp_updL (gB (sA (sI s 15 y0) 5 (upd (gA (sI s 15 y0) 5) (x8).toNatClampNeg x1)) 1) (x8).toNatClampNeg x2)) 6 (upd (gA (sB (sA (sI s 15 y0) 5 (upd (gA (sI s 15 y0) 5) (x8).toNatClampNeg x1)) 1 (vp_updL (gB (sA (sI s 15 y0) 5 (upd (gA (sI s 15 y0) 5) (x8).toNatClampNeg x1)) 1) (x8).toNatClampNeg x2)) 6) (x8).toNatClampNeg (gI (sB (sA (sI s 15 y0) 5 (upd (gA (sI s 15 y0) 5) (x8).toNatClampNeg x1)) 1 (vp_updL (gB (sA (sI s 15 y0) 5 (upd (gA (sI s 15 y0) 5) (x8).toNatClampNeg x1)) 1) (x8).toNatClampNeg x2)) 16))) 7 (upd (gA (sA (sB (sA (sI s 15 y0) 5 (upd (gA (sI s 15 y0) 5) (x8).toNatClampNeg x1)) 1 (vp_updL (gB (sA (sI s 15 y0) 5 (upd (gA (sI s 15 y0) 5) (x8).toNatClampNeg x1)) 1) (x8).toNatClampNeg x2)) 6 (upd (gA (sB (sA (sI s 15 y0) 5 (upd (gA (sI s 15 y0) 5) (x8).toNatClampNeg x1)) 1 (vp_updL (gB (sA (sI s 15 y0) 5 (upd (gA (sI s 15 y0) 5) (x8).toNatClampNeg x1)) 1) (x8).toNatClampNeg x2)) 6) (x8).toNatClampNeg (gI (sB (sA (sI s 15 y0) 5 (upd (gA (sI s 15 y0) 5) (x8).toNatClampNeg x1)) 1 (vp_updL (gB (sA (sI s 15 y0) 5 (upd (gA (sI s 15 y0) 5) (x8).toNatClampNeg x1)) 1) (x8).toNatClampNeg x2)) 16))) 7) (x8).toNatClampNeg x4)) 8 (upd (gA (sA (sA (sB (sA (sI s 15 y0) 5 (upd (gA (sI s 15 y0) 5) (x8).toNatClampNeg x1)) 1 (vp_updL (gB (sA (sI s 15 y0) 5 (upd (gA (sI s 15 y0) 5) (x8).toNatClampNeg x1)) 1) (x8).toNatClampNeg x2)) 6 (upd (gA (sB (sA (sI s 15 y0) 5 (upd (gA (sI s 15 y0) 5) (x8).toNatClampNeg x1)) 1 (vp_updL (gB (sA (sI s 15 y0) 5 (upd (gA (sI s 15 y0) 5) (x8).toNatClampNeg x1)) 1) (x8).toNatClampNeg x2)) 6) (x8).toNatClampNeg (gI (sB (sA (sI s 15 y0) 5 (upd (gA (sI s 15 y0) 5) (x8).toNatClampNeg x1)) 1 (vp_updL (gB (sA (sI s 15 y0) 5 (upd (gA (sI s 15 y0) 5) (x8).toNatClampNeg x1)) 1) (x8).toNatClampNeg x2)) 16))) 7 (upd (gA (sA (sB (sA (sI s 15 y0) 5 (upd (gA (sI s 15 y0) 5) (x8).toNatClampNeg x1)) 1 (vp_updL (gB (sA (sI s 15 y0) 5 (upd (gA (sI s 15 y0) 5) (x8).toNatClampNeg x1)) 1) (x8).toNatClampNeg x2)) 6 (upd (gA (sB (sA (sI s 15 y0) 5 (upd (gA (sI s 15 y0) 5) (x8).toNatClampNeg x1)) 1 (vp_updL (gB (sA (sI s 15 y0) 5 (upd (gA (sI s 15 y0) 5) (x8).toNatClampNeg x1)) 1) (x8).toNatClampNeg x2)) 6) (x8).toNatClampNeg (gI (sB (sA (sI s 15 y0) 5 (upd (gA (sI s 15 y0) 5) (x8).toNatClampNeg x1)) 1 (vp_updL (gB (sA (sI s 15 y0) 5 (upd (gA (sI s 15 y0) 5) (x8).toNatClampNeg x1)) 1) (x8).toNatClampNeg x2)) 16))) 7) (x8).toNatClampNeg x4)) 8) (x8).toNatClampNeg x5)) 2 (vp_updL (gB (sA (sA (sA (sB (sA (sI s 15 y0) 5 (upd (gA (sI s 15 y0) 5) (x8).toNatClampNeg x1)) 1 (vp_updL (gB (sA (sI s 15 y0) 5 (upd (gA (sI s 15 y0) 5) (x8).toNatClampNeg x1)) 1) (x8).toNatClampNeg x2)) 6 (upd (gA (sB (sA (sI s 15 y0) 5 (upd (gA (sI s 15 y0) 5) (x8).toNatClampNeg x1)) 1 (vp_updL (gB (sA (sI s 15 y0) 5 (upd (gA (sI s 15 y0) 5) (x8).toNatClampNeg x1)) 1) (x8).toNatClampNeg x2)) 6) (x8).toNatClampNeg (gI (sB (sA (sI s 15 y0) 5 (upd (gA (sI s 15 y0) 5) (x8).toNatClampNeg x1)) 1 (vp_updL (gB (sA (sI s 15 y0) 5 (upd (gA (sI s 15 y0) 5) (x8).toNatClampNeg x1)) 1) (x8).toNatClampNeg x2)) 16))) 7 (upd (gA (sA (sB (sA (sI s 15 y0) 5 (upd (gA (sI s 15 y0) 5) (x8).toNatClampNeg x1)) 1 (vp_updL (gB (sA (sI s 15 y0) 5 (upd (gA (sI s 15 y0) 5) (x8).toNatClampNeg x1)) 1) (x8).toNatClampNeg x2)) 6 (upd (gA (sB (sA (sI s 15 y0) 5 (upd (gA (sI s 15 y0) 5) (x8).toNatClampNeg x1)) 1 (vp_updL (gB (sA (sI s 15 y0) 5 (upd (gA (sI s 15 y0) 5) (x8).toNatClampNeg x1)) 1) (x8).toNatClampNeg x2)) 6) (x8).toNatClampNeg (gI (sB (sA (sI s 15 y0) 5 (upd (gA (sI s 15 y0) 5) (x8).toNatClampNeg x1)) 1 (vp_updL (gB (sA (sI s 15 y0) 5 (upd (gA (sI s 15 y0) 5) (x8).toNatClampNeg x1)) 1) (x8).toNatClampNeg x2)) 16))) 7) (x8).toNatClampNeg x4)) 8 (upd (gA (sA (sA (sB (sA (sI s 15 y0) 5 (upd (gA (sI s 15 y0) 5) (x8).toNatClampNeg x1)) 1 (vp_updL (gB (sA (sI s 15 y0) 5 (upd (gA (sI s 15 y0) 5) (x8).toNatClampNeg x1)) 1) (x8).toNatClampNeg x2)) 6 (upd (gA (sB (sA (sI s 15 y0) 5 (upd (gA (sI s 15 y0) 5) (x8).toNatClampNeg x1)) 1 (vp_updL (gB (sA (sI s 15 y0) 5 (upd (gA (sI s 15 y0) 5) (x8).toNatClampNeg x1)) 1) (x8).toNatClampNeg x2)) 6) (x8).toNatClampNeg (gI (sB (sA (sI s 15 y0) 5 (upd (gA (sI s 15 y0) 5) (x8).toNatClampNeg x1)) 1 (vp_updL (gB (sA (sI s 15 y0) 5 (upd (gA (sI s 15 y0) 5) (x8).toNatClampNeg x1)) 1) (x8).toNatClampNeg x2)) 16))) 7 (upd (gA (sA (sB (sA (sI s 15 y0) 5 (upd (gA (sI s 15 y0) 5) (x8).toNatClampNeg x1)) 1 (vp_updL (gB (sA (sI s 15 y0) 5 (upd (gA (sI s 15 y0) 5) (x8).toNatClampNeg x1)) 1) (x8).toNatClampNeg x2)) 6 (upd (gA (sB (sA (sI s 15 y0) 5 (upd (gA (sI s 15 y0) 5) (x8).toNatClampNeg x1)) 1 (vp_updL (gB (sA (sI s 15 y0) 5 (upd (gA (sI s 15 y0) 5) (x8).toNatClampNeg x1)) 1) (x8).toNatClampNeg x2)) 6) (x8).toNatClampNeg (gI (sB (sA (sI s 15 y0) 5 (upd (gA (sI s 15 y0) 5) (x8).toNatClampNeg x1)) 1 (vp_updL (gB (sA (sI s 15 y0) 5 (upd (gA (sI s 15 y0) 5) (x8).toNatClampNeg x1)) 1) (x8).toNatClampNeg x2)) 16))) 7) (x8).toNatClampNeg x4)) 8) (x8).toNatClampNeg x5)) 2) (x8).toNatClampNeg x6)) 9 (upd (gA (sB (sA (sA (sA (sB (sA (sI s 15 y0) 5 (upd (gA (sI s 15 y0) 5) (x8).toNatClampNeg x1)) 1 (vp_updL (gB (sA (sI s 15 y0) 5 (upd (gA (sI s 15 y0) 5) (x8).toNatClampNeg x1)) 1) (x8).toNatClampNeg x2)) 6 (upd (gA (sB (sA (sI s 15 y0) 5 (upd (gA (sI s 15 y0) 5) (x8).toNatClampNeg x1)) 1 (vp_updL (gB (sA (sI s 15 y0) 5 (upd (gA (sI s 15 y0) 5) (x8).toNatClampNeg x1)) 1) (x8).toNatClampNeg x2)) 6) (x8).toNatClampNeg (gI (sB (sA (sI s 15 y0) 5 (upd (gA (sI s 15 y0) 5) (x8).toNatClampNeg x1)) 1 (vp_updL (gB (sA (sI s 15 y0) 5 (upd (gA (sI s 15 y0) 5) (x8).toNatClampNeg x1)) 1) (x8).toNatClampNeg x2)) 16))) 7 (upd (gA (sA (sB (sA (sI s 15 y0) 5 (upd (gA (sI s 15 y0) 5) (x8).toNatClampNeg x1)) 1 (vp_updL (gB (sA (sI s 15 y0) 5 (upd (gA (sI s 15 y0) 5) (x8).toNatClampNeg x1)) 1) (x8).toNatClampNeg x2)) 6 (upd (gA (sB (sA (sI s 15 y0) 5 (upd (gA (sI s 15 y0) 5) (x8).toNatClampNeg x1)) 1 (vp_updL (gB (sA (sI s 15 y0) 5 (upd (gA (sI s 15 y0) 5) (x8).toNatClampNeg x1)) 1) (x8).toNatClampNeg x2)) 6) (x8).toNatClampNeg (gI (sB (sA (sI s 15 y0) 5 (upd (gA (sI s 15 y0) 5) (x8).toNatClampNeg x1)) 1 (vp_updL (gB (sA (sI s 15 y0) 5 (upd (gA (sI s 15 y0) 5) (x8).toNatClampNeg x1)) 1) (x8).toNatClampNeg x2)) 16))) 7) (x8).toNatClampNeg x4)) 8 (upd (gA (sA (sA (sB (sA (sI s 15 y0) 5 (upd (gA (sI s 15 y0) 5) (x8).toNatClampNeg x1)) 1 (vp_updL (gB (sA (sI s 15 y0) 5 (upd (gA (sI s 15 y0) 5) (x8).toNatClampNeg x1)) 1) (x8).toNatClampNeg x2)) 6 (upd (gA (sB (sA (sI s 15 y0) 5 (upd (gA (sI s 15 y0) 5) (x8).toNatClampNeg x1)) 1 (vp_updL (gB (sA (sI s 15 y0) 5 (upd (gA (sI s 15 y0) 5) (x8).toNatClampNeg x1)) 1) (x8).toNatClampNeg x2)) 6) (x8).toNatClampNeg (gI (sB (sA (sI s 15 y0) 5 (upd (gA (sI s 15 y0) 5) (x8).toNatClampNeg x1)) 1 (vp_updL (gB (sA (sI s 15 y0) 5 (upd (gA (sI s 15 y0) 5) (x8).toNatClampNeg x1)) 1) (x8).toNatClampNeg x2)) 16))) 7 (upd (gA (sA (sB (sA (sI s 15 y0) 5 (upd (gA (sI s 15 y0) 5) (x8).toNatClampNeg x1)) 1 (vp_updL (gB (sA (sI s 15 y0) 5 (upd (gA (sI s 15 y0) 5) (x8).toNatClampNeg x1)) 1) (x8).toNatClampNeg x2)) 6 (upd (gA (sB (sA (sI s 15 y0) 5 (upd (gA (sI s 15 y0) 5) (x8).toNatClampNeg x1)) 1 (vp_updL (gB (sA (sI s 15 y0) 5 (upd (gA (sI s 15 y0) 5) (x8).toNatClampNeg x1)) 1) (x8).toNatClampNeg x2)) 6) (x8).toNatClampNeg (gI (sB (sA (sI s 15 y0) 5 (upd (gA (sI s 15 y0) 5) (x8).toNatClampNeg x1)) 1 (vp_updL (gB (sA (sI s 15 y0) 5 (upd (gA (sI s 15 y0) 5) (x8).toNatClampNeg x1)) 1) (x8).toNatClampNeg x2)) 16))) 7) (x8).toNatClampNeg x4)) 8) (x8).toNatClampNeg x5)) 2 (vp_updL (gB (sA (sA (sA (sB (sA (sI s 15 y0) 5 (upd (gA (sI s 15 y0) 5) (x8).toNatClampNeg x1)) 1 (vp_updL (gB (sA (sI s 15 y0) 5 (upd (gA (sI s 15 y0) 5) (x8).toNatClampNeg x1)) 1) (x8).toNatClampNeg x2)) 6 (upd (gA (sB (sA (sI s 15 y0) 5 (upd (gA (sI s 15 y0) 5) (x8).toNatClampNeg x1)) 1 (vp_updL (gB (sA (sI s 15 y0) 5 (upd (gA (sI s 15 y0) 5) (x8).toNatClampNeg x1)) 1) (x8).toNatClampNeg x2)) 6) (x8).toNatClampNeg (gI (sB (sA (sI s 15 y0) 5 (upd (gA (sI s 15 y0) 5) (x8).toNatClampNeg x1)) 1 (vp_updL (gB (sA (sI s 15 y0) 5 (upd (gA (sI s 15 y0) 5) (x8).toNatClampNeg x1)) 1) (x8).toNatClampNeg x2)) 16))) 7 (upd (gA (sA (sB (sA (sI s 15 y0) 5 (upd (gA (sI s 15 y0) 5) (x8).toNatClampNeg x1)) 1 (vp_updL (gB (sA (sI s 15 y0) 5 (upd (gA (sI s 15 y0) 5) (x8).toNatClampNeg x1)) 1) (x8).toNatClampNeg x2)) 6 (upd (gA (sB (sA (sI s 15 y0) 5 (upd (gA (sI s 15 y0) 5) (x8).toNatClampNeg x1)) 1 (vp_updL (gB (sA (sI s 15 y0) 5 (upd (gA (sI s 15 y0) 5) (x8).toNatClampNeg x1)) 1) (x8).toNatClampNeg x2)) 6) (x8).toNatClampNeg (gI (sB (sA (sI s 15 y0) 5 (upd (gA (sI s 15 y0) 5) (x8).toNatClampNeg x1)) 1 (vp_updL (gB (sA (sI s 15 y0) 5 (upd (gA (sI s 15 y0) 5) (x8).toNatClampNeg x1)) 1) (x8).toNatClampNeg x2)) 16))) 7) (x8).toNatClampNeg x4)) 8 (upd (gA (sA (sA (sB (sA (sI s 15 y0) 5 (upd (gA (sI s 15 y0) 5) (x8).toNatClampNeg x1)) 1 (vp_updL (gB (sA (sI s 15 y0) 5 (upd (gA (sI s 15 y0) 5) (x8).toNatClampNeg x1)) 1) (x8).toNatClampNeg x2)) 6 (upd (gA (sB (sA (sI s 15 y0) 5 (upd (gA (sI s 15 y0) 5) (x8).toNatClampNeg x1)) 1 (vp_updL (gB (sA (sI s 15 y0) 5 (upd (gA (sI s 15 y0) 5) (x8).toNatClampNeg x1)) 1) (x8).toNatClampNeg x2)) 6) (x8).toNatClampNeg (gI (sB (sA (sI s 15 y0) 5 (upd (gA (sI s 15 y0) 5) (x8).toNatClampNeg x1)) 1 (vp_updL (gB (sA (sI s 15 y0) 5 (upd (gA (sI s 15 y0) 5) (x8).toNatClampNeg x1)) 1) (x8).toNatClampNeg x2)) 16))) 7 (upd (gA (sA (sB (sA (sI s 15 y0) 5 (upd (gA (sI s 15 y0) 5) (x8).toNatClampNeg x1)) 1 (vp_updL (gB (sA (sI s 15 y0) 5 (upd (gA (sI s 15 y0) 5) (x8).toNatClampNeg x1)) 1) (x8).toNatClampNeg x2)) 6 (upd (gA (sB (sA (sI s 15 y0) 5 (upd (gA (sI s 15 y0) 5) (x8).toNatClampNeg x1)) 1 (vp_updL (gB (sA (sI s 15 y0) 5 (upd (gA (sI s 15 y0) 5) (x8).toNatClampNeg x1)) 1) (x8).toNatClampNeg x2)) 6) (x8).toNatClampNeg (gI (sB (sA (sI s 15 y0) 5 (upd (gA (sI s 15 y0) 5) (x8).toNatClampNeg x1)) 1 (vp_updL (gB (sA (sI s 15 y0) 5 (upd (gA (sI s 15 y0) 5) (x8).toNatClampNeg x1)) 1) (x8).toNatClampNeg x2)) 16))) 7) (x8).toNatClampNeg x4)) 8) (x8).toNatClampNeg x5)) 2) (x8).toNatClampNeg x6)) 9) (x8).toNatClampNeg (0 : Int32))) 10) (x8).toNatClampNeg (0 : Int32))) 16) + (1 : Int32)))) else none) else none) else none) else none) else none) else none) else none) else none)
def F_R_add_28 (x1 : Int32) (x2 : Int64) (x4 : Int32) (x5 : Int32) (x6 : Int64) (x8 : Int32) (s : zSt) : Option (Int32 × zSt) := (if x8 = (gI s 15) then F_R_add_51    (x1) (x2) (x4) (x5) (x6) (x8) (((gI s 15) + (1 : Int32))) s else F_R_add_51    (x1) (x2) (x4) (x5) (x6) (x8) ((gI s 15)) s)
def F_R_add_3  : Nat → Int32 → Int64 → Int32 → Int32 → Int64 → Int32 → zSt → Option (Int32 × zSt)
  | 0, _, _, _, _, _, _, _ => none
  | n + 1, x1, x2, x4, x5, x6, x8, s => (if (gI s 15) ≤ x8 then F_R_add_28    (x1) (x2) (x4) (x5) (x6) (x8) s else (if zin x8 8400 then (if (gA s 5 (x8).toNatClampNeg) ≤ 0 then F_R_add_28    (x1) (x2) (x4) (x5) (x6) (x8) s else F_R_add_3  n (x1) (x2) (x4) (x5) (x6) ((x8 + (1 : Int32))) s) else none))
def F_R_add (p1 : Int32) (p2 : Int64) (p4 : Int32) (p5 : Int32) (p6 : Int64) (s : zSt) : Option (Int32 × zSt) := F_R_add_3   zFuel (p1) (p2) (p4) (p5) (p6) ((0 : Int32)) s
theorem zJ_R_add_51 {X : zkX} (x1 : Int32) (x2 : Int64) (x4 : Int32) (x5 : Int32) (x6 : Int64) (x8 : Int32) (y0 : Int32) (s : zSt) (r) (hF : F_R_add_51   x1 x2 x4 x5 x6 x8 y0 s = some r) : zk_W X 0 m_R_add (51, [(0, .ref 7), (1, .int x1), (2, .long x2), (4, .int x4), (5, .int x5), (6, .long x6), (8, .int x8)], [.int y0, .ref 7], zHp s) (fun o => o = zoI r) := by
  unfold F_R_add_51 at hF
  refine zi_putfield rfl rfl (zh_R _) rfl rfl (zs_I15 _ _) ?_
  refine zi_aload_n rfl rfl ?_
  refine zi_getfield rfl rfl (zh_R _) rfl ?_
  refine zi_iload rfl rfl ?_
  refine zi_iload_n rfl rfl ?_
  obtain ⟨hb, hF⟩ := zf_g hF
  refine zi_iastore rfl (zh_A5 _) (zin_ok hb) (zs_A5 _ _) ?_
  refine zi_aload_n rfl rfl ?_
  refine zi_getfield rfl rfl (zh_R _) rfl ?_
  refine zi_iload rfl rfl ?_
  refine zi_lload_n rfl rfl ?_
  obtain ⟨hb, hF⟩ := zf_g hF
  refine zi_lastore rfl (zh_B1 _) (zin_ok hb) (zs_B1 _ _) ?_
  refine zi_aload_n rfl rfl ?_
  refine zi_getfield rfl rfl (zh_R _) rfl ?_
  refine zi_iload rfl rfl ?_
  refine zi_aload_n rfl rfl ?_
  refine zi_getfield rfl rfl (zh_R _) rfl ?_
  obtain ⟨hb, hF⟩ := zf_g hF
  refine zi_iastore rfl (zh_A6 _) (zin_ok hb) (zs_A6 _ _) ?_
  refine zi_aload_n rfl rfl ?_
  refine zi_getfield rfl rfl (zh_R _) rfl ?_
  refine zi_iload rfl rfl ?_
  refine zi_iload rfl rfl ?_
  obtain ⟨hb, hF⟩ := zf_g hF
  refine zi_iastore rfl (zh_A7 _) (zin_ok hb) (zs_A7 _ _) ?_
  refine zi_aload_n rfl rfl ?_
  refine zi_getfield rfl rfl (zh_R _) rfl ?_
  refine zi_iload rfl rfl ?_
  refine zi_iload rfl rfl ?_
  obtain ⟨hb, hF⟩ := zf_g hF
  refine zi_iastore rfl (zh_A8 _) (zin_ok hb) (zs_A8 _ _) ?_
  refine zi_aload_n rfl rfl ?_
  refine zi_getfield rfl rfl (zh_R _) rfl ?_
  refine zi_iload rfl rfl ?_
  refine zi_lload rfl rfl ?_
  obtain ⟨hb, hF⟩ := zf_g hF
  refine zi_lastore rfl (zh_B2 _) (zin_ok hb) (zs_B2 _ _) ?_
  refine zi_aload_n rfl rfl ?_
  refine zi_getfield rfl rfl (zh_R _) rfl ?_
  refine zi_iload rfl rfl ?_
  refine zi_iconst (v := (0 : Int32)) rfl rfl ?_
  obtain ⟨hb, hF⟩ := zf_g hF
  refine zi_iastore rfl (zh_A9 _) (zin_ok hb) (zs_A9 _ _) ?_
  refine zi_aload_n rfl rfl ?_
  refine zi_getfield rfl rfl (zh_R _) rfl ?_
  refine zi_iload rfl rfl ?_
  refine zi_iconst (v := (0 : Int32)) rfl rfl ?_
  obtain ⟨hb, hF⟩ := zf_g hF
  refine zi_iastore rfl (zh_A10 _) (zin_ok hb) (zs_A10 _ _) ?_
  refine zi_aload_n rfl rfl ?_
  refine zi_dupa rfl ?_
  refine zi_getfield rfl rfl (zh_R _) rfl ?_
  refine zi_iconst (v := (1 : Int32)) rfl rfl ?_
  refine zi_iadd rfl ?_
  refine zi_putfield rfl rfl (zh_R _) rfl rfl (zs_I16 _ _) ?_
  refine zi_iload rfl rfl ?_
  cases hF
  exact zi_ireturn rfl rfl rfl
theorem zJ_R_add_28 {X : zkX} (x1 : Int32) (x2 : Int64) (x4 : Int32) (x5 : Int32) (x6 : Int64) (x8 : Int32) (s : zSt) (r) (hF : F_R_add_28   x1 x2 x4 x5 x6 x8 s = some r) : zk_W X 0 m_R_add (28, [(0, .ref 7), (1, .int x1), (2, .long x2), (4, .int x4), (5, .int x5), (6, .long x6), (8, .int x8)], [], zHp s) (fun o => o = zoI r) := by
  unfold F_R_add_28 at hF
  refine zi_aload_n rfl rfl ?_
  refine zi_iload rfl rfl ?_
  refine zi_aload_n rfl rfl ?_
  refine zi_getfield rfl rfl (zh_R _) rfl ?_
  refine zi_icne rfl (fun hc => ?_) (fun hc => ?_)
  · have hF := zf_n hc hF
    refine zi_aload_n rfl rfl ?_
    refine zi_getfield rfl rfl (zh_R _) rfl ?_
    exact zk_sb (zJ_R_add_51   _ _ _ _ _ _ _ _ _ hF) rfl ⟨rfl, rfl, rfl, rfl, rfl, rfl, rfl, trivial⟩
  · have hF := zf_p hc hF
    refine zi_aload_n rfl rfl ?_
    refine zi_getfield rfl rfl (zh_R _) rfl ?_
    refine zi_iconst (v := (1 : Int32)) rfl rfl ?_
    refine zi_iadd rfl ?_
    refine zi_goto rfl ?_
    exact zk_sb (zJ_R_add_51   _ _ _ _ _ _ _ _ _ hF) rfl ⟨rfl, rfl, rfl, rfl, rfl, rfl, rfl, trivial⟩
theorem zJ_R_add_3 {X : zkX} : ∀ (n : Nat) (x1 : Int32) (x2 : Int64) (x4 : Int32) (x5 : Int32) (x6 : Int64) (x8 : Int32) (s : zSt) (r), F_R_add_3   n x1 x2 x4 x5 x6 x8 s = some r → zk_W X 0 m_R_add (3, [(0, .ref 7), (1, .int x1), (2, .long x2), (4, .int x4), (5, .int x5), (6, .long x6), (8, .int x8)], [], zHp s) (fun o => o = zoI r) := by
  intro n
  induction n with
  | zero => intro x1 x2 x4 x5 x6 x8 s r hF; cases hF
  | succ n ih =>
    intro x1 x2 x4 x5 x6 x8 s r hF
    rw [F_R_add_3] at hF
    refine zi_iload rfl rfl ?_
    refine zi_aload_n rfl rfl ?_
    refine zi_getfield rfl rfl (zh_R _) rfl ?_
    refine zi_icge rfl (fun hc => ?_) (fun hc => ?_)
    · have hF := zf_p hc hF
      exact zk_sb (zJ_R_add_28   _ _ _ _ _ _ _ _ hF) rfl ⟨rfl, rfl, rfl, rfl, rfl, rfl, rfl, trivial⟩
    · have hF := zf_n hc hF
      refine zi_aload_n rfl rfl ?_
      refine zi_getfield rfl rfl (zh_R _) rfl ?_
      refine zi_iload rfl rfl ?_
      obtain ⟨hb, hF⟩ := zf_g hF
      refine zi_iaload rfl (zr_A5 _ _) (zin_ok hb) ?_
      refine zi_ifle rfl (fun hc => ?_) (fun hc => ?_)
      · have hF := zf_p hc hF
        exact zk_sb (zJ_R_add_28   _ _ _ _ _ _ _ _ hF) rfl ⟨rfl, rfl, rfl, rfl, rfl, rfl, rfl, trivial⟩
      · have hF := zf_n hc hF
        refine zi_iinc (y := (x8 + (1 : Int32))) rfl rfl rfl rfl rfl ?_
        refine zi_goto rfl ?_
        exact zk_sb (ih _ _ _ _ _ _ _ _ hF) rfl ⟨rfl, rfl, rfl, rfl, rfl, rfl, rfl, trivial⟩
theorem zF_R_add {X : zkX} {p1 : Int32} {p2 : Int64} {p4 : Int32} {p5 : Int32} {p6 : Int64} {s : zSt} {r} (hF : F_R_add p1 p2 p4 p5 p6 s = some r) : zk_C X 1 m_R_add [.ref 7, .int p1, .long p2, .int p4, .int p5, .long p6] (zHp s) (fun o => o = zoI r) := by
  unfold F_R_add at hF
  refine zk_enter (lv := [(0, .ref 7), (1, .int p1), (2, .long p2), (4, .int p4), (5, .int p5), (6, .long p6)]) rfl rfl ?_
  refine zi_iconst (v := (0 : Int32)) rfl rfl ?_
  refine zi_istore rfl rfl rfl ?_
  exact zk_sb (zJ_R_add_3  zFuel _ _ _ _ _ _ _ _ hF) rfl ⟨rfl, rfl, rfl, rfl, rfl, rfl, rfl, trivial⟩
/-! m_R_newObject -/
def F_R_newObject_51  (s : zSt) : Option (Int32 × zSt) := some (((gI s 14) - (1 : Int32)), s)
def F_R_newObject (p1 : Int32) (p2 : Int32) (s : zSt) : Option (Int32 × zSt) := (if zin (gI s 14) 4200 then (if zin (gI (sA s 2 (upd (gA s 2) ((gI s 14)).toNatClampNeg p1)) 14) 4200 then (if p2 = 0 then F_R_newObject_51     (sI (sA (sA s 2 (upd (gA s 2) ((gI s 14)).toNatClampNeg p1)) 3 (upd (gA (sA s 2 (upd (gA s 2) ((gI s 14)).toNatClampNeg p1)) 3) ((gI (sA s 2 (upd (gA s 2) ((gI s 14)).toNatClampNeg p1)) 14)).toNatClampNeg (vp_nar .boolean p2))) 14 ((gI (sA (sA s 2 (upd (gA s 2) ((gI s 14)).toNatClampNeg p1)) 3 (upd (gA (sA s 2 (upd (gA s 2) ((gI s 14)).toNatClampNeg p1)) 3) ((gI (sA s 2 (upd (gA s 2) ((gI s 14)).toNatClampNeg p1)) 14)).toNatClampNeg (vp_nar .boolean p2))) 14) + (1 : Int32))) else (zb (F_R_add (((gI (sI (sA (sA s 2 (upd (gA s 2) ((gI s 14)).toNatClampNeg p1)) 3 (upd (gA (sA s 2 (upd (gA s 2) ((gI s 14)).toNatClampNeg p1)) 3) ((gI (sA s 2 (upd (gA s 2) ((gI s 14)).toNatClampNeg p1)) 14)).toNatClampNeg (vp_nar .boolean p2))) 14 ((gI (sA (sA s 2 (upd (gA s 2) ((gI s 14)).toNatClampNeg p1)) 3 (upd (gA (sA s 2 (upd (gA s 2) ((gI s 14)).toNatClampNeg p1)) 3) ((gI (sA s 2 (upd (gA s 2) ((gI s 14)).toNatClampNeg p1)) 14)).toNatClampNeg (vp_nar .boolean p2))) 14) + (1 : Int32))) 14) - (1 : Int32))) ((-1 : Int64)) ((2 : Int32)) ((4 : Int32)) ((0 : Int64)) (sI (sA (sA s 2 (upd (gA s 2) ((gI s 14)).toNatClampNeg p1)) 3 (upd (gA (sA s 2 (upd (gA s 2) ((gI s 14)).toNatClampNeg p1)) 3) ((gI (sA s 2 (upd (gA s 2) ((gI s 14)).toNatClampNeg p1)) 14)).toNatClampNeg (vp_nar .boolean p2))) 14 ((gI (sA (sA s 2 (upd (gA s 2) ((gI s 14)).toNatClampNeg p1)) 3 (upd (gA (sA s 2 (upd (gA s 2) ((gI s 14)).toNatClampNeg p1)) 3) ((gI (sA s 2 (upd (gA s 2) ((gI s 14)).toNatClampNeg p1)) 14)).toNatClampNeg (vp_nar .boolean p2))) 14) + (1 : Int32)))) (fun v1 s2 => F_R_newObject_51     s2))) else none) else none)
theorem zJ_R_newObject_51 {X : zkX}  (s : zSt) (r) (hF : F_R_newObject_51    s = some r) : zk_W X 1 m_R_newObject (51, [(0, .ref 7)], [], zHp s) (fun o => o = zoI r) := by
  unfold F_R_newObject_51 at hF
  refine zi_aload_n rfl rfl ?_
  refine zi_getfield rfl rfl (zh_R _) rfl ?_
  refine zi_iconst (v := (1 : Int32)) rfl rfl ?_
  refine zi_isub rfl ?_
  cases hF
  exact zi_ireturn rfl rfl rfl
theorem zF_R_newObject {X : zkX} {p1 : Int32} {p2 : Int32} {s : zSt} {r} (hF : F_R_newObject p1 p2 s = some r) : zk_C X 2 m_R_newObject [.ref 7, .int p1, .int p2] (zHp s) (fun o => o = zoI r) := by
  unfold F_R_newObject at hF
  refine zk_enter (lv := [(0, .ref 7), (1, .int p1), (2, .int p2)]) rfl rfl ?_
  refine zi_aload_n rfl rfl ?_
  refine zi_getfield rfl rfl (zh_R _) rfl ?_
  refine zi_aload_n rfl rfl ?_
  refine zi_getfield rfl rfl (zh_R _) rfl ?_
  refine zi_iload_n rfl rfl ?_
  obtain ⟨hb, hF⟩ := zf_g hF
  refine zi_iastore rfl (zh_A2 _) (zin_ok hb) (zs_A2 _ _) ?_
  refine zi_aload_n rfl rfl ?_
  refine zi_getfield rfl rfl (zh_R _) rfl ?_
  refine zi_aload_n rfl rfl ?_
  refine zi_getfield rfl rfl (zh_R _) rfl ?_
  refine zi_iload_n rfl rfl ?_
  obtain ⟨hb, hF⟩ := zf_g hF
  refine zi_bastore rfl (zh_A3 _) (zin_ok hb) rfl (zs_A3 _ _) ?_
  refine zi_aload_n rfl rfl ?_
  refine zi_dupa rfl ?_
  refine zi_getfield rfl rfl (zh_R _) rfl ?_
  refine zi_iconst (v := (1 : Int32)) rfl rfl ?_
  refine zi_iadd rfl ?_
  refine zi_putfield rfl rfl (zh_R _) rfl rfl (zs_I14 _ _) ?_
  refine zi_iload_n rfl rfl ?_
  refine zi_ifeq rfl (fun hc => ?_) (fun hc => ?_)
  · have hF := zf_p hc hF
    exact zk_sb (zJ_R_newObject_51    _ _ hF) rfl ⟨rfl, trivial⟩
  · have hF := zf_n hc hF
    refine zi_aload_n rfl rfl ?_
    refine zi_aload_n rfl rfl ?_
    refine zi_getfield rfl rfl (zh_R _) rfl ?_
    refine zi_iconst (v := (1 : Int32)) rfl rfl ?_
    refine zi_isub rfl ?_
    refine zi_ldc2_w (v := (-1 : Int64)) rfl rfl ?_
    refine zi_iconst (v := (2 : Int32)) rfl rfl ?_
    refine zi_iconst (v := (4 : Int32)) rfl rfl ?_
    refine zi_lconst (v := (0 : Int64)) rfl rfl ?_
    obtain ⟨v1, s2, hm, hF⟩ := zf_b hF
    refine zi_callV rfl rfl rfl (zh_R _) rfl (zk_C.to (zk_C.up (by decide) (zF_R_add hm)) (fun o ho => zk_K.okv ho ?_))
    refine zi_popi rfl ?_
    exact zk_sb (zJ_R_newObject_51    _ _ hF) rfl ⟨rfl, trivial⟩
/-! m_R_object -/
def F_R_object_57  (s : zSt) : Option (Unit × zSt) := some ((), s)
def F_R_object_52 (x3 : Int32) (y0 : Int32) (y2 : Int32) (s : zSt) : Option (Unit × zSt) := (zb (F_R_newObject (y0) (x3) s) (fun v5 s6 => (if zin y2 24 then F_R_object_57     (sA s6 1 (upd (gA s6 1) (y2).toNatClampNeg v5)) else none)))
def F_R_object_26 (x1 : Int32) (x2 : Int32) (x3 : Int32) (y0 : Int32) (s : zSt) : Option (Unit × zSt) := (zb (F_R_says (y0) s) (fun v3 s4 => (if v3 = 0 then F_R_object_57     s4 else (if 0 ≤ x2 then (if zin x2 24 then F_R_object_52    (x3) ((gA s4 1 (x2).toNatClampNeg)) (x1) s4 else none) else F_R_object_52    (x3) ((0 : Int32)) (x1) s4))))
def F_R_object_25 (x1 : Int32) (x2 : Int32) (x3 : Int32) (s : zSt) : Option (Unit × zSt) := F_R_object_26    (x1) (x2) (x3) ((0 : Int32)) s
def F_R_object_21 (x1 : Int32) (x2 : Int32) (x3 : Int32) (s : zSt) : Option (Unit × zSt) := F_R_object_26    (x1) (x2) (x3) ((1 : Int32)) s
def F_R_object (p1 : Int32) (p2 : Int32) (p3 : Int32) (s : zSt) : Option (Unit × zSt) := (zb (F_R_isRoot (p1) s) (fun v1 s2 => (if v1 = 0 then F_R_object_25    (p1) (p2) (p3) s2 else (if p2 = (-1 : Int32) then F_R_object_21    (p1) (p2) (p3) s2 else (zb (F_R_holds (p2) s2) (fun v7 s8 => (if v7 = 0 then F_R_object_25    (p1) (p2) (p3) s8 else F_R_object_21    (p1) (p2) (p3) s8)))))))
theorem zJ_R_object_57 {X : zkX}  (s : zSt) (r) (hF : F_R_object_57    s = some r) : zk_W X 3 m_R_object (57, [], [], zHp s) (fun o => o = zoU r) := by
  unfold F_R_object_57 at hF
  cases hF
  exact zi_return rfl rfl rfl
theorem zJ_R_object_52 {X : zkX} (x3 : Int32) (y0 : Int32) (y2 : Int32) (s : zSt) (r) (hF : F_R_object_52   x3 y0 y2 s = some r) : zk_W X 3 m_R_object (52, [(3, .int x3)], [.int y0, .ref 7, .int y2, .ref 8], zHp s) (fun o => o = zoU r) := by
  unfold F_R_object_52 at hF
  refine zi_iload_n rfl rfl ?_
  obtain ⟨v5, s6, hm, hF⟩ := zf_b hF
  refine zi_callV rfl rfl rfl (zh_R _) rfl (zk_C.to (zk_C.up (by decide) (zF_R_newObject hm)) (fun o ho => zk_K.okv ho ?_))
  obtain ⟨hb, hF⟩ := zf_g hF
  refine zi_iastore rfl (zh_A1 _) (zin_ok hb) (zs_A1 _ _) ?_
  exact zk_sb (zJ_R_object_57    _ _ hF) rfl trivial
theorem zJ_R_object_26 {X : zkX} (x1 : Int32) (x2 : Int32) (x3 : Int32) (y0 : Int32) (s : zSt) (r) (hF : F_R_object_26   x1 x2 x3 y0 s = some r) : zk_W X 3 m_R_object (26, [(0, .ref 7), (1, .int x1), (2, .int x2), (3, .int x3)], [.int y0, .ref 7], zHp s) (fun o => o = zoU r) := by
  unfold F_R_object_26 at hF
  obtain ⟨v3, s4, hm, hF⟩ := zf_b hF
  refine zi_callV rfl rfl rfl (zh_R _) rfl (zk_C.to (zk_C.up (by decide) (zF_R_says hm)) (fun o ho => zk_K.okv ho ?_))
  refine zi_ifeq rfl (fun hc => ?_) (fun hc => ?_)
  · have hF := zf_p hc hF
    exact zk_sb (zJ_R_object_57    _ _ hF) rfl trivial
  · have hF := zf_n hc hF
    refine zi_aload_n rfl rfl ?_
    refine zi_getfield rfl rfl (zh_R _) rfl ?_
    refine zi_iload_n rfl rfl ?_
    refine zi_aload_n rfl rfl ?_
    refine zi_iload_n rfl rfl ?_
    refine zi_ifge rfl (fun hc => ?_) (fun hc => ?_)
    · have hF := zf_p hc hF
      refine zi_aload_n rfl rfl ?_
      refine zi_getfield rfl rfl (zh_R _) rfl ?_
      refine zi_iload_n rfl rfl ?_
      obtain ⟨hb, hF⟩ := zf_g hF
      refine zi_iaload rfl (zr_A1 _ _) (zin_ok hb) ?_
      exact zk_sb (zJ_R_object_52   _ _ _ _ _ hF) rfl ⟨rfl, trivial⟩
    · have hF := zf_n hc hF
      refine zi_iconst (v := (0 : Int32)) rfl rfl ?_
      refine zi_goto rfl ?_
      exact zk_sb (zJ_R_object_52   _ _ _ _ _ hF) rfl ⟨rfl, trivial⟩
theorem zJ_R_object_25 {X : zkX} (x1 : Int32) (x2 : Int32) (x3 : Int32) (s : zSt) (r) (hF : F_R_object_25   x1 x2 x3 s = some r) : zk_W X 3 m_R_object (25, [(0, .ref 7), (1, .int x1), (2, .int x2), (3, .int x3)], [.ref 7], zHp s) (fun o => o = zoU r) := by
  unfold F_R_object_25 at hF
  refine zi_iconst (v := (0 : Int32)) rfl rfl ?_
  exact zk_sb (zJ_R_object_26   _ _ _ _ _ _ hF) rfl ⟨rfl, rfl, rfl, rfl, trivial⟩
theorem zJ_R_object_21 {X : zkX} (x1 : Int32) (x2 : Int32) (x3 : Int32) (s : zSt) (r) (hF : F_R_object_21   x1 x2 x3 s = some r) : zk_W X 3 m_R_object (21, [(0, .ref 7), (1, .int x1), (2, .int x2), (3, .int x3)], [.ref 7], zHp s) (fun o => o = zoU r) := by
  unfold F_R_object_21 at hF
  refine zi_iconst (v := (1 : Int32)) rfl rfl ?_
  refine zi_goto rfl ?_
  exact zk_sb (zJ_R_object_26   _ _ _ _ _ _ hF) rfl ⟨rfl, rfl, rfl, rfl, trivial⟩
theorem zF_R_object {X : zkX} {p1 : Int32} {p2 : Int32} {p3 : Int32} {s : zSt} {r} (hF : F_R_object p1 p2 p3 s = some r) : zk_C X 4 m_R_object [.ref 7, .int p1, .int p2, .int p3] (zHp s) (fun o => o = zoU r) := by
  unfold F_R_object at hF
  refine zk_enter (lv := [(0, .ref 7), (1, .int p1), (2, .int p2), (3, .int p3)]) rfl rfl ?_
  refine zi_aload_n rfl rfl ?_
  refine zi_iload_n rfl rfl ?_
  obtain ⟨v1, s2, hm, hF⟩ := zf_b hF
  refine zi_callS rfl rfl rfl rfl (zk_C.to (zk_C.up (by decide) (zF_R_isRoot hm)) (fun o ho => zk_K.okv ho ?_))
  refine zi_ifeq rfl (fun hc => ?_) (fun hc => ?_)
  · have hF := zf_p hc hF
    exact zk_sb (zJ_R_object_25   _ _ _ _ _ hF) rfl ⟨rfl, rfl, rfl, rfl, trivial⟩
  · have hF := zf_n hc hF
    refine zi_iload_n rfl rfl ?_
    refine zi_iconst (v := (-1 : Int32)) rfl rfl ?_
    refine zi_iceq rfl (fun hc => ?_) (fun hc => ?_)
    · have hF := zf_p hc hF
      exact zk_sb (zJ_R_object_21   _ _ _ _ _ hF) rfl ⟨rfl, rfl, rfl, rfl, trivial⟩
    · have hF := zf_n hc hF
      refine zi_aload_n rfl rfl ?_
      refine zi_iload_n rfl rfl ?_
      obtain ⟨v7, s8, hm, hF⟩ := zf_b hF
      refine zi_callV rfl rfl rfl (zh_R _) rfl (zk_C.to (zk_C.up (by decide) (zF_R_holds hm)) (fun o ho => zk_K.okv ho ?_))
      refine zi_ifeq rfl (fun hc => ?_) (fun hc => ?_)
      · have hF := zf_p hc hF
        exact zk_sb (zJ_R_object_25   _ _ _ _ _ hF) rfl ⟨rfl, rfl, rfl, rfl, trivial⟩
      · have hF := zf_n hc hF
        exact zk_sb (zJ_R_object_21   _ _ _ _ _ hF) rfl ⟨rfl, rfl, rfl, rfl, trivial⟩
/-! m_R_copy -/
def F_R_copy_51  (s : zSt) : Option (Unit × zSt) := some ((), s)
def F_R_copy_50 (y0 : Int32) (y1 : Int32) (s : zSt) : Option (Unit × zSt) := (if zin y1 24 then F_R_copy_51     (sA s 1 (upd (gA s 1) (y1).toNatClampNeg y0)) else none)
def F_R_copy_25 (x1 : Int32) (x2 : Int32) (y0 : Int32) (s : zSt) : Option (Unit × zSt) := (zb (F_R_says (y0) s) (fun v3 s4 => (if v3 = 0 then F_R_copy_51     s4 else (if 0 ≤ x2 then (if zin x2 24 then F_R_copy_50    ((gA s4 1 (x2).toNatClampNeg)) (x1) s4 else none) else F_R_copy_50    ((0 : Int32)) (x1) s4))))
def F_R_copy_24 (x1 : Int32) (x2 : Int32) (s : zSt) : Option (Unit × zSt) := F_R_copy_25    (x1) (x2) ((0 : Int32)) s
def F_R_copy_20 (x1 : Int32) (x2 : Int32) (s : zSt) : Option (Unit × zSt) := F_R_copy_25    (x1) (x2) ((1 : Int32)) s
def F_R_copy (p1 : Int32) (p2 : Int32) (s : zSt) : Option (Unit × zSt) := (zb (F_R_isRoot (p1) s) (fun v1 s2 => (if v1 = 0 then F_R_copy_24    (p1) (p2) s2 else (if p2 = (-1 : Int32) then F_R_copy_20    (p1) (p2) s2 else (zb (F_R_isRoot (p2) s2) (fun v5 s6 => (if v5 = 0 then F_R_copy_24    (p1) (p2) s6 else F_R_copy_20    (p1) (p2) s6)))))))
theorem zJ_R_copy_51 {X : zkX}  (s : zSt) (r) (hF : F_R_copy_51    s = some r) : zk_W X 2 m_R_copy (51, [], [], zHp s) (fun o => o = zoU r) := by
  unfold F_R_copy_51 at hF
  cases hF
  exact zi_return rfl rfl rfl
theorem zJ_R_copy_50 {X : zkX} (y0 : Int32) (y1 : Int32) (s : zSt) (r) (hF : F_R_copy_50   y0 y1 s = some r) : zk_W X 2 m_R_copy (50, [], [.int y0, .int y1, .ref 8], zHp s) (fun o => o = zoU r) := by
  unfold F_R_copy_50 at hF
  obtain ⟨hb, hF⟩ := zf_g hF
  refine zi_iastore rfl (zh_A1 _) (zin_ok hb) (zs_A1 _ _) ?_
  exact zk_sb (zJ_R_copy_51    _ _ hF) rfl trivial
theorem zJ_R_copy_25 {X : zkX} (x1 : Int32) (x2 : Int32) (y0 : Int32) (s : zSt) (r) (hF : F_R_copy_25   x1 x2 y0 s = some r) : zk_W X 2 m_R_copy (25, [(0, .ref 7), (1, .int x1), (2, .int x2)], [.int y0, .ref 7], zHp s) (fun o => o = zoU r) := by
  unfold F_R_copy_25 at hF
  obtain ⟨v3, s4, hm, hF⟩ := zf_b hF
  refine zi_callV rfl rfl rfl (zh_R _) rfl (zk_C.to (zk_C.up (by decide) (zF_R_says hm)) (fun o ho => zk_K.okv ho ?_))
  refine zi_ifeq rfl (fun hc => ?_) (fun hc => ?_)
  · have hF := zf_p hc hF
    exact zk_sb (zJ_R_copy_51    _ _ hF) rfl trivial
  · have hF := zf_n hc hF
    refine zi_aload_n rfl rfl ?_
    refine zi_getfield rfl rfl (zh_R _) rfl ?_
    refine zi_iload_n rfl rfl ?_
    refine zi_iload_n rfl rfl ?_
    refine zi_ifge rfl (fun hc => ?_) (fun hc => ?_)
    · have hF := zf_p hc hF
      refine zi_aload_n rfl rfl ?_
      refine zi_getfield rfl rfl (zh_R _) rfl ?_
      refine zi_iload_n rfl rfl ?_
      obtain ⟨hb, hF⟩ := zf_g hF
      refine zi_iaload rfl (zr_A1 _ _) (zin_ok hb) ?_
      exact zk_sb (zJ_R_copy_50   _ _ _ _ hF) rfl trivial
    · have hF := zf_n hc hF
      refine zi_iconst (v := (0 : Int32)) rfl rfl ?_
      refine zi_goto rfl ?_
      exact zk_sb (zJ_R_copy_50   _ _ _ _ hF) rfl trivial
theorem zJ_R_copy_24 {X : zkX} (x1 : Int32) (x2 : Int32) (s : zSt) (r) (hF : F_R_copy_24   x1 x2 s = some r) : zk_W X 2 m_R_copy (24, [(0, .ref 7), (1, .int x1), (2, .int x2)], [.ref 7], zHp s) (fun o => o = zoU r) := by
  unfold F_R_copy_24 at hF
  refine zi_iconst (v := (0 : Int32)) rfl rfl ?_
  exact zk_sb (zJ_R_copy_25   _ _ _ _ _ hF) rfl ⟨rfl, rfl, rfl, trivial⟩
theorem zJ_R_copy_20 {X : zkX} (x1 : Int32) (x2 : Int32) (s : zSt) (r) (hF : F_R_copy_20   x1 x2 s = some r) : zk_W X 2 m_R_copy (20, [(0, .ref 7), (1, .int x1), (2, .int x2)], [.ref 7], zHp s) (fun o => o = zoU r) := by
  unfold F_R_copy_20 at hF
  refine zi_iconst (v := (1 : Int32)) rfl rfl ?_
  refine zi_goto rfl ?_
  exact zk_sb (zJ_R_copy_25   _ _ _ _ _ hF) rfl ⟨rfl, rfl, rfl, trivial⟩
theorem zF_R_copy {X : zkX} {p1 : Int32} {p2 : Int32} {s : zSt} {r} (hF : F_R_copy p1 p2 s = some r) : zk_C X 3 m_R_copy [.ref 7, .int p1, .int p2] (zHp s) (fun o => o = zoU r) := by
  unfold F_R_copy at hF
  refine zk_enter (lv := [(0, .ref 7), (1, .int p1), (2, .int p2)]) rfl rfl ?_
  refine zi_aload_n rfl rfl ?_
  refine zi_iload_n rfl rfl ?_
  obtain ⟨v1, s2, hm, hF⟩ := zf_b hF
  refine zi_callS rfl rfl rfl rfl (zk_C.to (zk_C.up (by decide) (zF_R_isRoot hm)) (fun o ho => zk_K.okv ho ?_))
  refine zi_ifeq rfl (fun hc => ?_) (fun hc => ?_)
  · have hF := zf_p hc hF
    exact zk_sb (zJ_R_copy_24   _ _ _ _ hF) rfl ⟨rfl, rfl, rfl, trivial⟩
  · have hF := zf_n hc hF
    refine zi_iload_n rfl rfl ?_
    refine zi_iconst (v := (-1 : Int32)) rfl rfl ?_
    refine zi_iceq rfl (fun hc => ?_) (fun hc => ?_)
    · have hF := zf_p hc hF
      exact zk_sb (zJ_R_copy_20   _ _ _ _ hF) rfl ⟨rfl, rfl, rfl, trivial⟩
    · have hF := zf_n hc hF
      refine zi_iload_n rfl rfl ?_
      obtain ⟨v5, s6, hm, hF⟩ := zf_b hF
      refine zi_callS rfl rfl rfl rfl (zk_C.to (zk_C.up (by decide) (zF_R_isRoot hm)) (fun o ho => zk_K.okv ho ?_))
      refine zi_ifeq rfl (fun hc => ?_) (fun hc => ?_)
      · have hF := zf_p hc hF
        exact zk_sb (zJ_R_copy_24   _ _ _ _ hF) rfl ⟨rfl, rfl, rfl, trivial⟩
      · have hF := zf_n hc hF
        exact zk_sb (zJ_R_copy_20   _ _ _ _ hF) rfl ⟨rfl, rfl, rfl, trivial⟩
/-! m_R_same -/
def F_R_same_46 (y0 : Int32) (s : zSt) : Option (Int32 × zSt) := (if vp_nar .boolean y0 = y0 then some (y0, s) else none)
def F_R_same_45  (s : zSt) : Option (Int32 × zSt) := F_R_same_46    ((0 : Int32)) s
def F_R_same_20 (x1 : Int32) (x2 : Int32) (y0 : Int32) (s : zSt) : Option (Int32 × zSt) := (zb (F_R_says (y0) s) (fun v3 s4 => (if v3 = 0 then F_R_same_45     s4 else (if zin x1 24 then (if zin x2 24 then (if (gA s4 1 (x1).toNatClampNeg) = (gA s4 1 (x2).toNatClampNeg) then F_R_same_46    ((1 : Int32)) s4 else F_R_same_45     s4) else none) else none))))
def F_R_same_19 (x1 : Int32) (x2 : Int32) (s : zSt) : Option (Int32 × zSt) := F_R_same_20    (x1) (x2) ((0 : Int32)) s
def F_R_same (p1 : Int32) (p2 : Int32) (s : zSt) : Option (Int32 × zSt) := (zb (F_R_isRoot (p1) s) (fun v1 s2 => (if v1 = 0 then F_R_same_19    (p1) (p2) s2 else (zb (F_R_isRoot (p2) s2) (fun v5 s6 => (if v5 = 0 then F_R_same_19    (p1) (p2) s6 else F_R_same_20    (p1) (p2) ((1 : Int32)) s6))))))
theorem zJ_R_same_46 {X : zkX} (y0 : Int32) (s : zSt) (r) (hF : F_R_same_46   y0 s = some r) : zk_W X 2 m_R_same (46, [], [.int y0], zHp s) (fun o => o = zoI r) := by
  unfold F_R_same_46 at hF
  obtain ⟨hz, hF⟩ := zf_g hF
  cases hF
  exact zi_zreturn rfl rfl hz rfl
theorem zJ_R_same_45 {X : zkX}  (s : zSt) (r) (hF : F_R_same_45    s = some r) : zk_W X 2 m_R_same (45, [], [], zHp s) (fun o => o = zoI r) := by
  unfold F_R_same_45 at hF
  refine zi_iconst (v := (0 : Int32)) rfl rfl ?_
  exact zk_sb (zJ_R_same_46   _ _ _ hF) rfl trivial
theorem zJ_R_same_20 {X : zkX} (x1 : Int32) (x2 : Int32) (y0 : Int32) (s : zSt) (r) (hF : F_R_same_20   x1 x2 y0 s = some r) : zk_W X 2 m_R_same (20, [(0, .ref 7), (1, .int x1), (2, .int x2)], [.int y0, .ref 7], zHp s) (fun o => o = zoI r) := by
  unfold F_R_same_20 at hF
  obtain ⟨v3, s4, hm, hF⟩ := zf_b hF
  refine zi_callV rfl rfl rfl (zh_R _) rfl (zk_C.to (zk_C.up (by decide) (zF_R_says hm)) (fun o ho => zk_K.okv ho ?_))
  refine zi_ifeq rfl (fun hc => ?_) (fun hc => ?_)
  · have hF := zf_p hc hF
    exact zk_sb (zJ_R_same_45    _ _ hF) rfl trivial
  · have hF := zf_n hc hF
    refine zi_aload_n rfl rfl ?_
    refine zi_getfield rfl rfl (zh_R _) rfl ?_
    refine zi_iload_n rfl rfl ?_
    obtain ⟨hb, hF⟩ := zf_g hF
    refine zi_iaload rfl (zr_A1 _ _) (zin_ok hb) ?_
    refine zi_aload_n rfl rfl ?_
    refine zi_getfield rfl rfl (zh_R _) rfl ?_
    refine zi_iload_n rfl rfl ?_
    obtain ⟨hb, hF⟩ := zf_g hF
    refine zi_iaload rfl (zr_A1 _ _) (zin_ok hb) ?_
    refine zi_icne rfl (fun hc => ?_) (fun hc => ?_)
    · have hF := zf_n hc hF
      exact zk_sb (zJ_R_same_45    _ _ hF) rfl trivial
    · have hF := zf_p hc hF
      refine zi_iconst (v := (1 : Int32)) rfl rfl ?_
      refine zi_goto rfl ?_
      exact zk_sb (zJ_R_same_46   _ _ _ hF) rfl trivial
theorem zJ_R_same_19 {X : zkX} (x1 : Int32) (x2 : Int32) (s : zSt) (r) (hF : F_R_same_19   x1 x2 s = some r) : zk_W X 2 m_R_same (19, [(0, .ref 7), (1, .int x1), (2, .int x2)], [.ref 7], zHp s) (fun o => o = zoI r) := by
  unfold F_R_same_19 at hF
  refine zi_iconst (v := (0 : Int32)) rfl rfl ?_
  exact zk_sb (zJ_R_same_20   _ _ _ _ _ hF) rfl ⟨rfl, rfl, rfl, trivial⟩
theorem zF_R_same {X : zkX} {p1 : Int32} {p2 : Int32} {s : zSt} {r} (hF : F_R_same p1 p2 s = some r) : zk_C X 3 m_R_same [.ref 7, .int p1, .int p2] (zHp s) (fun o => o = zoI r) := by
  unfold F_R_same at hF
  refine zk_enter (lv := [(0, .ref 7), (1, .int p1), (2, .int p2)]) rfl rfl ?_
  refine zi_aload_n rfl rfl ?_
  refine zi_iload_n rfl rfl ?_
  obtain ⟨v1, s2, hm, hF⟩ := zf_b hF
  refine zi_callS rfl rfl rfl rfl (zk_C.to (zk_C.up (by decide) (zF_R_isRoot hm)) (fun o ho => zk_K.okv ho ?_))
  refine zi_ifeq rfl (fun hc => ?_) (fun hc => ?_)
  · have hF := zf_p hc hF
    exact zk_sb (zJ_R_same_19   _ _ _ _ hF) rfl ⟨rfl, rfl, rfl, trivial⟩
  · have hF := zf_n hc hF
    refine zi_iload_n rfl rfl ?_
    obtain ⟨v5, s6, hm, hF⟩ := zf_b hF
    refine zi_callS rfl rfl rfl rfl (zk_C.to (zk_C.up (by decide) (zF_R_isRoot hm)) (fun o ho => zk_K.okv ho ?_))
    refine zi_ifeq rfl (fun hc => ?_) (fun hc => ?_)
    · have hF := zf_p hc hF
      exact zk_sb (zJ_R_same_19   _ _ _ _ hF) rfl ⟨rfl, rfl, rfl, trivial⟩
    · have hF := zf_n hc hF
      refine zi_iconst (v := (1 : Int32)) rfl rfl ?_
      refine zi_goto rfl ?_
      exact zk_sb (zJ_R_same_20   _ _ _ _ _ hF) rfl ⟨rfl, rfl, rfl, trivial⟩
/-! m_R_operand -/
def F_R_operand_142 (y0 : Int64) (s : zSt) : Option (Unit × zSt) := some ((), (sJ s 3 y0))
def F_R_operand_102 (x1 : Int32) (x2 : Int64) (y0 : Int32) (s : zSt) : Option (Unit × zSt) := (if x1 = (4 : Int32) then (if y0 = 0 then F_R_operand_142    (x2) s else F_R_operand_142    ((9221120237041090560 : Int64)) s) else (if x1 = (5 : Int32) then (if zin (x2).toInt32 24 then F_R_operand_142    (((gA s 1 ((x2).toInt32).toNatClampNeg)).toInt64) s else none) else F_R_operand_142    ((0 : Int64)) s))
def F_R_operand_101 (x1 : Int32) (x2 : Int64) (s : zSt) : Option (Unit × zSt) := F_R_operand_102    (x1) (x2) ((0 : Int32)) s
def F_R_operand_61 (x1 : Int32) (x2 : Int64) (y0 : Int32) (s : zSt) : Option (Unit × zSt) := (zb (F_R_says (y0) s) (fun v3 s4 => (if v3 = 0 then some ((), s4) else (if (lg_cmp ((x2 >>> (((52 : Int32)).toInt64 &&& 63)) &&& (2047 : Int64)) (2047 : Int64)) = 0 then (if (lg_cmp (x2 <<< (((12 : Int32)).toInt64 &&& 63)) (0 : Int64)) = 0 then F_R_operand_101    (x1) (x2) (sI s4 17 x1) else F_R_operand_102    (x1) (x2) ((1 : Int32)) (sI s4 17 x1)) else F_R_operand_101    (x1) (x2) (sI s4 17 x1)))))
def F_R_operand_60 (x1 : Int32) (x2 : Int64) (s : zSt) : Option (Unit × zSt) := F_R_operand_61    (x1) (x2) ((0 : Int32)) s
def F_R_operand_56 (x1 : Int32) (x2 : Int64) (s : zSt) : Option (Unit × zSt) := F_R_operand_61    (x1) (x2) ((1 : Int32)) s
def F_R_operand_33 (x1 : Int32) (x2 : Int64) (y0 : Int32) (s : zSt) : Option (Unit × zSt) := (if y0 = 0 then F_R_operand_60    (x1) (x2) s else (if x1 = (5 : Int32) then (if zin (x2).toInt32 24 then (if (gA s 1 ((x2).toInt32).toNatClampNeg) ≤ 0 then F_R_operand_60    (x1) (x2) s else F_R_operand_56    (x1) (x2) s) else none) else F_R_operand_56    (x1) (x2) s))
def F_R_operand_32 (x1 : Int32) (x2 : Int64) (s : zSt) : Option (Unit × zSt) := F_R_operand_33    (x1) (x2) ((0 : Int32)) s
def F_R_operand_28 (x1 : Int32) (x2 : Int64) (s : zSt) : Option (Unit × zSt) := F_R_operand_33    (x1) (x2) ((1 : Int32)) s
def F_R_operand (p1 : Int32) (p2 : Int64) (s : zSt) : Option (Unit × zSt) := (zb (F_R_in ((p1).toInt64) ((0 : Int64)) ((5 : Int64)) s) (fun v1 s2 => (if v1 = 0 then F_R_operand_32    (p1) (p2) s2 else (if p1 = (5 : Int32) then (zb (F_R_in (p2) ((0 : Int64)) ((23 : Int64)) s2) (fun v5 s6 => (if v5 = 0 then F_R_operand_32    (p1) (p2) s6 else F_R_operand_28    (p1) (p2) s6))) else F_R_operand_28    (p1) (p2) s2))))
theorem zJ_R_operand_142 {X : zkX} (y0 : Int64) (s : zSt) (r) (hF : F_R_operand_142   y0 s = some r) : zk_W X 1 m_R_operand (142, [], [.long y0, .ref 7], zHp s) (fun o => o = zoU r) := by
  unfold F_R_operand_142 at hF
  refine zi_putfield rfl rfl (zh_R _) rfl rfl (zs_J3 _ _) ?_
  cases hF
  exact zi_return rfl rfl rfl
theorem zJ_R_operand_102 {X : zkX} (x1 : Int32) (x2 : Int64) (y0 : Int32) (s : zSt) (r) (hF : F_R_operand_102   x1 x2 y0 s = some r) : zk_W X 1 m_R_operand (102, [(0, .ref 7), (1, .int x1), (2, .long x2)], [.int y0], zHp s) (fun o => o = zoU r) := by
  unfold F_R_operand_102 at hF
  refine zi_istore rfl rfl rfl ?_
  refine zi_aload_n rfl rfl ?_
  refine zi_iload_n rfl rfl ?_
  refine zi_iconst (v := (4 : Int32)) rfl rfl ?_
  refine zi_icne rfl (fun hc => ?_) (fun hc => ?_)
  · have hF := zf_n hc hF
    refine zi_iload_n rfl rfl ?_
    refine zi_iconst (v := (5 : Int32)) rfl rfl ?_
    refine zi_icne rfl (fun hc => ?_) (fun hc => ?_)
    · have hF := zf_n hc hF
      refine zi_lconst (v := (0 : Int64)) rfl rfl ?_
      exact zk_sb (zJ_R_operand_142   _ _ _ hF) rfl trivial
    · have hF := zf_p hc hF
      refine zi_aload_n rfl rfl ?_
      refine zi_getfield rfl rfl (zh_R _) rfl ?_
      refine zi_lload_n rfl rfl ?_
      refine zi_l2i rfl ?_
      obtain ⟨hb, hF⟩ := zf_g hF
      refine zi_iaload rfl (zr_A1 _ _) (zin_ok hb) ?_
      refine zi_i2l rfl ?_
      refine zi_goto rfl ?_
      exact zk_sb (zJ_R_operand_142   _ _ _ hF) rfl trivial
  · have hF := zf_p hc hF
    refine zi_iload rfl rfl ?_
    refine zi_ifeq rfl (fun hc => ?_) (fun hc => ?_)
    · have hF := zf_p hc hF
      refine zi_lload_n rfl rfl ?_
      refine zi_goto rfl ?_
      exact zk_sb (zJ_R_operand_142   _ _ _ hF) rfl trivial
    · have hF := zf_n hc hF
      refine zi_ldc2_w (v := (9221120237041090560 : Int64)) rfl rfl ?_
      refine zi_goto rfl ?_
      exact zk_sb (zJ_R_operand_142   _ _ _ hF) rfl trivial
theorem zJ_R_operand_101 {X : zkX} (x1 : Int32) (x2 : Int64) (s : zSt) (r) (hF : F_R_operand_101   x1 x2 s = some r) : zk_W X 1 m_R_operand (101, [(0, .ref 7), (1, .int x1), (2, .long x2)], [], zHp s) (fun o => o = zoU r) := by
  unfold F_R_operand_101 at hF
  refine zi_iconst (v := (0 : Int32)) rfl rfl ?_
  exact zk_sb (zJ_R_operand_102   _ _ _ _ _ hF) rfl ⟨rfl, rfl, rfl, trivial⟩
theorem zJ_R_operand_61 {X : zkX} (x1 : Int32) (x2 : Int64) (y0 : Int32) (s : zSt) (r) (hF : F_R_operand_61   x1 x2 y0 s = some r) : zk_W X 1 m_R_operand (61, [(0, .ref 7), (1, .int x1), (2, .long x2)], [.int y0, .ref 7], zHp s) (fun o => o = zoU r) := by
  unfold F_R_operand_61 at hF
  obtain ⟨v3, s4, hm, hF⟩ := zf_b hF
  refine zi_callV rfl rfl rfl (zh_R _) rfl (zk_C.to (zk_C.up (by decide) (zF_R_says hm)) (fun o ho => zk_K.okv ho ?_))
  refine zi_ifne rfl (fun hc => ?_) (fun hc => ?_)
  · have hF := zf_n hc hF
    refine zi_aload_n rfl rfl ?_
    refine zi_iload_n rfl rfl ?_
    refine zi_putfield rfl rfl (zh_R _) rfl rfl (zs_I17 _ _) ?_
    refine zi_lload_n rfl rfl ?_
    refine zi_bipush (v := (52 : Int32)) rfl rfl ?_
    refine zi_lshr rfl ?_
    refine zi_ldc2_w (v := (2047 : Int64)) rfl rfl ?_
    refine zi_land rfl ?_
    refine zi_ldc2_w (v := (2047 : Int64)) rfl rfl ?_
    refine zi_lcmp rfl ?_
    refine zi_ifne rfl (fun hc => ?_) (fun hc => ?_)
    · have hF := zf_n hc hF
      exact zk_sb (zJ_R_operand_101   _ _ _ _ hF) rfl ⟨rfl, rfl, rfl, trivial⟩
    · have hF := zf_p hc hF
      refine zi_lload_n rfl rfl ?_
      refine zi_bipush (v := (12 : Int32)) rfl rfl ?_
      refine zi_lshl rfl ?_
      refine zi_lconst (v := (0 : Int64)) rfl rfl ?_
      refine zi_lcmp rfl ?_
      refine zi_ifeq rfl (fun hc => ?_) (fun hc => ?_)
      · have hF := zf_p hc hF
        exact zk_sb (zJ_R_operand_101   _ _ _ _ hF) rfl ⟨rfl, rfl, rfl, trivial⟩
      · have hF := zf_n hc hF
        refine zi_iconst (v := (1 : Int32)) rfl rfl ?_
        refine zi_goto rfl ?_
        exact zk_sb (zJ_R_operand_102   _ _ _ _ _ hF) rfl ⟨rfl, rfl, rfl, trivial⟩
  · have hF := zf_p hc hF
    cases hF
    exact zi_return rfl rfl rfl
theorem zJ_R_operand_60 {X : zkX} (x1 : Int32) (x2 : Int64) (s : zSt) (r) (hF : F_R_operand_60   x1 x2 s = some r) : zk_W X 1 m_R_operand (60, [(0, .ref 7), (1, .int x1), (2, .long x2)], [.ref 7], zHp s) (fun o => o = zoU r) := by
  unfold F_R_operand_60 at hF
  refine zi_iconst (v := (0 : Int32)) rfl rfl ?_
  exact zk_sb (zJ_R_operand_61   _ _ _ _ _ hF) rfl ⟨rfl, rfl, rfl, trivial⟩
theorem zJ_R_operand_56 {X : zkX} (x1 : Int32) (x2 : Int64) (s : zSt) (r) (hF : F_R_operand_56   x1 x2 s = some r) : zk_W X 1 m_R_operand (56, [(0, .ref 7), (1, .int x1), (2, .long x2)], [.ref 7], zHp s) (fun o => o = zoU r) := by
  unfold F_R_operand_56 at hF
  refine zi_iconst (v := (1 : Int32)) rfl rfl ?_
  refine zi_goto rfl ?_
  exact zk_sb (zJ_R_operand_61   _ _ _ _ _ hF) rfl ⟨rfl, rfl, rfl, trivial⟩
theorem zJ_R_operand_33 {X : zkX} (x1 : Int32) (x2 : Int64) (y0 : Int32) (s : zSt) (r) (hF : F_R_operand_33   x1 x2 y0 s = some r) : zk_W X 1 m_R_operand (33, [(0, .ref 7), (1, .int x1), (2, .long x2)], [.int y0], zHp s) (fun o => o = zoU r) := by
  unfold F_R_operand_33 at hF
  refine zi_istore rfl rfl rfl ?_
  refine zi_aload_n rfl rfl ?_
  refine zi_iload rfl rfl ?_
  refine zi_ifeq rfl (fun hc => ?_) (fun hc => ?_)
  · have hF := zf_p hc hF
    exact zk_sb (zJ_R_operand_60   _ _ _ _ hF) rfl ⟨rfl, rfl, rfl, trivial⟩
  · have hF := zf_n hc hF
    refine zi_iload_n rfl rfl ?_
    refine zi_iconst (v := (5 : Int32)) rfl rfl ?_
    refine zi_icne rfl (fun hc => ?_) (fun hc => ?_)
    · have hF := zf_n hc hF
      exact zk_sb (zJ_R_operand_56   _ _ _ _ hF) rfl ⟨rfl, rfl, rfl, trivial⟩
    · have hF := zf_p hc hF
      refine zi_aload_n rfl rfl ?_
      refine zi_getfield rfl rfl (zh_R _) rfl ?_
      refine zi_lload_n rfl rfl ?_
      refine zi_l2i rfl ?_
      obtain ⟨hb, hF⟩ := zf_g hF
      refine zi_iaload rfl (zr_A1 _ _) (zin_ok hb) ?_
      refine zi_ifle rfl (fun hc => ?_) (fun hc => ?_)
      · have hF := zf_p hc hF
        exact zk_sb (zJ_R_operand_60   _ _ _ _ hF) rfl ⟨rfl, rfl, rfl, trivial⟩
      · have hF := zf_n hc hF
        exact zk_sb (zJ_R_operand_56   _ _ _ _ hF) rfl ⟨rfl, rfl, rfl, trivial⟩
theorem zJ_R_operand_32 {X : zkX} (x1 : Int32) (x2 : Int64) (s : zSt) (r) (hF : F_R_operand_32   x1 x2 s = some r) : zk_W X 1 m_R_operand (32, [(0, .ref 7), (1, .int x1), (2, .long x2)], [], zHp s) (fun o => o = zoU r) := by
  unfold F_R_operand_32 at hF
  refine zi_iconst (v := (0 : Int32)) rfl rfl ?_
  exact zk_sb (zJ_R_operand_33   _ _ _ _ _ hF) rfl ⟨rfl, rfl, rfl, trivial⟩
theorem zJ_R_operand_28 {X : zkX} (x1 : Int32) (x2 : Int64) (s : zSt) (r) (hF : F_R_operand_28   x1 x2 s = some r) : zk_W X 1 m_R_operand (28, [(0, .ref 7), (1, .int x1), (2, .long x2)], [], zHp s) (fun o => o = zoU r) := by
  unfold F_R_operand_28 at hF
  refine zi_iconst (v := (1 : Int32)) rfl rfl ?_
  refine zi_goto rfl ?_
  exact zk_sb (zJ_R_operand_33   _ _ _ _ _ hF) rfl ⟨rfl, rfl, rfl, trivial⟩
theorem zF_R_operand {X : zkX} {p1 : Int32} {p2 : Int64} {s : zSt} {r} (hF : F_R_operand p1 p2 s = some r) : zk_C X 2 m_R_operand [.ref 7, .int p1, .long p2] (zHp s) (fun o => o = zoU r) := by
  unfold F_R_operand at hF
  refine zk_enter (lv := [(0, .ref 7), (1, .int p1), (2, .long p2)]) rfl rfl ?_
  refine zi_iload_n rfl rfl ?_
  refine zi_i2l rfl ?_
  refine zi_lconst (v := (0 : Int64)) rfl rfl ?_
  refine zi_ldc2_w (v := (5 : Int64)) rfl rfl ?_
  obtain ⟨v1, s2, hm, hF⟩ := zf_b hF
  refine zi_callS rfl rfl rfl rfl (zk_C.to (zk_C.up (by decide) (zF_R_in hm)) (fun o ho => zk_K.okv ho ?_))
  refine zi_ifeq rfl (fun hc => ?_) (fun hc => ?_)
  · have hF := zf_p hc hF
    exact zk_sb (zJ_R_operand_32   _ _ _ _ hF) rfl ⟨rfl, rfl, rfl, trivial⟩
  · have hF := zf_n hc hF
    refine zi_iload_n rfl rfl ?_
    refine zi_iconst (v := (5 : Int32)) rfl rfl ?_
    refine zi_icne rfl (fun hc => ?_) (fun hc => ?_)
    · have hF := zf_n hc hF
      exact zk_sb (zJ_R_operand_28   _ _ _ _ hF) rfl ⟨rfl, rfl, rfl, trivial⟩
    · have hF := zf_p hc hF
      refine zi_lload_n rfl rfl ?_
      refine zi_lconst (v := (0 : Int64)) rfl rfl ?_
      refine zi_ldc2_w (v := (23 : Int64)) rfl rfl ?_
      obtain ⟨v5, s6, hm, hF⟩ := zf_b hF
      refine zi_callS rfl rfl rfl rfl (zk_C.to (zk_C.up (by decide) (zF_R_in hm)) (fun o ho => zk_K.okv ho ?_))
      refine zi_ifeq rfl (fun hc => ?_) (fun hc => ?_)
      · have hF := zf_p hc hF
        exact zk_sb (zJ_R_operand_32   _ _ _ _ hF) rfl ⟨rfl, rfl, rfl, trivial⟩
      · have hF := zf_n hc hF
        exact zk_sb (zJ_R_operand_28   _ _ _ _ hF) rfl ⟨rfl, rfl, rfl, trivial⟩
/-! m_R_kind -/
def F_R_kind  (s : zSt) : Option (Int32 × zSt) := some ((gI (sI s 13 (0 : Int32)) 18), (sI s 13 (0 : Int32)))
theorem zF_R_kind {X : zkX} {s : zSt} {r} (hF : F_R_kind  s = some r) : zk_C X 1 m_R_kind [.ref 7] (zHp s) (fun o => o = zoI r) := by
  unfold F_R_kind at hF
  refine zk_enter (lv := [(0, .ref 7)]) rfl rfl ?_
  refine zi_aload_n rfl rfl ?_
  refine zi_iconst (v := (0 : Int32)) rfl rfl ?_
  refine zi_putfield rfl rfl (zh_R _) rfl rfl (zs_I13 _ _) ?_
  refine zi_aload_n rfl rfl ?_
  refine zi_getfield rfl rfl (zh_R _) rfl ?_
  cases hF
  exact zi_ireturn rfl rfl rfl
/-! m_R_bits -/
def F_R_bits_28 (y0 : Int64) (s : zSt) : Option (Int64 × zSt) := some (y0, s)
def F_R_bits_14 (y0 : Int32) (s : zSt) : Option (Int64 × zSt) := (zb (F_R_says (y0) s) (fun v1 s2 => (if v1 = 0 then F_R_bits_28    ((0 : Int64)) s2 else F_R_bits_28    ((gJ s2 4)) s2)))
def F_R_bits  (s : zSt) : Option (Int64 × zSt) := (if (gI s 18) = (4 : Int32) then F_R_bits_14    ((1 : Int32)) s else F_R_bits_14    ((0 : Int32)) s)
theorem zJ_R_bits_28 {X : zkX} (y0 : Int64) (s : zSt) (r) (hF : F_R_bits_28   y0 s = some r) : zk_W X 1 m_R_bits (28, [], [.long y0], zHp s) (fun o => o = zoL r) := by
  unfold F_R_bits_28 at hF
  cases hF
  exact zi_lreturn rfl rfl rfl
theorem zJ_R_bits_14 {X : zkX} (y0 : Int32) (s : zSt) (r) (hF : F_R_bits_14   y0 s = some r) : zk_W X 1 m_R_bits (14, [(0, .ref 7)], [.int y0, .ref 7], zHp s) (fun o => o = zoL r) := by
  unfold F_R_bits_14 at hF
  obtain ⟨v1, s2, hm, hF⟩ := zf_b hF
  refine zi_callV rfl rfl rfl (zh_R _) rfl (zk_C.to (zk_C.up (by decide) (zF_R_says hm)) (fun o ho => zk_K.okv ho ?_))
  refine zi_ifeq rfl (fun hc => ?_) (fun hc => ?_)
  · have hF := zf_p hc hF
    refine zi_lconst (v := (0 : Int64)) rfl rfl ?_
    exact zk_sb (zJ_R_bits_28   _ _ _ hF) rfl trivial
  · have hF := zf_n hc hF
    refine zi_aload_n rfl rfl ?_
    refine zi_getfield rfl rfl (zh_R _) rfl ?_
    refine zi_goto rfl ?_
    exact zk_sb (zJ_R_bits_28   _ _ _ hF) rfl trivial
theorem zF_R_bits {X : zkX} {s : zSt} {r} (hF : F_R_bits  s = some r) : zk_C X 2 m_R_bits [.ref 7] (zHp s) (fun o => o = zoL r) := by
  unfold F_R_bits at hF
  refine zk_enter (lv := [(0, .ref 7)]) rfl rfl ?_
  refine zi_aload_n rfl rfl ?_
  refine zi_aload_n rfl rfl ?_
  refine zi_getfield rfl rfl (zh_R _) rfl ?_
  refine zi_iconst (v := (4 : Int32)) rfl rfl ?_
  refine zi_icne rfl (fun hc => ?_) (fun hc => ?_)
  · have hF := zf_n hc hF
    refine zi_iconst (v := (0 : Int32)) rfl rfl ?_
    exact zk_sb (zJ_R_bits_14   _ _ _ hF) rfl ⟨rfl, trivial⟩
  · have hF := zf_p hc hF
    refine zi_iconst (v := (1 : Int32)) rfl rfl ?_
    refine zi_goto rfl ?_
    exact zk_sb (zJ_R_bits_14   _ _ _ hF) rfl ⟨rfl, trivial⟩
/-! m_R_hold -/
def F_R_hold_46  (s : zSt) : Option (Unit × zSt) := some ((), s)
def F_R_hold_25 (x1 : Int32) (y0 : Int32) (s : zSt) : Option (Unit × zSt) := (if (gI (sI s 13 y0) 13) = 0 then (if zin x1 24 then F_R_hold_46     (sA (sI s 13 y0) 1 (upd (gA (sI s 13 y0) 1) (x1).toNatClampNeg ((gJ (sI s 13 y0) 4)).toInt32)) else none) else F_R_hold_46     (sI s 13 y0))
def F_R_hold (p1 : Int32) (s : zSt) : Option (Unit × zSt) := (zb (F_R_isRoot (p1) s) (fun v1 s2 => (if v1 = 0 then F_R_hold_25    (p1) ((1 : Int32)) s2 else (if (gI s2 18) = (5 : Int32) then F_R_hold_25    (p1) ((0 : Int32)) s2 else F_R_hold_25    (p1) ((2 : Int32)) s2))))
theorem zJ_R_hold_46 {X : zkX}  (s : zSt) (r) (hF : F_R_hold_46    s = some r) : zk_W X 2 m_R_hold (46, [], [], zHp s) (fun o => o = zoU r) := by
  unfold F_R_hold_46 at hF
  cases hF
  exact zi_return rfl rfl rfl
theorem zJ_R_hold_25 {X : zkX} (x1 : Int32) (y0 : Int32) (s : zSt) (r) (hF : F_R_hold_25   x1 y0 s = some r) : zk_W X 2 m_R_hold (25, [(0, .ref 7), (1, .int x1)], [.int y0, .ref 7], zHp s) (fun o => o = zoU r) := by
  unfold F_R_hold_25 at hF
  refine zi_putfield rfl rfl (zh_R _) rfl rfl (zs_I13 _ _) ?_
  refine zi_aload_n rfl rfl ?_
  refine zi_getfield rfl rfl (zh_R _) rfl ?_
  refine zi_ifne rfl (fun hc => ?_) (fun hc => ?_)
  · have hF := zf_n hc hF
    exact zk_sb (zJ_R_hold_46    _ _ hF) rfl trivial
  · have hF := zf_p hc hF
    refine zi_aload_n rfl rfl ?_
    refine zi_getfield rfl rfl (zh_R _) rfl ?_
    refine zi_iload_n rfl rfl ?_
    refine zi_aload_n rfl rfl ?_
    refine zi_getfield rfl rfl (zh_R _) rfl ?_
    refine zi_l2i rfl ?_
    obtain ⟨hb, hF⟩ := zf_g hF
    refine zi_iastore rfl (zh_A1 _) (zin_ok hb) (zs_A1 _ _) ?_
    exact zk_sb (zJ_R_hold_46    _ _ hF) rfl trivial
theorem zF_R_hold {X : zkX} {p1 : Int32} {s : zSt} {r} (hF : F_R_hold p1 s = some r) : zk_C X 3 m_R_hold [.ref 7, .int p1] (zHp s) (fun o => o = zoU r) := by
  unfold F_R_hold at hF
  refine zk_enter (lv := [(0, .ref 7), (1, .int p1)]) rfl rfl ?_
  refine zi_aload_n rfl rfl ?_
  refine zi_iload_n rfl rfl ?_
  obtain ⟨v1, s2, hm, hF⟩ := zf_b hF
  refine zi_callS rfl rfl rfl rfl (zk_C.to (zk_C.up (by decide) (zF_R_isRoot hm)) (fun o ho => zk_K.okv ho ?_))
  refine zi_ifne rfl (fun hc => ?_) (fun hc => ?_)
  · have hF := zf_n hc hF
    refine zi_aload_n rfl rfl ?_
    refine zi_getfield rfl rfl (zh_R _) rfl ?_
    refine zi_iconst (v := (5 : Int32)) rfl rfl ?_
    refine zi_icne rfl (fun hc => ?_) (fun hc => ?_)
    · have hF := zf_n hc hF
      refine zi_iconst (v := (2 : Int32)) rfl rfl ?_
      exact zk_sb (zJ_R_hold_25   _ _ _ _ hF) rfl ⟨rfl, rfl, trivial⟩
    · have hF := zf_p hc hF
      refine zi_iconst (v := (0 : Int32)) rfl rfl ?_
      refine zi_goto rfl ?_
      exact zk_sb (zJ_R_hold_25   _ _ _ _ hF) rfl ⟨rfl, rfl, trivial⟩
  · have hF := zf_p hc hF
    refine zi_iconst (v := (1 : Int32)) rfl rfl ?_
    refine zi_goto rfl ?_
    exact zk_sb (zJ_R_hold_25   _ _ _ _ hF) rfl ⟨rfl, rfl, trivial⟩
/-! m_R_isKey -/
def F_R_isKey (p0 : Int64) (s : zSt) : Option (Int32 × zSt) := (zb (F_R_in (p0) ((-64 : Int64)) ((4294967294 : Int64)) s) (fun v1 s2 => (if vp_nar .boolean v1 = v1 then some (v1, s2) else none)))
theorem zF_R_isKey {X : zkX} {p0 : Int64} {s : zSt} {r} (hF : F_R_isKey p0 s = some r) : zk_C X 2 m_R_isKey [.long p0] (zHp s) (fun o => o = zoI r) := by
  unfold F_R_isKey at hF
  refine zk_enter (lv := [(0, .long p0)]) rfl rfl ?_
  refine zi_lload_n rfl rfl ?_
  refine zi_ldc2_w (v := (-64 : Int64)) rfl rfl ?_
  refine zi_ldc2_w (v := (4294967294 : Int64)) rfl rfl ?_
  obtain ⟨v1, s2, hm, hF⟩ := zf_b hF
  refine zi_callS rfl rfl rfl rfl (zk_C.to (zk_C.up (by decide) (zF_R_in hm)) (fun o ho => zk_K.okv ho ?_))
  obtain ⟨hz, hF⟩ := zf_g hF
  cases hF
  exact zi_zreturn rfl rfl hz rfl
/-! m_R_isTold -/
def F_R_isTold_11 (y0 : Int32) (s : zSt) : Option (Int32 × zSt) := (if vp_nar .boolean y0 = y0 then some (y0, s) else none)
def F_R_isTold (p0 : Int32) (p1 : Int32) (s : zSt) : Option (Int32 × zSt) := (if (p0 &&& p1) = 0 then F_R_isTold_11    ((0 : Int32)) s else F_R_isTold_11    ((1 : Int32)) s)
theorem zJ_R_isTold_11 {X : zkX} (y0 : Int32) (s : zSt) (r) (hF : F_R_isTold_11   y0 s = some r) : zk_W X 0 m_R_isTold (11, [], [.int y0], zHp s) (fun o => o = zoI r) := by
  unfold F_R_isTold_11 at hF
  obtain ⟨hz, hF⟩ := zf_g hF
  cases hF
  exact zi_zreturn rfl rfl hz rfl
theorem zF_R_isTold {X : zkX} {p0 : Int32} {p1 : Int32} {s : zSt} {r} (hF : F_R_isTold p0 p1 s = some r) : zk_C X 1 m_R_isTold [.int p0, .int p1] (zHp s) (fun o => o = zoI r) := by
  unfold F_R_isTold at hF
  refine zk_enter (lv := [(0, .int p0), (1, .int p1)]) rfl rfl ?_
  refine zi_iload_n rfl rfl ?_
  refine zi_iload_n rfl rfl ?_
  refine zi_iand rfl ?_
  refine zi_ifeq rfl (fun hc => ?_) (fun hc => ?_)
  · have hF := zf_p hc hF
    refine zi_iconst (v := (0 : Int32)) rfl rfl ?_
    exact zk_sb (zJ_R_isTold_11   _ _ _ hF) rfl trivial
  · have hF := zf_n hc hF
    refine zi_iconst (v := (1 : Int32)) rfl rfl ?_
    refine zi_goto rfl ?_
    exact zk_sb (zJ_R_isTold_11   _ _ _ hF) rfl trivial
/-! m_R_isPart -/
def F_R_isPart_18 (y0 : Int32) (s : zSt) : Option (Int32 × zSt) := (if vp_nar .boolean y0 = y0 then some (y0, s) else none)
def F_R_isPart_13  (s : zSt) : Option (Int32 × zSt) := F_R_isPart_18    ((1 : Int32)) s
def F_R_isPart (p1 : Int32) (s : zSt) : Option (Int32 × zSt) := (if p1 = (-1 : Int32) then F_R_isPart_13     s else (zb (F_R_holds (p1) s) (fun v1 s2 => (if v1 = 0 then F_R_isPart_18    ((0 : Int32)) s2 else F_R_isPart_13     s2))))
theorem zJ_R_isPart_18 {X : zkX} (y0 : Int32) (s : zSt) (r) (hF : F_R_isPart_18   y0 s = some r) : zk_W X 3 m_R_isPart (18, [], [.int y0], zHp s) (fun o => o = zoI r) := by
  unfold F_R_isPart_18 at hF
  obtain ⟨hz, hF⟩ := zf_g hF
  cases hF
  exact zi_zreturn rfl rfl hz rfl
theorem zJ_R_isPart_13 {X : zkX}  (s : zSt) (r) (hF : F_R_isPart_13    s = some r) : zk_W X 3 m_R_isPart (13, [], [], zHp s) (fun o => o = zoI r) := by
  unfold F_R_isPart_13 at hF
  refine zi_iconst (v := (1 : Int32)) rfl rfl ?_
  refine zi_goto rfl ?_
  exact zk_sb (zJ_R_isPart_18   _ _ _ hF) rfl trivial
theorem zF_R_isPart {X : zkX} {p1 : Int32} {s : zSt} {r} (hF : F_R_isPart p1 s = some r) : zk_C X 4 m_R_isPart [.ref 7, .int p1] (zHp s) (fun o => o = zoI r) := by
  unfold F_R_isPart at hF
  refine zk_enter (lv := [(0, .ref 7), (1, .int p1)]) rfl rfl ?_
  refine zi_iload_n rfl rfl ?_
  refine zi_iconst (v := (-1 : Int32)) rfl rfl ?_
  refine zi_iceq rfl (fun hc => ?_) (fun hc => ?_)
  · have hF := zf_p hc hF
    exact zk_sb (zJ_R_isPart_13    _ _ hF) rfl trivial
  · have hF := zf_n hc hF
    refine zi_aload_n rfl rfl ?_
    refine zi_iload_n rfl rfl ?_
    obtain ⟨v1, s2, hm, hF⟩ := zf_b hF
    refine zi_callV rfl rfl rfl (zh_R _) rfl (zk_C.to (zk_C.up (by decide) (zF_R_holds hm)) (fun o ho => zk_K.okv ho ?_))
    refine zi_ifeq rfl (fun hc => ?_) (fun hc => ?_)
    · have hF := zf_p hc hF
      refine zi_iconst (v := (0 : Int32)) rfl rfl ?_
      exact zk_sb (zJ_R_isPart_18   _ _ _ hF) rfl trivial
    · have hF := zf_n hc hF
      exact zk_sb (zJ_R_isPart_13    _ _ hF) rfl trivial
/-! m_R_wholeOf -/
def F_R_wholeOf_40  (s : zSt) : Option (Int64 × zSt) := some ((-1 : Int64), s)
def F_R_wholeOf_81 (y0 : Int64) (s : zSt) : Option (Int64 × zSt) := some (y0, s)
def F_R_wholeOf (p0 : Int64) (s : zSt) : Option (Int64 × zSt) := (if (lg_cmp (p0 <<< (((1 : Int32)).toInt64 &&& 63)) (0 : Int64)) = 0 then some ((0 : Int64), s) else (if (lg_cmp p0 (0 : Int64)) < 0 then F_R_wholeOf_40     s else (if ((((p0 >>> (((52 : Int32)).toInt64 &&& 63)) &&& (2047 : Int64))).toInt32 - (1023 : Int32)) < 0 then F_R_wholeOf_40     s else (if ((((p0 >>> (((52 : Int32)).toInt64 &&& 63)) &&& (2047 : Int64))).toInt32 - (1023 : Int32)) ≤ (31 : Int32) then (if (lg_cmp (((p0 &&& (4503599627370495 : Int64)) ||| (4503599627370496 : Int64)) &&& (((1 : Int64) <<< ((((52 : Int32) - ((((p0 >>> (((52 : Int32)).toInt64 &&& 63)) &&& (2047 : Int64))).toInt32 - (1023 : Int32)))).toInt64 &&& 63)) - (1 : Int64))) (0 : Int64)) = 0 then F_R_wholeOf_81    ((((p0 &&& (4503599627370495 : Int64)) ||| (4503599627370496 : Int64)) >>> ((((52 : Int32) - ((((p0 >>> (((52 : Int32)).toInt64 &&& 63)) &&& (2047 : Int64))).toInt32 - (1023 : Int32)))).toInt64 &&& 63))) s else F_R_wholeOf_81    ((-1 : Int64)) s) else F_R_wholeOf_40     s))))
theorem zJ_R_wholeOf_40 {X : zkX}  (s : zSt) (r) (hF : F_R_wholeOf_40    s = some r) : zk_W X 0 m_R_wholeOf (40, [], [], zHp s) (fun o => o = zoL r) := by
  unfold F_R_wholeOf_40 at hF
  refine zi_ldc2_w (v := (-1 : Int64)) rfl rfl ?_
  cases hF
  exact zi_lreturn rfl rfl rfl
theorem zJ_R_wholeOf_81 {X : zkX} (y0 : Int64) (s : zSt) (r) (hF : F_R_wholeOf_81   y0 s = some r) : zk_W X 0 m_R_wholeOf (81, [], [.long y0], zHp s) (fun o => o = zoL r) := by
  unfold F_R_wholeOf_81 at hF
  cases hF
  exact zi_lreturn rfl rfl rfl
theorem zF_R_wholeOf {X : zkX} {p0 : Int64} {s : zSt} {r} (hF : F_R_wholeOf p0 s = some r) : zk_C X 1 m_R_wholeOf [.long p0] (zHp s) (fun o => o = zoL r) := by
  unfold F_R_wholeOf at hF
  refine zk_enter (lv := [(0, .long p0)]) rfl rfl ?_
  refine zi_lload_n rfl rfl ?_
  refine zi_bipush (v := (52 : Int32)) rfl rfl ?_
  refine zi_lshr rfl ?_
  refine zi_ldc2_w (v := (2047 : Int64)) rfl rfl ?_
  refine zi_land rfl ?_
  refine zi_l2i rfl ?_
  refine zi_sipush (v := (1023 : Int32)) rfl rfl ?_
  refine zi_isub rfl ?_
  refine zi_istore_n rfl rfl rfl ?_
  refine zi_lload_n rfl rfl ?_
  refine zi_iconst (v := (1 : Int32)) rfl rfl ?_
  refine zi_lshl rfl ?_
  refine zi_lconst (v := (0 : Int64)) rfl rfl ?_
  refine zi_lcmp rfl ?_
  refine zi_ifne rfl (fun hc => ?_) (fun hc => ?_)
  · have hF := zf_n hc hF
    refine zi_lload_n rfl rfl ?_
    refine zi_lconst (v := (0 : Int64)) rfl rfl ?_
    refine zi_lcmp rfl ?_
    refine zi_iflt rfl (fun hc => ?_) (fun hc => ?_)
    · have hF := zf_p hc hF
      exact zk_sb (zJ_R_wholeOf_40    _ _ hF) rfl trivial
    · have hF := zf_n hc hF
      refine zi_iload_n rfl rfl ?_
      refine zi_iflt rfl (fun hc => ?_) (fun hc => ?_)
      · have hF := zf_p hc hF
        exact zk_sb (zJ_R_wholeOf_40    _ _ hF) rfl trivial
      · have hF := zf_n hc hF
        refine zi_iload_n rfl rfl ?_
        refine zi_bipush (v := (31 : Int32)) rfl rfl ?_
        refine zi_icle rfl (fun hc => ?_) (fun hc => ?_)
        · have hF := zf_p hc hF
          refine zi_lload_n rfl rfl ?_
          refine zi_ldc2_w (v := (4503599627370495 : Int64)) rfl rfl ?_
          refine zi_land rfl ?_
          refine zi_ldc2_w (v := (4503599627370496 : Int64)) rfl rfl ?_
          refine zi_lor rfl ?_
          refine zi_lstore_n rfl rfl rfl ?_
          refine zi_lload_n rfl rfl ?_
          refine zi_lconst (v := (1 : Int64)) rfl rfl ?_
          refine zi_bipush (v := (52 : Int32)) rfl rfl ?_
          refine zi_iload_n rfl rfl ?_
          refine zi_isub rfl ?_
          refine zi_lshl rfl ?_
          refine zi_lconst (v := (1 : Int64)) rfl rfl ?_
          refine zi_lsub rfl ?_
          refine zi_land rfl ?_
          refine zi_lconst (v := (0 : Int64)) rfl rfl ?_
          refine zi_lcmp rfl ?_
          refine zi_ifne rfl (fun hc => ?_) (fun hc => ?_)
          · have hF := zf_n hc hF
            refine zi_ldc2_w (v := (-1 : Int64)) rfl rfl ?_
            exact zk_sb (zJ_R_wholeOf_81   _ _ _ hF) rfl trivial
          · have hF := zf_p hc hF
            refine zi_lload_n rfl rfl ?_
            refine zi_bipush (v := (52 : Int32)) rfl rfl ?_
            refine zi_iload_n rfl rfl ?_
            refine zi_isub rfl ?_
            refine zi_lshr rfl ?_
            refine zi_goto rfl ?_
            exact zk_sb (zJ_R_wholeOf_81   _ _ _ hF) rfl trivial
        · have hF := zf_n hc hF
          exact zk_sb (zJ_R_wholeOf_40    _ _ hF) rfl trivial
  · have hF := zf_p hc hF
    refine zi_lconst (v := (0 : Int64)) rfl rfl ?_
    cases hF
    exact zi_lreturn rfl rfl rfl

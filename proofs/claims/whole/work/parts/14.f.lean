/-! m_M_setWord -/
def F_M_setWord_33  (s : zSt) : Option (Unit × zSt) := some ((), s)
def F_M_setWord (p1 : Int32) (p2 : Int32) (p3 : Int64) (s : zSt) : Option (Unit × zSt) := (if (((p1 - (1 : Int32)) * (8 : Int32)) + p2) < 0 then F_M_setWord_33     s else (if (Int32.ofNat (gN s)) ≤ (((p1 - (1 : Int32)) * (8 : Int32)) + p2) then F_M_setWord_33     s else (if zin (((p1 - (1 : Int32)) * (8 : Int32)) + p2) (gN s) then F_M_setWord_33     (sB s 0 (vp_updL (gB s 0) ((((p1 - (1 : Int32)) * (8 : Int32)) + p2)).toNatClampNeg p3)) else none)))
theorem zJ_M_setWord_33 {X : zkX}  (s : zSt) (r) (hF : F_M_setWord_33    s = some r) : zk_W X 0 m_M_setWord (33, [], [], zHp s) (fun o => o = zoU r) := by
  unfold F_M_setWord_33 at hF
  cases hF
  exact zi_return rfl rfl rfl
theorem zF_M_setWord {X : zkX} {p1 : Int32} {p2 : Int32} {p3 : Int64} {s : zSt} {r} (hF : F_M_setWord p1 p2 p3 s = some r) : zk_C X 1 m_M_setWord [.ref 3, .int p1, .int p2, .long p3] (zHp s) (fun o => o = zoU r) := by
  unfold F_M_setWord at hF
  refine zk_enter (lv := [(0, .ref 3), (1, .int p1), (2, .int p2), (3, .long p3)]) rfl rfl ?_
  refine zi_iload_n rfl rfl ?_
  refine zi_iconst (v := (1 : Int32)) rfl rfl ?_
  refine zi_isub rfl ?_
  refine zi_bipush (v := (8 : Int32)) rfl rfl ?_
  refine zi_imul rfl ?_
  refine zi_iload_n rfl rfl ?_
  refine zi_iadd rfl ?_
  refine zi_istore rfl rfl rfl ?_
  refine zi_iload rfl rfl ?_
  refine zi_iflt rfl (fun hc => ?_) (fun hc => ?_)
  · have hF := zf_p hc hF
    exact zk_sb (zJ_M_setWord_33    _ _ hF) rfl trivial
  · have hF := zf_n hc hF
    refine zi_iload rfl rfl ?_
    refine zi_aload_n rfl rfl ?_
    refine zi_getfield rfl rfl (zh_M _) rfl ?_
    refine zi_alen_l (v := _) rfl (zr_W _ _) rfl ?_
    refine zi_icge rfl (fun hc => ?_) (fun hc => ?_)
    · have hF := zf_p hc hF
      exact zk_sb (zJ_M_setWord_33    _ _ hF) rfl trivial
    · have hF := zf_n hc hF
      refine zi_aload_n rfl rfl ?_
      refine zi_getfield rfl rfl (zh_M _) rfl ?_
      refine zi_iload rfl rfl ?_
      refine zi_lload_n rfl rfl ?_
      obtain ⟨hb, hF⟩ := zf_g hF
      refine zi_lastore rfl (zh_W _) (zin_ok hb) (zs_W _ _) ?_
      exact zk_sb (zJ_M_setWord_33    _ _ hF) rfl trivial
/-! m_M_release -/
def F_M_release (p1 : Int32) (s : zSt) : Option (Unit × zSt) := (zb (F_M_setWord (p1) ((1 : Int32)) (((gI s 3)).toInt64) s) (fun v1 s2 => some ((), (sI (sI s2 3 p1) 4 ((gI (sI s2 3 p1) 4) + (1 : Int32))))))
theorem zF_M_release {X : zkX} {p1 : Int32} {s : zSt} {r} (hF : F_M_release p1 s = some r) : zk_C X 2 m_M_release [.ref 3, .int p1] (zHp s) (fun o => o = zoU r) := by
  unfold F_M_release at hF
  refine zk_enter (lv := [(0, .ref 3), (1, .int p1)]) rfl rfl ?_
  refine zi_aload_n rfl rfl ?_
  refine zi_iload_n rfl rfl ?_
  refine zi_iconst (v := (1 : Int32)) rfl rfl ?_
  refine zi_aload_n rfl rfl ?_
  refine zi_getfield rfl rfl (zh_M _) rfl ?_
  refine zi_i2l rfl ?_
  obtain ⟨v1, s2, hm, hF⟩ := zf_b hF
  refine zi_callV rfl rfl rfl (zh_M _) rfl (zk_C.to (zk_C.up (by decide) (zF_M_setWord hm)) (fun o ho => zk_K.okn ho ?_))
  refine zi_aload_n rfl rfl ?_
  refine zi_iload_n rfl rfl ?_
  refine zi_putfield rfl rfl (zh_M _) rfl rfl (zs_I3 _ _) ?_
  refine zi_aload_n rfl rfl ?_
  refine zi_dupa rfl ?_
  refine zi_getfield rfl rfl (zh_M _) rfl ?_
  refine zi_iconst (v := (1 : Int32)) rfl rfl ?_
  refine zi_iadd rfl ?_
  refine zi_putfield rfl rfl (zh_M _) rfl rfl (zs_I4 _ _) ?_
  cases hF
  exact zi_return rfl rfl rfl
/-! m_X_kind -/
def F_X_kind  (s : zSt) : Option (Int32 × zSt) := some ((gI s 1), s)
theorem zF_X_kind {X : zkX} {s : zSt} {r} (hF : F_X_kind  s = some r) : zk_C X 1 m_X_kind [.ref 1] (zHp s) (fun o => o = zoI r) := by
  unfold F_X_kind at hF
  refine zk_enter (lv := [(0, .ref 1)]) rfl rfl ?_
  refine zi_aload_n rfl rfl ?_
  refine zi_getfield rfl rfl (zh_X _) rfl ?_
  cases hF
  exact zi_ireturn rfl rfl rfl
/-! m_X_needRoot -/
def F_X_needRoot_10  (s : zSt) : Option ((Unit ⊕ Nat) × zSt) := some (.inr 0, zpush s)
def F_X_needRoot (p0 : Int32) (s : zSt) : Option ((Unit ⊕ Nat) × zSt) := (if p0 < 0 then F_X_needRoot_10     s else (if p0 < (24 : Int32) then some (.inl (), s) else F_X_needRoot_10     s))
theorem zJ_X_needRoot_10 {X : zkX}  (s : zSt) (r) (hF : F_X_needRoot_10    s = some r) : zk_W X 6 m_X_needRoot (10, [], [], zHp s) (fun o => o = ztU r) := by
  unfold F_X_needRoot_10 at hF
  cases hF
  exact zi_throw rfl rfl rfl rfl rfl (by rw [zh_push]; rfl)
theorem zF_X_needRoot {X : zkX} {p0 : Int32} {s : zSt} {r} (hF : F_X_needRoot p0 s = some r) : zk_C X 7 m_X_needRoot [.int p0] (zHp s) (fun o => o = ztU r) := by
  unfold F_X_needRoot at hF
  refine zk_enter (lv := [(0, .int p0)]) rfl rfl ?_
  refine zi_iload_n rfl rfl ?_
  refine zi_iflt rfl (fun hc => ?_) (fun hc => ?_)
  · have hF := zf_p hc hF
    exact zk_sb (zJ_X_needRoot_10    _ _ hF) rfl trivial
  · have hF := zf_n hc hF
    refine zi_iload_n rfl rfl ?_
    refine zi_bipush (v := (24 : Int32)) rfl rfl ?_
    refine zi_iclt rfl (fun hc => ?_) (fun hc => ?_)
    · have hF := zf_p hc hF
      cases hF
      exact zi_return rfl rfl rfl
    · have hF := zf_n hc hF
      exact zk_sb (zJ_X_needRoot_10    _ _ hF) rfl trivial
/-! m_M_kept -/
def F_M_kept_23 (y0 : Int32) (s : zSt) : Option (Int32 × zSt) := some (y0, s)
def F_M_kept_22  (s : zSt) : Option (Int32 × zSt) := F_M_kept_23    ((0 : Int32)) s
def F_M_kept (p1 : Int32) (s : zSt) : Option (Int32 × zSt) := (if p1 < 0 then F_M_kept_22     s else (if (27 : Int32) ≤ p1 then F_M_kept_22     s else (if zin p1 27 then F_M_kept_23    ((gA s 0 (p1).toNatClampNeg)) s else none)))
theorem zJ_M_kept_23 {X : zkX} (y0 : Int32) (s : zSt) (r) (hF : F_M_kept_23   y0 s = some r) : zk_W X 0 m_M_kept (23, [], [.int y0], zHp s) (fun o => o = zoI r) := by
  unfold F_M_kept_23 at hF
  cases hF
  exact zi_ireturn rfl rfl rfl
theorem zJ_M_kept_22 {X : zkX}  (s : zSt) (r) (hF : F_M_kept_22    s = some r) : zk_W X 0 m_M_kept (22, [], [], zHp s) (fun o => o = zoI r) := by
  unfold F_M_kept_22 at hF
  refine zi_iconst (v := (0 : Int32)) rfl rfl ?_
  exact zk_sb (zJ_M_kept_23   _ _ _ hF) rfl trivial
theorem zF_M_kept {X : zkX} {p1 : Int32} {s : zSt} {r} (hF : F_M_kept p1 s = some r) : zk_C X 1 m_M_kept [.ref 3, .int p1] (zHp s) (fun o => o = zoI r) := by
  unfold F_M_kept at hF
  refine zk_enter (lv := [(0, .ref 3), (1, .int p1)]) rfl rfl ?_
  refine zi_iload_n rfl rfl ?_
  refine zi_iflt rfl (fun hc => ?_) (fun hc => ?_)
  · have hF := zf_p hc hF
    exact zk_sb (zJ_M_kept_22    _ _ hF) rfl trivial
  · have hF := zf_n hc hF
    refine zi_iload_n rfl rfl ?_
    refine zi_aload_n rfl rfl ?_
    refine zi_getfield rfl rfl (zh_M _) rfl ?_
    refine zi_alen_i (v := (27 : Int32)) rfl (zr_A0 _ _) rfl ?_
    refine zi_icge rfl (fun hc => ?_) (fun hc => ?_)
    · have hF := zf_p hc hF
      exact zk_sb (zJ_M_kept_22    _ _ hF) rfl trivial
    · have hF := zf_n hc hF
      refine zi_aload_n rfl rfl ?_
      refine zi_getfield rfl rfl (zh_M _) rfl ?_
      refine zi_iload_n rfl rfl ?_
      obtain ⟨hb, hF⟩ := zf_g hF
      refine zi_iaload rfl (zr_A0 _ _) (zin_ok hb) ?_
      refine zi_goto rfl ?_
      exact zk_sb (zJ_M_kept_23   _ _ _ hF) rfl trivial
/-! m_X_held -/
def F_X_held (p1 : Int32) (s : zSt) : Option ((Int32 ⊕ Nat) × zSt) := (zt (F_X_needRoot (p1) s) (fun v1 s2 => (zb (F_M_kept (p1) s2) (fun v4 s5 => (if v4 = 0 then some (.inr 0, zpush s5) else some (.inl v4, s5))))))
theorem zF_X_held {X : zkX} {p1 : Int32} {s : zSt} {r} (hF : F_X_held p1 s = some r) : zk_C X 8 m_X_held [.ref 1, .int p1] (zHp s) (fun o => o = ztI r) := by
  unfold F_X_held at hF
  refine zk_enter (lv := [(0, .ref 1), (1, .int p1)]) rfl rfl ?_
  refine zi_iload_n rfl rfl ?_
  rcases zf_t hF with ⟨v1, s2, hm, hF⟩ | ⟨x3, s2, hm, hF⟩
  rotate_left
  · subst hF
    exact zi_callS rfl rfl rfl rfl (zk_C.to (zk_C.up (by decide) (zF_X_needRoot hm)) (fun o ho => zk_K.thr (x := x3) (h2 := zHp s2) ho rfl rfl))
  refine zi_callS rfl rfl rfl rfl (zk_C.to (zk_C.up (by decide) (zF_X_needRoot hm)) (fun o ho => zk_K.okn ho ?_))
  refine zi_aload_n rfl rfl ?_
  refine zi_getfield rfl rfl (zh_X _) rfl ?_
  refine zi_iload_n rfl rfl ?_
  obtain ⟨v4, s5, hm, hF⟩ := zf_b hF
  refine zi_callV rfl rfl rfl (zh_M _) rfl (zk_C.to (zk_C.up (by decide) (zF_M_kept hm)) (fun o ho => zk_K.okv ho ?_))
  refine zi_istore_n rfl rfl rfl ?_
  refine zi_iload_n rfl rfl ?_
  refine zi_ifne rfl (fun hc => ?_) (fun hc => ?_)
  · have hF := zf_n hc hF
    refine zi_iload_n rfl rfl ?_
    cases hF
    exact zi_ireturn rfl rfl rfl
  · have hF := zf_p hc hF
    cases hF
    exact zi_throw rfl rfl rfl rfl rfl (by rw [zh_push]; rfl)
/-! m_X_heldOrNone -/
def F_X_heldOrNone_14 (y0 : Int32) (s : zSt) : Option ((Int32 ⊕ Nat) × zSt) := some (.inl y0, s)
def F_X_heldOrNone (p1 : Int32) (s : zSt) : Option ((Int32 ⊕ Nat) × zSt) := (if p1 = (-1 : Int32) then F_X_heldOrNone_14    ((0 : Int32)) s else (zt (F_X_held (p1) s) (fun v1 s2 => F_X_heldOrNone_14    (v1) s2)))
theorem zJ_X_heldOrNone_14 {X : zkX} (y0 : Int32) (s : zSt) (r) (hF : F_X_heldOrNone_14   y0 s = some r) : zk_W X 8 m_X_heldOrNone (14, [], [.int y0], zHp s) (fun o => o = ztI r) := by
  unfold F_X_heldOrNone_14 at hF
  cases hF
  exact zi_ireturn rfl rfl rfl
theorem zF_X_heldOrNone {X : zkX} {p1 : Int32} {s : zSt} {r} (hF : F_X_heldOrNone p1 s = some r) : zk_C X 9 m_X_heldOrNone [.ref 1, .int p1] (zHp s) (fun o => o = ztI r) := by
  unfold F_X_heldOrNone at hF
  refine zk_enter (lv := [(0, .ref 1), (1, .int p1)]) rfl rfl ?_
  refine zi_iload_n rfl rfl ?_
  refine zi_iconst (v := (-1 : Int32)) rfl rfl ?_
  refine zi_icne rfl (fun hc => ?_) (fun hc => ?_)
  · have hF := zf_n hc hF
    refine zi_aload_n rfl rfl ?_
    refine zi_iload_n rfl rfl ?_
    rcases zf_t hF with ⟨v1, s2, hm, hF⟩ | ⟨x3, s2, hm, hF⟩
    rotate_left
    · subst hF
      exact zi_callV rfl rfl rfl (zh_X _) rfl (zk_C.to (zk_C.up (by decide) (zF_X_held hm)) (fun o ho => zk_K.thr (x := x3) (h2 := zHp s2) ho rfl rfl))
    refine zi_callV rfl rfl rfl (zh_X _) rfl (zk_C.to (zk_C.up (by decide) (zF_X_held hm)) (fun o ho => zk_K.okv ho ?_))
    exact zk_sb (zJ_X_heldOrNone_14   _ _ _ hF) rfl trivial
  · have hF := zf_p hc hF
    refine zi_iconst (v := (0 : Int32)) rfl rfl ?_
    refine zi_goto rfl ?_
    exact zk_sb (zJ_X_heldOrNone_14   _ _ _ hF) rfl trivial
/-! m_M_isCollectionDue -/
def F_M_isCollectionDue  (s : zSt) : Option (Int32 × zSt) := (if (gI s 5) = 0 then some ((0 : Int32), s) else (if (gI (sI s 6 ((gI s 6) + (1 : Int32))) 5) ≤ (gI (sI s 6 ((gI s 6) + (1 : Int32))) 6) then some ((1 : Int32), (sI (sI s 6 ((gI s 6) + (1 : Int32))) 6 (0 : Int32))) else some ((0 : Int32), (sI s 6 ((gI s 6) + (1 : Int32))))))
theorem zF_M_isCollectionDue {X : zkX} {s : zSt} {r} (hF : F_M_isCollectionDue  s = some r) : zk_C X 1 m_M_isCollectionDue [.ref 3] (zHp s) (fun o => o = zoI r) := by
  unfold F_M_isCollectionDue at hF
  refine zk_enter (lv := [(0, .ref 3)]) rfl rfl ?_
  refine zi_aload_n rfl rfl ?_
  refine zi_getfield rfl rfl (zh_M _) rfl ?_
  refine zi_ifne rfl (fun hc => ?_) (fun hc => ?_)
  · have hF := zf_n hc hF
    refine zi_aload_n rfl rfl ?_
    refine zi_dupa rfl ?_
    refine zi_getfield rfl rfl (zh_M _) rfl ?_
    refine zi_iconst (v := (1 : Int32)) rfl rfl ?_
    refine zi_iadd rfl ?_
    refine zi_putfield rfl rfl (zh_M _) rfl rfl (zs_I6 _ _) ?_
    refine zi_aload_n rfl rfl ?_
    refine zi_getfield rfl rfl (zh_M _) rfl ?_
    refine zi_aload_n rfl rfl ?_
    refine zi_getfield rfl rfl (zh_M _) rfl ?_
    refine zi_icge rfl (fun hc => ?_) (fun hc => ?_)
    · have hF := zf_p hc hF
      refine zi_aload_n rfl rfl ?_
      refine zi_iconst (v := (0 : Int32)) rfl rfl ?_
      refine zi_putfield rfl rfl (zh_M _) rfl rfl (zs_I6 _ _) ?_
      refine zi_iconst (v := (1 : Int32)) rfl rfl ?_
      cases hF
      exact zi_zreturn rfl rfl rfl rfl
    · have hF := zf_n hc hF
      refine zi_iconst (v := (0 : Int32)) rfl rfl ?_
      cases hF
      exact zi_zreturn rfl rfl rfl rfl
  · have hF := zf_p hc hF
    refine zi_iconst (v := (0 : Int32)) rfl rfl ?_
    cases hF
    exact zi_zreturn rfl rfl rfl rfl
/-! m_M_word -/
def F_M_word_32 (y0 : Int64) (s : zSt) : Option (Int64 × zSt) := some (y0, s)
def F_M_word_31  (s : zSt) : Option (Int64 × zSt) := F_M_word_32    ((0 : Int64)) s
def F_M_word (p1 : Int32) (p2 : Int32) (s : zSt) : Option (Int64 × zSt) := (if (((p1 - (1 : Int32)) * (8 : Int32)) + p2) < 0 then F_M_word_31     s else (if (Int32.ofNat (gN s)) ≤ (((p1 - (1 : Int32)) * (8 : Int32)) + p2) then F_M_word_31     s else (if zin (((p1 - (1 : Int32)) * (8 : Int32)) + p2) (gN s) then F_M_word_32    ((gB s 0 ((((p1 - (1 : Int32)) * (8 : Int32)) + p2)).toNatClampNeg)) s else none)))
theorem zJ_M_word_32 {X : zkX} (y0 : Int64) (s : zSt) (r) (hF : F_M_word_32   y0 s = some r) : zk_W X 0 m_M_word (32, [], [.long y0], zHp s) (fun o => o = zoL r) := by
  unfold F_M_word_32 at hF
  cases hF
  exact zi_lreturn rfl rfl rfl
theorem zJ_M_word_31 {X : zkX}  (s : zSt) (r) (hF : F_M_word_31    s = some r) : zk_W X 0 m_M_word (31, [], [], zHp s) (fun o => o = zoL r) := by
  unfold F_M_word_31 at hF
  refine zi_lconst (v := (0 : Int64)) rfl rfl ?_
  exact zk_sb (zJ_M_word_32   _ _ _ hF) rfl trivial
theorem zF_M_word {X : zkX} {p1 : Int32} {p2 : Int32} {s : zSt} {r} (hF : F_M_word p1 p2 s = some r) : zk_C X 1 m_M_word [.ref 3, .int p1, .int p2] (zHp s) (fun o => o = zoL r) := by
  unfold F_M_word at hF
  refine zk_enter (lv := [(0, .ref 3), (1, .int p1), (2, .int p2)]) rfl rfl ?_
  refine zi_iload_n rfl rfl ?_
  refine zi_iconst (v := (1 : Int32)) rfl rfl ?_
  refine zi_isub rfl ?_
  refine zi_bipush (v := (8 : Int32)) rfl rfl ?_
  refine zi_imul rfl ?_
  refine zi_iload_n rfl rfl ?_
  refine zi_iadd rfl ?_
  refine zi_istore_n rfl rfl rfl ?_
  refine zi_iload_n rfl rfl ?_
  refine zi_iflt rfl (fun hc => ?_) (fun hc => ?_)
  · have hF := zf_p hc hF
    exact zk_sb (zJ_M_word_31    _ _ hF) rfl trivial
  · have hF := zf_n hc hF
    refine zi_iload_n rfl rfl ?_
    refine zi_aload_n rfl rfl ?_
    refine zi_getfield rfl rfl (zh_M _) rfl ?_
    refine zi_alen_l (v := _) rfl (zr_W _ _) rfl ?_
    refine zi_icge rfl (fun hc => ?_) (fun hc => ?_)
    · have hF := zf_p hc hF
      exact zk_sb (zJ_M_word_31    _ _ hF) rfl trivial
    · have hF := zf_n hc hF
      refine zi_aload_n rfl rfl ?_
      refine zi_getfield rfl rfl (zh_M _) rfl ?_
      refine zi_iload_n rfl rfl ?_
      obtain ⟨hb, hF⟩ := zf_g hF
      refine zi_laload rfl (zh_W _) (zin_ok hb) ?_
      refine zi_goto rfl ?_
      exact zk_sb (zJ_M_word_32   _ _ _ hF) rfl trivial
/-! m_M_mark -/
def F_M_mark_15 (x2 : Int32) (s : zSt) : Option (Int32 × zSt) := some (x2, s)
def F_M_mark (p1 : Int32) (p2 : Int32) (s : zSt) : Option (Int32 × zSt) := (if p1 = 0 then F_M_mark_15    (p2) s else (zb (F_M_word (p1) ((0 : Int32)) s) (fun v1 s2 => (if (lg_cmp v1 (0 : Int64)) = 0 then (zb (F_M_setWord (p1) ((0 : Int32)) ((p2).toInt64) s2) (fun v3 s4 => some (p1, s4))) else F_M_mark_15    (p2) s2))))
theorem zJ_M_mark_15 {X : zkX} (x2 : Int32) (s : zSt) (r) (hF : F_M_mark_15   x2 s = some r) : zk_W X 1 m_M_mark (15, [(2, .int x2)], [], zHp s) (fun o => o = zoI r) := by
  unfold F_M_mark_15 at hF
  refine zi_iload_n rfl rfl ?_
  cases hF
  exact zi_ireturn rfl rfl rfl
theorem zF_M_mark {X : zkX} {p1 : Int32} {p2 : Int32} {s : zSt} {r} (hF : F_M_mark p1 p2 s = some r) : zk_C X 2 m_M_mark [.ref 3, .int p1, .int p2] (zHp s) (fun o => o = zoI r) := by
  unfold F_M_mark at hF
  refine zk_enter (lv := [(0, .ref 3), (1, .int p1), (2, .int p2)]) rfl rfl ?_
  refine zi_iload_n rfl rfl ?_
  refine zi_ifeq rfl (fun hc => ?_) (fun hc => ?_)
  · have hF := zf_p hc hF
    exact zk_sb (zJ_M_mark_15   _ _ _ hF) rfl ⟨rfl, trivial⟩
  · have hF := zf_n hc hF
    refine zi_aload_n rfl rfl ?_
    refine zi_iload_n rfl rfl ?_
    refine zi_iconst (v := (0 : Int32)) rfl rfl ?_
    obtain ⟨v1, s2, hm, hF⟩ := zf_b hF
    refine zi_callV rfl rfl rfl (zh_M _) rfl (zk_C.to (zk_C.up (by decide) (zF_M_word hm)) (fun o ho => zk_K.okv ho ?_))
    refine zi_lconst (v := (0 : Int64)) rfl rfl ?_
    refine zi_lcmp rfl ?_
    refine zi_ifeq rfl (fun hc => ?_) (fun hc => ?_)
    · have hF := zf_p hc hF
      refine zi_aload_n rfl rfl ?_
      refine zi_iload_n rfl rfl ?_
      refine zi_iconst (v := (0 : Int32)) rfl rfl ?_
      refine zi_iload_n rfl rfl ?_
      refine zi_i2l rfl ?_
      obtain ⟨v3, s4, hm, hF⟩ := zf_b hF
      refine zi_callV rfl rfl rfl (zh_M _) rfl (zk_C.to (zk_C.up (by decide) (zF_M_setWord hm)) (fun o ho => zk_K.okn ho ?_))
      refine zi_iload_n rfl rfl ?_
      cases hF
      exact zi_ireturn rfl rfl rfl
    · have hF := zf_n hc hF
      exact zk_sb (zJ_M_mark_15   _ _ _ hF) rfl ⟨rfl, trivial⟩
/-! m_M_markAll -/
def F_M_markAll_91  (s : zSt) : Option (Unit × zSt) := some ((), s)
def F_M_markAll_59 (K33 : Int32 → Int32 → zSt → Option (Unit × zSt))  : Nat → Int32 → Int32 → Int32 → Int32 → zSt → Option (Unit × zSt)
  | 0, _, _, _, _, _ => none
  | n + 1, x1, x2, x3, x4, s => (if (4 : Int32) ≤ x4 then K33 (x1) ((x2 + (1 : Int32))) s else (zb (F_M_word (x3) (x4) s) (fun v3 s4 => (zb (F_M_mark ((v3).toInt32) (x1) s4) (fun v5 s6 => F_M_markAll_59 K33 n (v5) (x2) (x3) ((x4 + (1 : Int32))) s6)))))
def F_M_markAll_33  : Nat → Int32 → Int32 → zSt → Option (Unit × zSt)
  | 0, _, _, _ => none
  | n + 1, x1, x2, s => (if (gI s 2) ≤ x2 then F_M_markAll_91     s else (if x1 = (-1 : Int32) then F_M_markAll_91     s else (zb (F_M_word (x1) ((0 : Int32)) s) (fun v1 s2 => F_M_markAll_59  (F_M_markAll_33  n) zFuel ((v1).toInt32) (x2) (x1) ((1 : Int32)) s2))))
def F_M_markAll_4  : Nat → Int32 → Int32 → zSt → Option (Unit × zSt)
  | 0, _, _, _ => none
  | n + 1, x1, x2, s => (if (27 : Int32) ≤ x2 then F_M_markAll_33   zFuel (x1) ((0 : Int32)) s else (if zin x2 27 then (zb (F_M_mark ((gA s 0 (x2).toNatClampNeg)) (x1) s) (fun v7 s8 => F_M_markAll_4  n (v7) ((x2 + (1 : Int32))) s8)) else none))
def F_M_markAll  (s : zSt) : Option (Unit × zSt) := F_M_markAll_4   zFuel ((-1 : Int32)) ((0 : Int32)) s
theorem zJ_M_markAll_91 {X : zkX}  (s : zSt) (r) (hF : F_M_markAll_91    s = some r) : zk_W X 2 m_M_markAll (91, [], [], zHp s) (fun o => o = zoU r) := by
  unfold F_M_markAll_91 at hF
  cases hF
  exact zi_return rfl rfl rfl
theorem zJ_M_markAll_59 {X : zkX} (K33 : Int32 → Int32 → zSt → Option (Unit × zSt)) (hK33 : ∀ (x1 : Int32) (x2 : Int32) (s : zSt) r, K33 x1 x2 s = some r → zk_W X 2 m_M_markAll (33, [(0, .ref 3), (1, .int x1), (2, .int x2)], [], zHp s) (fun o => o = zoU r)) : ∀ (n : Nat) (x1 : Int32) (x2 : Int32) (x3 : Int32) (x4 : Int32) (s : zSt) (r), F_M_markAll_59  K33 n x1 x2 x3 x4 s = some r → zk_W X 2 m_M_markAll (59, [(0, .ref 3), (1, .int x1), (2, .int x2), (3, .int x3), (4, .int x4)], [], zHp s) (fun o => o = zoU r) := by
  intro n
  induction n with
  | zero => intro x1 x2 x3 x4 s r hF; cases hF
  | succ n ih =>
    intro x1 x2 x3 x4 s r hF
    rw [F_M_markAll_59] at hF
    refine zi_iload rfl rfl ?_
    refine zi_iconst (v := (4 : Int32)) rfl rfl ?_
    refine zi_icge rfl (fun hc => ?_) (fun hc => ?_)
    · have hF := zf_p hc hF
      refine zi_iinc (y := (x2 + (1 : Int32))) rfl rfl rfl rfl rfl ?_
      refine zi_goto rfl ?_
      exact zk_sb (hK33 _ _ _ _ hF) rfl ⟨rfl, rfl, rfl, trivial⟩
    · have hF := zf_n hc hF
      refine zi_aload_n rfl rfl ?_
      refine zi_aload_n rfl rfl ?_
      refine zi_iload_n rfl rfl ?_
      refine zi_iload rfl rfl ?_
      obtain ⟨v3, s4, hm, hF⟩ := zf_b hF
      refine zi_callV rfl rfl rfl (zh_M _) rfl (zk_C.to (zk_C.up (by decide) (zF_M_word hm)) (fun o ho => zk_K.okv ho ?_))
      refine zi_l2i rfl ?_
      refine zi_iload_n rfl rfl ?_
      obtain ⟨v5, s6, hm, hF⟩ := zf_b hF
      refine zi_callV rfl rfl rfl (zh_M _) rfl (zk_C.to (zk_C.up (by decide) (zF_M_mark hm)) (fun o ho => zk_K.okv ho ?_))
      refine zi_istore_n rfl rfl rfl ?_
      refine zi_iinc (y := (x4 + (1 : Int32))) rfl rfl rfl rfl rfl ?_
      refine zi_goto rfl ?_
      exact zk_sb (ih _ _ _ _ _ _ hF) rfl ⟨rfl, rfl, rfl, rfl, rfl, trivial⟩
theorem zJ_M_markAll_33 {X : zkX} : ∀ (n : Nat) (x1 : Int32) (x2 : Int32) (s : zSt) (r), F_M_markAll_33   n x1 x2 s = some r → zk_W X 2 m_M_markAll (33, [(0, .ref 3), (1, .int x1), (2, .int x2)], [], zHp s) (fun o => o = zoU r) := by
  intro n
  induction n with
  | zero => intro x1 x2 s r hF; cases hF
  | succ n ih =>
    intro x1 x2 s r hF
    rw [F_M_markAll_33] at hF
    refine zi_iload_n rfl rfl ?_
    refine zi_aload_n rfl rfl ?_
    refine zi_getfield rfl rfl (zh_M _) rfl ?_
    refine zi_icge rfl (fun hc => ?_) (fun hc => ?_)
    · have hF := zf_p hc hF
      exact zk_sb (zJ_M_markAll_91    _ _ hF) rfl trivial
    · have hF := zf_n hc hF
      refine zi_iload_n rfl rfl ?_
      refine zi_iconst (v := (-1 : Int32)) rfl rfl ?_
      refine zi_iceq rfl (fun hc => ?_) (fun hc => ?_)
      · have hF := zf_p hc hF
        exact zk_sb (zJ_M_markAll_91    _ _ hF) rfl trivial
      · have hF := zf_n hc hF
        refine zi_iload_n rfl rfl ?_
        refine zi_istore_n rfl rfl rfl ?_
        refine zi_aload_n rfl rfl ?_
        refine zi_iload_n rfl rfl ?_
        refine zi_iconst (v := (0 : Int32)) rfl rfl ?_
        obtain ⟨v1, s2, hm, hF⟩ := zf_b hF
        refine zi_callV rfl rfl rfl (zh_M _) rfl (zk_C.to (zk_C.up (by decide) (zF_M_word hm)) (fun o ho => zk_K.okv ho ?_))
        refine zi_l2i rfl ?_
        refine zi_istore_n rfl rfl rfl ?_
        refine zi_iconst (v := (1 : Int32)) rfl rfl ?_
        refine zi_istore rfl rfl rfl ?_
        exact zk_sb (zJ_M_markAll_59 (F_M_markAll_33  n) ih zFuel _ _ _ _ _ _ hF) rfl ⟨rfl, rfl, rfl, rfl, rfl, trivial⟩
theorem zJ_M_markAll_4 {X : zkX} : ∀ (n : Nat) (x1 : Int32) (x2 : Int32) (s : zSt) (r), F_M_markAll_4   n x1 x2 s = some r → zk_W X 2 m_M_markAll (4, [(0, .ref 3), (1, .int x1), (2, .int x2)], [], zHp s) (fun o => o = zoU r) := by
  intro n
  induction n with
  | zero => intro x1 x2 s r hF; cases hF
  | succ n ih =>
    intro x1 x2 s r hF
    rw [F_M_markAll_4] at hF
    refine zi_iload_n rfl rfl ?_
    refine zi_aload_n rfl rfl ?_
    refine zi_getfield rfl rfl (zh_M _) rfl ?_
    refine zi_alen_i (v := (27 : Int32)) rfl (zr_A0 _ _) rfl ?_
    refine zi_icge rfl (fun hc => ?_) (fun hc => ?_)
    · have hF := zf_p hc hF
      refine zi_iconst (v := (0 : Int32)) rfl rfl ?_
      refine zi_istore_n rfl rfl rfl ?_
      exact zk_sb (zJ_M_markAll_33  zFuel _ _ _ _ hF) rfl ⟨rfl, rfl, rfl, trivial⟩
    · have hF := zf_n hc hF
      refine zi_aload_n rfl rfl ?_
      refine zi_aload_n rfl rfl ?_
      refine zi_getfield rfl rfl (zh_M _) rfl ?_
      refine zi_iload_n rfl rfl ?_
      obtain ⟨hb, hF⟩ := zf_g hF
      refine zi_iaload rfl (zr_A0 _ _) (zin_ok hb) ?_
      refine zi_iload_n rfl rfl ?_
      obtain ⟨v7, s8, hm, hF⟩ := zf_b hF
      refine zi_callV rfl rfl rfl (zh_M _) rfl (zk_C.to (zk_C.up (by decide) (zF_M_mark hm)) (fun o ho => zk_K.okv ho ?_))
      refine zi_istore_n rfl rfl rfl ?_
      refine zi_iinc (y := (x2 + (1 : Int32))) rfl rfl rfl rfl rfl ?_
      refine zi_goto rfl ?_
      exact zk_sb (ih _ _ _ _ hF) rfl ⟨rfl, rfl, rfl, trivial⟩
theorem zF_M_markAll {X : zkX} {s : zSt} {r} (hF : F_M_markAll  s = some r) : zk_C X 3 m_M_markAll [.ref 3] (zHp s) (fun o => o = zoU r) := by
  unfold F_M_markAll at hF
  refine zk_enter (lv := [(0, .ref 3)]) rfl rfl ?_
  refine zi_iconst (v := (-1 : Int32)) rfl rfl ?_
  refine zi_istore_n rfl rfl rfl ?_
  refine zi_iconst (v := (0 : Int32)) rfl rfl ?_
  refine zi_istore_n rfl rfl rfl ?_
  exact zk_sb (zJ_M_markAll_4  zFuel _ _ _ _ hF) rfl ⟨rfl, rfl, rfl, trivial⟩
/-! m_M_sweep -/
def F_M_sweep_45 (K15 : Int32 → zSt → Option (Unit × zSt)) (x1 : Int32) (s : zSt) : Option (Unit × zSt) := K15 ((x1 + (-1 : Int32))) s
def F_M_sweep_15  : Nat → Int32 → zSt → Option (Unit × zSt)
  | 0, _, _ => none
  | n + 1, x1, s => (if x1 ≤ 0 then some ((), s) else (zb (F_M_word (x1) ((0 : Int32)) s) (fun v1 s2 => (if (lg_cmp v1 (0 : Int64)) = 0 then (zb (F_M_release (x1) s2) (fun v5 s6 => F_M_sweep_45  (F_M_sweep_15  n)  (x1) s6)) else (zb (F_M_setWord (x1) ((0 : Int32)) ((0 : Int64)) s2) (fun v3 s4 => F_M_sweep_45  (F_M_sweep_15  n)  (x1) s4))))))
def F_M_sweep  (s : zSt) : Option (Unit × zSt) := F_M_sweep_15   zFuel ((gI (sI (sI s 3 (0 : Int32)) 4 (0 : Int32)) 2)) (sI (sI s 3 (0 : Int32)) 4 (0 : Int32))
theorem zJ_M_sweep_45 {X : zkX} (K15 : Int32 → zSt → Option (Unit × zSt)) (hK15 : ∀ (x1 : Int32) (s : zSt) r, K15 x1 s = some r → zk_W X 2 m_M_sweep (15, [(0, .ref 3), (1, .int x1)], [], zHp s) (fun o => o = zoU r)) (x1 : Int32) (s : zSt) (r) (hF : F_M_sweep_45  K15 x1 s = some r) : zk_W X 2 m_M_sweep (45, [(0, .ref 3), (1, .int x1)], [], zHp s) (fun o => o = zoU r) := by
  unfold F_M_sweep_45 at hF
  refine zi_iinc (y := (x1 + (-1 : Int32))) rfl rfl rfl rfl rfl ?_
  refine zi_goto rfl ?_
  exact zk_sb (hK15 _ _ _ hF) rfl ⟨rfl, rfl, trivial⟩
theorem zJ_M_sweep_15 {X : zkX} : ∀ (n : Nat) (x1 : Int32) (s : zSt) (r), F_M_sweep_15   n x1 s = some r → zk_W X 2 m_M_sweep (15, [(0, .ref 3), (1, .int x1)], [], zHp s) (fun o => o = zoU r) := by
  intro n
  induction n with
  | zero => intro x1 s r hF; cases hF
  | succ n ih =>
    intro x1 s r hF
    rw [F_M_sweep_15] at hF
    refine zi_iload_n rfl rfl ?_
    refine zi_ifle rfl (fun hc => ?_) (fun hc => ?_)
    · have hF := zf_p hc hF
      cases hF
      exact zi_return rfl rfl rfl
    · have hF := zf_n hc hF
      refine zi_aload_n rfl rfl ?_
      refine zi_iload_n rfl rfl ?_
      refine zi_iconst (v := (0 : Int32)) rfl rfl ?_
      obtain ⟨v1, s2, hm, hF⟩ := zf_b hF
      refine zi_callV rfl rfl rfl (zh_M _) rfl (zk_C.to (zk_C.up (by decide) (zF_M_word hm)) (fun o ho => zk_K.okv ho ?_))
      refine zi_lconst (v := (0 : Int64)) rfl rfl ?_
      refine zi_lcmp rfl ?_
      refine zi_ifne rfl (fun hc => ?_) (fun hc => ?_)
      · have hF := zf_n hc hF
        refine zi_aload_n rfl rfl ?_
        refine zi_iload_n rfl rfl ?_
        refine zi_iconst (v := (0 : Int32)) rfl rfl ?_
        refine zi_lconst (v := (0 : Int64)) rfl rfl ?_
        obtain ⟨v3, s4, hm, hF⟩ := zf_b hF
        refine zi_callV rfl rfl rfl (zh_M _) rfl (zk_C.to (zk_C.up (by decide) (zF_M_setWord hm)) (fun o ho => zk_K.okn ho ?_))
        exact zk_sb (zJ_M_sweep_45 (F_M_sweep_15  n) ih  _ _ _ hF) rfl ⟨rfl, rfl, trivial⟩
      · have hF := zf_p hc hF
        refine zi_aload_n rfl rfl ?_
        refine zi_iload_n rfl rfl ?_
        obtain ⟨v5, s6, hm, hF⟩ := zf_b hF
        refine zi_callV rfl rfl rfl (zh_M _) rfl (zk_C.to (zk_C.up (by decide) (zF_M_release hm)) (fun o ho => zk_K.okn ho ?_))
        refine zi_goto rfl ?_
        exact zk_sb (zJ_M_sweep_45 (F_M_sweep_15  n) ih  _ _ _ hF) rfl ⟨rfl, rfl, trivial⟩
theorem zF_M_sweep {X : zkX} {s : zSt} {r} (hF : F_M_sweep  s = some r) : zk_C X 3 m_M_sweep [.ref 3] (zHp s) (fun o => o = zoU r) := by
  unfold F_M_sweep at hF
  refine zk_enter (lv := [(0, .ref 3)]) rfl rfl ?_
  refine zi_aload_n rfl rfl ?_
  refine zi_iconst (v := (0 : Int32)) rfl rfl ?_
  refine zi_putfield rfl rfl (zh_M _) rfl rfl (zs_I3 _ _) ?_
  refine zi_aload_n rfl rfl ?_
  refine zi_iconst (v := (0 : Int32)) rfl rfl ?_
  refine zi_putfield rfl rfl (zh_M _) rfl rfl (zs_I4 _ _) ?_
  refine zi_aload_n rfl rfl ?_
  refine zi_getfield rfl rfl (zh_M _) rfl ?_
  refine zi_istore_n rfl rfl rfl ?_
  exact zk_sb (zJ_M_sweep_15  zFuel _ _ _ hF) rfl ⟨rfl, rfl, trivial⟩
/-! m_JM_min -/
def F_JM_min_10 (y0 : Int32) (s : zSt) : Option (Int32 × zSt) := some (y0, s)
def F_JM_min (p0 : Int32) (p1 : Int32) (s : zSt) : Option (Int32 × zSt) := (if p1 < p0 then F_JM_min_10    (p1) s else F_JM_min_10    (p0) s)
theorem zJ_JM_min_10 {X : zkX} (y0 : Int32) (s : zSt) (r) (hF : F_JM_min_10   y0 s = some r) : zk_W X 0 m_JM_min (10, [], [.int y0], zHp s) (fun o => o = zoI r) := by
  unfold F_JM_min_10 at hF
  cases hF
  exact zi_ireturn rfl rfl rfl
theorem zF_JM_min {X : zkX} {p0 : Int32} {p1 : Int32} {s : zSt} {r} (hF : F_JM_min p0 p1 s = some r) : zk_C X 1 m_JM_min [.int p0, .int p1] (zHp s) (fun o => o = zoI r) := by
  unfold F_JM_min at hF
  refine zk_enter (lv := [(0, .int p0), (1, .int p1)]) rfl rfl ?_
  refine zi_iload_n rfl rfl ?_
  refine zi_iload_n rfl rfl ?_
  refine zi_icgt rfl (fun hc => ?_) (fun hc => ?_)
  · have hF := zf_p hc hF
    refine zi_iload_n rfl rfl ?_
    exact zk_sb (zJ_JM_min_10   _ _ _ hF) rfl trivial
  · have hF := zf_n hc hF
    refine zi_iload_n rfl rfl ?_
    refine zi_goto rfl ?_
    exact zk_sb (zJ_JM_min_10   _ _ _ hF) rfl trivial
/-! m_M_widenIfTight -/
def F_M_widenIfTight_23  (s : zSt) : Option (Unit × zSt) := some ((), s)
def F_M_widenIfTight_65  : Nat → Int32 → Int32 → zSt → Option (Unit × zSt)
  | 0, _, _, _ => none
  | n + 1, x1, x2, s => (if x2 ≤ x1 then some ((), s) else (zb (F_M_release (x2) s) (fun v5 s6 => F_M_widenIfTight_65  n (x1) ((x2 + (-1 : Int32))) s6)))
def F_M_widenIfTight  (s : zSt) : Option (Unit × zSt) := (if ((gI s 2) / (4 : Int32)) < (gI s 4) then F_M_widenIfTight_23     s else (if (gI s 2) < (1024 : Int32) then (zb (F_JM_min (((2 : Int32) * (gI s 2))) ((1024 : Int32)) s) (fun v1 s2 => (zb (zwiden (sI s2 2 v1)) (fun v3 s4 => F_M_widenIfTight_65   zFuel ((gI s 2)) ((gI s4 2)) s4)))) else F_M_widenIfTight_23     s))
theorem zJ_M_widenIfTight_23 {X : zkX}  (s : zSt) (r) (hF : F_M_widenIfTight_23    s = some r) : zk_W X 2 m_M_widenIfTight (23, [], [], zHp s) (fun o => o = zoU r) := by
  unfold F_M_widenIfTight_23 at hF
  cases hF
  exact zi_return rfl rfl rfl
theorem zJ_M_widenIfTight_65 {X : zkX} : ∀ (n : Nat) (x1 : Int32) (x2 : Int32) (s : zSt) (r), F_M_widenIfTight_65   n x1 x2 s = some r → zk_W X 2 m_M_widenIfTight (65, [(0, .ref 3), (1, .int x1), (2, .int x2)], [], zHp s) (fun o => o = zoU r) := by
  intro n
  induction n with
  | zero => intro x1 x2 s r hF; cases hF
  | succ n ih =>
    intro x1 x2 s r hF
    rw [F_M_widenIfTight_65] at hF
    refine zi_iload_n rfl rfl ?_
    refine zi_iload_n rfl rfl ?_
    refine zi_icle rfl (fun hc => ?_) (fun hc => ?_)
    · have hF := zf_p hc hF
      cases hF
      exact zi_return rfl rfl rfl
    · have hF := zf_n hc hF
      refine zi_aload_n rfl rfl ?_
      refine zi_iload_n rfl rfl ?_
      obtain ⟨v5, s6, hm, hF⟩ := zf_b hF
      refine zi_callV rfl rfl rfl (zh_M _) rfl (zk_C.to (zk_C.up (by decide) (zF_M_release hm)) (fun o ho => zk_K.okn ho ?_))
      refine zi_iinc (y := (x2 + (-1 : Int32))) rfl rfl rfl rfl rfl ?_
      refine zi_goto rfl ?_
      exact zk_sb (ih _ _ _ _ hF) rfl ⟨rfl, rfl, rfl, trivial⟩
theorem zF_M_widenIfTight {X : zkX} {s : zSt} {r} (hF : F_M_widenIfTight  s = some r) : zk_C X 3 m_M_widenIfTight [.ref 3] (zHp s) (fun o => o = zoU r) := by
  unfold F_M_widenIfTight at hF
  refine zk_enter (lv := [(0, .ref 3)]) rfl rfl ?_
  refine zi_aload_n rfl rfl ?_
  refine zi_getfield rfl rfl (zh_M _) rfl ?_
  refine zi_aload_n rfl rfl ?_
  refine zi_getfield rfl rfl (zh_M _) rfl ?_
  refine zi_iconst (v := (4 : Int32)) rfl rfl ?_
  refine zi_idiv rfl (by decide) ?_
  refine zi_icgt rfl (fun hc => ?_) (fun hc => ?_)
  · have hF := zf_p hc hF
    exact zk_sb (zJ_M_widenIfTight_23    _ _ hF) rfl trivial
  · have hF := zf_n hc hF
    refine zi_aload_n rfl rfl ?_
    refine zi_getfield rfl rfl (zh_M _) rfl ?_
    refine zi_sipush (v := (1024 : Int32)) rfl rfl ?_
    refine zi_iclt rfl (fun hc => ?_) (fun hc => ?_)
    · have hF := zf_p hc hF
      refine zi_aload_n rfl rfl ?_
      refine zi_getfield rfl rfl (zh_M _) rfl ?_
      refine zi_istore_n rfl rfl rfl ?_
      refine zi_aload_n rfl rfl ?_
      refine zi_iconst (v := (2 : Int32)) rfl rfl ?_
      refine zi_iload_n rfl rfl ?_
      refine zi_imul rfl ?_
      refine zi_sipush (v := (1024 : Int32)) rfl rfl ?_
      obtain ⟨v1, s2, hm, hF⟩ := zf_b hF
      refine zi_callS rfl rfl rfl rfl (zk_C.to (zk_C.up (by decide) (zF_JM_min hm)) (fun o ho => zk_K.okv ho ?_))
      refine zi_putfield rfl rfl (zh_M _) rfl rfl (zs_I2 _ _) ?_
      obtain ⟨v3, s4, hm, hF⟩ := zf_b hF
      refine zi_widen rfl hm ?_
      refine zi_aload_n rfl rfl ?_
      refine zi_getfield rfl rfl (zh_M _) rfl ?_
      refine zi_istore_n rfl rfl rfl ?_
      exact zk_sb (zJ_M_widenIfTight_65  zFuel _ _ _ _ hF) rfl ⟨rfl, rfl, rfl, trivial⟩
    · have hF := zf_n hc hF
      exact zk_sb (zJ_M_widenIfTight_23    _ _ hF) rfl trivial
/-! m_M_make -/
def F_M_make_60  : Nat → Int32 → Int32 → zSt → Option (Int32 × zSt)
  | 0, _, _, _ => none
  | n + 1, x1, x2, s => (if (8 : Int32) ≤ x2 then some (x1, s) else (zb (F_M_setWord (x1) (x2) ((0 : Int64)) s) (fun v11 s12 => F_M_make_60  n (x1) ((x2 + (1 : Int32))) s12)))
def F_M_make_26  (s : zSt) : Option (Int32 × zSt) := (if (gI s 3) = 0 then some ((0 : Int32), s) else (zb (F_M_word ((gI s 3)) ((1 : Int32)) s) (fun v9 s10 => F_M_make_60   zFuel ((gI s 3)) ((0 : Int32)) (sI (sI s10 3 (v9).toInt32) 4 ((gI (sI s10 3 (v9).toInt32) 4) - (1 : Int32))))))
def F_M_make_14  (s : zSt) : Option (Int32 × zSt) := (zb (F_M_markAll  s) (fun v3 s4 => (zb (F_M_sweep  s4) (fun v5 s6 => (zb (F_M_widenIfTight  s6) (fun v7 s8 => F_M_make_26     s8))))))
def F_M_make  (s : zSt) : Option (Int32 × zSt) := (zb (F_M_isCollectionDue  s) (fun v1 s2 => (if v1 = 0 then (if (gI s2 3) = 0 then F_M_make_14     s2 else F_M_make_26     s2) else F_M_make_14     s2)))
theorem zJ_M_make_60 {X : zkX} : ∀ (n : Nat) (x1 : Int32) (x2 : Int32) (s : zSt) (r), F_M_make_60   n x1 x2 s = some r → zk_W X 3 m_M_make (60, [(0, .ref 3), (1, .int x1), (2, .int x2)], [], zHp s) (fun o => o = zoI r) := by
  intro n
  induction n with
  | zero => intro x1 x2 s r hF; cases hF
  | succ n ih =>
    intro x1 x2 s r hF
    rw [F_M_make_60] at hF
    refine zi_iload_n rfl rfl ?_
    refine zi_bipush (v := (8 : Int32)) rfl rfl ?_
    refine zi_icge rfl (fun hc => ?_) (fun hc => ?_)
    · have hF := zf_p hc hF
      refine zi_iload_n rfl rfl ?_
      cases hF
      exact zi_ireturn rfl rfl rfl
    · have hF := zf_n hc hF
      refine zi_aload_n rfl rfl ?_
      refine zi_iload_n rfl rfl ?_
      refine zi_iload_n rfl rfl ?_
      refine zi_lconst (v := (0 : Int64)) rfl rfl ?_
      obtain ⟨v11, s12, hm, hF⟩ := zf_b hF
      refine zi_callV rfl rfl rfl (zh_M _) rfl (zk_C.to (zk_C.up (by decide) (zF_M_setWord hm)) (fun o ho => zk_K.okn ho ?_))
      refine zi_iinc (y := (x2 + (1 : Int32))) rfl rfl rfl rfl rfl ?_
      refine zi_goto rfl ?_
      exact zk_sb (ih _ _ _ _ hF) rfl ⟨rfl, rfl, rfl, trivial⟩
theorem zJ_M_make_26 {X : zkX}  (s : zSt) (r) (hF : F_M_make_26    s = some r) : zk_W X 3 m_M_make (26, [(0, .ref 3)], [], zHp s) (fun o => o = zoI r) := by
  unfold F_M_make_26 at hF
  refine zi_aload_n rfl rfl ?_
  refine zi_getfield rfl rfl (zh_M _) rfl ?_
  refine zi_istore_n rfl rfl rfl ?_
  refine zi_iload_n rfl rfl ?_
  refine zi_ifne rfl (fun hc => ?_) (fun hc => ?_)
  · have hF := zf_n hc hF
    refine zi_aload_n rfl rfl ?_
    refine zi_aload_n rfl rfl ?_
    refine zi_iload_n rfl rfl ?_
    refine zi_iconst (v := (1 : Int32)) rfl rfl ?_
    obtain ⟨v9, s10, hm, hF⟩ := zf_b hF
    refine zi_callV rfl rfl rfl (zh_M _) rfl (zk_C.to (zk_C.up (by decide) (zF_M_word hm)) (fun o ho => zk_K.okv ho ?_))
    refine zi_l2i rfl ?_
    refine zi_putfield rfl rfl (zh_M _) rfl rfl (zs_I3 _ _) ?_
    refine zi_aload_n rfl rfl ?_
    refine zi_dupa rfl ?_
    refine zi_getfield rfl rfl (zh_M _) rfl ?_
    refine zi_iconst (v := (1 : Int32)) rfl rfl ?_
    refine zi_isub rfl ?_
    refine zi_putfield rfl rfl (zh_M _) rfl rfl (zs_I4 _ _) ?_
    refine zi_iconst (v := (0 : Int32)) rfl rfl ?_
    refine zi_istore_n rfl rfl rfl ?_
    exact zk_sb (zJ_M_make_60  zFuel _ _ _ _ hF) rfl ⟨rfl, rfl, rfl, trivial⟩
  · have hF := zf_p hc hF
    refine zi_iconst (v := (0 : Int32)) rfl rfl ?_
    cases hF
    exact zi_ireturn rfl rfl rfl
theorem zJ_M_make_14 {X : zkX}  (s : zSt) (r) (hF : F_M_make_14    s = some r) : zk_W X 3 m_M_make (14, [(0, .ref 3)], [], zHp s) (fun o => o = zoI r) := by
  unfold F_M_make_14 at hF
  refine zi_aload_n rfl rfl ?_
  obtain ⟨v3, s4, hm, hF⟩ := zf_b hF
  refine zi_callV rfl rfl rfl (zh_M _) rfl (zk_C.to (zk_C.up (by decide) (zF_M_markAll hm)) (fun o ho => zk_K.okn ho ?_))
  refine zi_aload_n rfl rfl ?_
  obtain ⟨v5, s6, hm, hF⟩ := zf_b hF
  refine zi_callV rfl rfl rfl (zh_M _) rfl (zk_C.to (zk_C.up (by decide) (zF_M_sweep hm)) (fun o ho => zk_K.okn ho ?_))
  refine zi_aload_n rfl rfl ?_
  obtain ⟨v7, s8, hm, hF⟩ := zf_b hF
  refine zi_callV rfl rfl rfl (zh_M _) rfl (zk_C.to (zk_C.up (by decide) (zF_M_widenIfTight hm)) (fun o ho => zk_K.okn ho ?_))
  exact zk_sb (zJ_M_make_26    _ _ hF) rfl ⟨rfl, trivial⟩
theorem zF_M_make {X : zkX} {s : zSt} {r} (hF : F_M_make  s = some r) : zk_C X 4 m_M_make [.ref 3] (zHp s) (fun o => o = zoI r) := by
  unfold F_M_make at hF
  refine zk_enter (lv := [(0, .ref 3)]) rfl rfl ?_
  refine zi_aload_n rfl rfl ?_
  obtain ⟨v1, s2, hm, hF⟩ := zf_b hF
  refine zi_callV rfl rfl rfl (zh_M _) rfl (zk_C.to (zk_C.up (by decide) (zF_M_isCollectionDue hm)) (fun o ho => zk_K.okv ho ?_))
  refine zi_ifne rfl (fun hc => ?_) (fun hc => ?_)
  · have hF := zf_n hc hF
    exact zk_sb (zJ_M_make_14    _ _ hF) rfl ⟨rfl, trivial⟩
  · have hF := zf_p hc hF
    refine zi_aload_n rfl rfl ?_
    refine zi_getfield rfl rfl (zh_M _) rfl ?_
    refine zi_ifne rfl (fun hc => ?_) (fun hc => ?_)
    · have hF := zf_n hc hF
      exact zk_sb (zJ_M_make_26    _ _ hF) rfl ⟨rfl, trivial⟩
    · have hF := zf_p hc hF
      exact zk_sb (zJ_M_make_14    _ _ hF) rfl ⟨rfl, trivial⟩
/-! m_M_keep -/
def F_M_keep_20  (s : zSt) : Option (Unit × zSt) := some ((), s)
def F_M_keep (p1 : Int32) (p2 : Int32) (s : zSt) : Option (Unit × zSt) := (if p1 < 0 then F_M_keep_20     s else (if (27 : Int32) ≤ p1 then F_M_keep_20     s else (if zin p1 27 then F_M_keep_20     (sA s 0 (upd (gA s 0) (p1).toNatClampNeg p2)) else none)))
theorem zJ_M_keep_20 {X : zkX}  (s : zSt) (r) (hF : F_M_keep_20    s = some r) : zk_W X 0 m_M_keep (20, [], [], zHp s) (fun o => o = zoU r) := by
  unfold F_M_keep_20 at hF
  cases hF
  exact zi_return rfl rfl rfl
theorem zF_M_keep {X : zkX} {p1 : Int32} {p2 : Int32} {s : zSt} {r} (hF : F_M_keep p1 p2 s = some r) : zk_C X 1 m_M_keep [.ref 3, .int p1, .int p2] (zHp s) (fun o => o = zoU r) := by
  unfold F_M_keep at hF
  refine zk_enter (lv := [(0, .ref 3), (1, .int p1), (2, .int p2)]) rfl rfl ?_
  refine zi_iload_n rfl rfl ?_
  refine zi_iflt rfl (fun hc => ?_) (fun hc => ?_)
  · have hF := zf_p hc hF
    exact zk_sb (zJ_M_keep_20    _ _ hF) rfl trivial
  · have hF := zf_n hc hF
    refine zi_iload_n rfl rfl ?_
    refine zi_aload_n rfl rfl ?_
    refine zi_getfield rfl rfl (zh_M _) rfl ?_
    refine zi_alen_i (v := (27 : Int32)) rfl (zr_A0 _ _) rfl ?_
    refine zi_icge rfl (fun hc => ?_) (fun hc => ?_)
    · have hF := zf_p hc hF
      exact zk_sb (zJ_M_keep_20    _ _ hF) rfl trivial
    · have hF := zf_n hc hF
      refine zi_aload_n rfl rfl ?_
      refine zi_getfield rfl rfl (zh_M _) rfl ?_
      refine zi_iload_n rfl rfl ?_
      refine zi_iload_n rfl rfl ?_
      obtain ⟨hb, hF⟩ := zf_g hF
      refine zi_iastore rfl (zh_A0 _) (zin_ok hb) (zs_A0 _ _) ?_
      exact zk_sb (zJ_M_keep_20    _ _ hF) rfl trivial
/-! m_JI_numberOfLeadingZeros -/
def F_JI_numberOfLeadingZeros_73 (x0 : Int32) (x1 : Int32) (s : zSt) : Option (Int32 × zSt) := some ((x1 - ((x0).toUInt32 >>> (((1 : Int32)).toUInt32 &&& Int32.toUInt32 31)).toInt32), s)
def F_JI_numberOfLeadingZeros_61 (x0 : Int32) (x1 : Int32) (s : zSt) : Option (Int32 × zSt) := (if x0 < (4 : Int32) then F_JI_numberOfLeadingZeros_73    (x0) (x1) s else F_JI_numberOfLeadingZeros_73    (((x0).toUInt32 >>> (((2 : Int32)).toUInt32 &&& Int32.toUInt32 31)).toInt32) ((x1 + (-2 : Int32))) s)
def F_JI_numberOfLeadingZeros_48 (x0 : Int32) (x1 : Int32) (s : zSt) : Option (Int32 × zSt) := (if x0 < (16 : Int32) then F_JI_numberOfLeadingZeros_61    (x0) (x1) s else F_JI_numberOfLeadingZeros_61    (((x0).toUInt32 >>> (((4 : Int32)).toUInt32 &&& Int32.toUInt32 31)).toInt32) ((x1 + (-4 : Int32))) s)
def F_JI_numberOfLeadingZeros_33 (x0 : Int32) (x1 : Int32) (s : zSt) : Option (Int32 × zSt) := (if x0 < (256 : Int32) then F_JI_numberOfLeadingZeros_48    (x0) (x1) s else F_JI_numberOfLeadingZeros_48    (((x0).toUInt32 >>> (((8 : Int32)).toUInt32 &&& Int32.toUInt32 31)).toInt32) ((x1 + (-8 : Int32))) s)
def F_JI_numberOfLeadingZeros_14 (y0 : Int32) (s : zSt) : Option (Int32 × zSt) := some (y0, s)
def F_JI_numberOfLeadingZeros (p0 : Int32) (s : zSt) : Option (Int32 × zSt) := (if 0 < p0 then (if p0 < (65536 : Int32) then F_JI_numberOfLeadingZeros_33    (p0) ((31 : Int32)) s else F_JI_numberOfLeadingZeros_33    (((p0).toUInt32 >>> (((16 : Int32)).toUInt32 &&& Int32.toUInt32 31)).toInt32) (((31 : Int32) + (-16 : Int32))) s) else (if p0 = 0 then F_JI_numberOfLeadingZeros_14    ((32 : Int32)) s else F_JI_numberOfLeadingZeros_14    ((0 : Int32)) s))
theorem zJ_JI_numberOfLeadingZeros_73 {X : zkX} (x0 : Int32) (x1 : Int32) (s : zSt) (r) (hF : F_JI_numberOfLeadingZeros_73   x0 x1 s = some r) : zk_W X 0 m_JI_numberOfLeadingZeros (73, [(0, .int x0), (1, .int x1)], [], zHp s) (fun o => o = zoI r) := by
  unfold F_JI_numberOfLeadingZeros_73 at hF
  refine zi_iload_n rfl rfl ?_
  refine zi_iload_n rfl rfl ?_
  refine zi_iconst (v := (1 : Int32)) rfl rfl ?_
  refine zi_iushr rfl ?_
  refine zi_isub rfl ?_
  cases hF
  exact zi_ireturn rfl rfl rfl
theorem zJ_JI_numberOfLeadingZeros_61 {X : zkX} (x0 : Int32) (x1 : Int32) (s : zSt) (r) (hF : F_JI_numberOfLeadingZeros_61   x0 x1 s = some r) : zk_W X 0 m_JI_numberOfLeadingZeros (61, [(0, .int x0), (1, .int x1)], [], zHp s) (fun o => o = zoI r) := by
  unfold F_JI_numberOfLeadingZeros_61 at hF
  refine zi_iload_n rfl rfl ?_
  refine zi_iconst (v := (4 : Int32)) rfl rfl ?_
  refine zi_iclt rfl (fun hc => ?_) (fun hc => ?_)
  · have hF := zf_p hc hF
    exact zk_sb (zJ_JI_numberOfLeadingZeros_73   _ _ _ _ hF) rfl ⟨rfl, rfl, trivial⟩
  · have hF := zf_n hc hF
    refine zi_iinc (y := (x1 + (-2 : Int32))) rfl rfl rfl rfl rfl ?_
    refine zi_iload_n rfl rfl ?_
    refine zi_iconst (v := (2 : Int32)) rfl rfl ?_
    refine zi_iushr rfl ?_
    refine zi_istore_n rfl rfl rfl ?_
    exact zk_sb (zJ_JI_numberOfLeadingZeros_73   _ _ _ _ hF) rfl ⟨rfl, rfl, trivial⟩
theorem zJ_JI_numberOfLeadingZeros_48 {X : zkX} (x0 : Int32) (x1 : Int32) (s : zSt) (r) (hF : F_JI_numberOfLeadingZeros_48   x0 x1 s = some r) : zk_W X 0 m_JI_numberOfLeadingZeros (48, [(0, .int x0), (1, .int x1)], [], zHp s) (fun o => o = zoI r) := by
  unfold F_JI_numberOfLeadingZeros_48 at hF
  refine zi_iload_n rfl rfl ?_
  refine zi_bipush (v := (16 : Int32)) rfl rfl ?_
  refine zi_iclt rfl (fun hc => ?_) (fun hc => ?_)
  · have hF := zf_p hc hF
    exact zk_sb (zJ_JI_numberOfLeadingZeros_61   _ _ _ _ hF) rfl ⟨rfl, rfl, trivial⟩
  · have hF := zf_n hc hF
    refine zi_iinc (y := (x1 + (-4 : Int32))) rfl rfl rfl rfl rfl ?_
    refine zi_iload_n rfl rfl ?_
    refine zi_iconst (v := (4 : Int32)) rfl rfl ?_
    refine zi_iushr rfl ?_
    refine zi_istore_n rfl rfl rfl ?_
    exact zk_sb (zJ_JI_numberOfLeadingZeros_61   _ _ _ _ hF) rfl ⟨rfl, rfl, trivial⟩
theorem zJ_JI_numberOfLeadingZeros_33 {X : zkX} (x0 : Int32) (x1 : Int32) (s : zSt) (r) (hF : F_JI_numberOfLeadingZeros_33   x0 x1 s = some r) : zk_W X 0 m_JI_numberOfLeadingZeros (33, [(0, .int x0), (1, .int x1)], [], zHp s) (fun o => o = zoI r) := by
  unfold F_JI_numberOfLeadingZeros_33 at hF
  refine zi_iload_n rfl rfl ?_
  refine zi_sipush (v := (256 : Int32)) rfl rfl ?_
  refine zi_iclt rfl (fun hc => ?_) (fun hc => ?_)
  · have hF := zf_p hc hF
    exact zk_sb (zJ_JI_numberOfLeadingZeros_48   _ _ _ _ hF) rfl ⟨rfl, rfl, trivial⟩
  · have hF := zf_n hc hF
    refine zi_iinc (y := (x1 + (-8 : Int32))) rfl rfl rfl rfl rfl ?_
    refine zi_iload_n rfl rfl ?_
    refine zi_bipush (v := (8 : Int32)) rfl rfl ?_
    refine zi_iushr rfl ?_
    refine zi_istore_n rfl rfl rfl ?_
    exact zk_sb (zJ_JI_numberOfLeadingZeros_48   _ _ _ _ hF) rfl ⟨rfl, rfl, trivial⟩
theorem zJ_JI_numberOfLeadingZeros_14 {X : zkX} (y0 : Int32) (s : zSt) (r) (hF : F_JI_numberOfLeadingZeros_14   y0 s = some r) : zk_W X 0 m_JI_numberOfLeadingZeros (14, [], [.int y0], zHp s) (fun o => o = zoI r) := by
  unfold F_JI_numberOfLeadingZeros_14 at hF
  cases hF
  exact zi_ireturn rfl rfl rfl
theorem zF_JI_numberOfLeadingZeros {X : zkX} {p0 : Int32} {s : zSt} {r} (hF : F_JI_numberOfLeadingZeros p0 s = some r) : zk_C X 1 m_JI_numberOfLeadingZeros [.int p0] (zHp s) (fun o => o = zoI r) := by
  unfold F_JI_numberOfLeadingZeros at hF
  refine zk_enter (lv := [(0, .int p0)]) rfl rfl ?_
  refine zi_iload_n rfl rfl ?_
  refine zi_ifgt rfl (fun hc => ?_) (fun hc => ?_)
  · have hF := zf_p hc hF
    refine zi_bipush (v := (31 : Int32)) rfl rfl ?_
    refine zi_istore_n rfl rfl rfl ?_
    refine zi_iload_n rfl rfl ?_
    refine zi_ldc_w (v := (65536 : Int32)) rfl rfl ?_
    refine zi_iclt rfl (fun hc => ?_) (fun hc => ?_)
    · have hF := zf_p hc hF
      exact zk_sb (zJ_JI_numberOfLeadingZeros_33   _ _ _ _ hF) rfl ⟨rfl, rfl, trivial⟩
    · have hF := zf_n hc hF
      refine zi_iinc (y := ((31 : Int32) + (-16 : Int32))) rfl rfl rfl rfl rfl ?_
      refine zi_iload_n rfl rfl ?_
      refine zi_bipush (v := (16 : Int32)) rfl rfl ?_
      refine zi_iushr rfl ?_
      refine zi_istore_n rfl rfl rfl ?_
      exact zk_sb (zJ_JI_numberOfLeadingZeros_33   _ _ _ _ hF) rfl ⟨rfl, rfl, trivial⟩
  · have hF := zf_n hc hF
    refine zi_iload_n rfl rfl ?_
    refine zi_ifne rfl (fun hc => ?_) (fun hc => ?_)
    · have hF := zf_n hc hF
      refine zi_iconst (v := (0 : Int32)) rfl rfl ?_
      exact zk_sb (zJ_JI_numberOfLeadingZeros_14   _ _ _ hF) rfl trivial
    · have hF := zf_p hc hF
      refine zi_bipush (v := (32 : Int32)) rfl rfl ?_
      refine zi_goto rfl ?_
      exact zk_sb (zJ_JI_numberOfLeadingZeros_14   _ _ _ hF) rfl trivial
/-! m_JL_numberOfLeadingZeros -/
def F_JL_numberOfLeadingZeros_25 (y0 : Int32) (s : zSt) : Option (Int32 × zSt) := some (y0, s)
def F_JL_numberOfLeadingZeros (p0 : Int64) (s : zSt) : Option (Int32 × zSt) := (if (((p0).toUInt64 >>> (((32 : Int32)).toInt64.toUInt64 &&& Int64.toUInt64 63)).toInt64).toInt32 = 0 then (zb (F_JI_numberOfLeadingZeros ((p0).toInt32) s) (fun v3 s4 => F_JL_numberOfLeadingZeros_25    (((32 : Int32) + v3)) s4)) else (zb (F_JI_numberOfLeadingZeros ((((p0).toUInt64 >>> (((32 : Int32)).toInt64.toUInt64 &&& Int64.toUInt64 63)).toInt64).toInt32) s) (fun v1 s2 => F_JL_numberOfLeadingZeros_25    (v1) s2)))
theorem zJ_JL_numberOfLeadingZeros_25 {X : zkX} (y0 : Int32) (s : zSt) (r) (hF : F_JL_numberOfLeadingZeros_25   y0 s = some r) : zk_W X 1 m_JL_numberOfLeadingZeros (25, [], [.int y0], zHp s) (fun o => o = zoI r) := by
  unfold F_JL_numberOfLeadingZeros_25 at hF
  cases hF
  exact zi_ireturn rfl rfl rfl
theorem zF_JL_numberOfLeadingZeros {X : zkX} {p0 : Int64} {s : zSt} {r} (hF : F_JL_numberOfLeadingZeros p0 s = some r) : zk_C X 2 m_JL_numberOfLeadingZeros [.long p0] (zHp s) (fun o => o = zoI r) := by
  unfold F_JL_numberOfLeadingZeros at hF
  refine zk_enter (lv := [(0, .long p0)]) rfl rfl ?_
  refine zi_lload_n rfl rfl ?_
  refine zi_bipush (v := (32 : Int32)) rfl rfl ?_
  refine zi_lushr rfl ?_
  refine zi_l2i rfl ?_
  refine zi_istore_n rfl rfl rfl ?_
  refine zi_iload_n rfl rfl ?_
  refine zi_ifne rfl (fun hc => ?_) (fun hc => ?_)
  · have hF := zf_n hc hF
    refine zi_iload_n rfl rfl ?_
    obtain ⟨v1, s2, hm, hF⟩ := zf_b hF
    refine zi_callS rfl rfl rfl rfl (zk_C.to (zk_C.up (by decide) (zF_JI_numberOfLeadingZeros hm)) (fun o ho => zk_K.okv ho ?_))
    exact zk_sb (zJ_JL_numberOfLeadingZeros_25   _ _ _ hF) rfl trivial
  · have hF := zf_p hc hF
    refine zi_bipush (v := (32 : Int32)) rfl rfl ?_
    refine zi_lload_n rfl rfl ?_
    refine zi_l2i rfl ?_
    obtain ⟨v3, s4, hm, hF⟩ := zf_b hF
    refine zi_callS rfl rfl rfl rfl (zk_C.to (zk_C.up (by decide) (zF_JI_numberOfLeadingZeros hm)) (fun o ho => zk_K.okv ho ?_))
    refine zi_iadd rfl ?_
    refine zi_goto rfl ?_
    exact zk_sb (zJ_JL_numberOfLeadingZeros_25   _ _ _ hF) rfl trivial
/-! m_N_ofLength -/
def F_N_ofLength (p0 : Int64) (s : zSt) : Option (Int64 × zSt) := (if 0 < (lg_cmp p0 (0 : Int64)) then (zb (F_JL_numberOfLeadingZeros (p0) s) (fun v1 s2 => some ((((((1023 : Int32) + ((63 : Int32) - v1))).toInt64 <<< (((52 : Int32)).toInt64 &&& 63)) ||| ((p0 <<< ((((52 : Int32) - ((63 : Int32) - v1))).toInt64 &&& 63)) &&& (4503599627370495 : Int64))), s2))) else some ((0 : Int64), s))
theorem zF_N_ofLength {X : zkX} {p0 : Int64} {s : zSt} {r} (hF : F_N_ofLength p0 s = some r) : zk_C X 3 m_N_ofLength [.long p0] (zHp s) (fun o => o = zoL r) := by
  unfold F_N_ofLength at hF
  refine zk_enter (lv := [(0, .long p0)]) rfl rfl ?_
  refine zi_lload_n rfl rfl ?_
  refine zi_lconst (v := (0 : Int64)) rfl rfl ?_
  refine zi_lcmp rfl ?_
  refine zi_ifgt rfl (fun hc => ?_) (fun hc => ?_)
  · have hF := zf_p hc hF
    refine zi_bipush (v := (63 : Int32)) rfl rfl ?_
    refine zi_lload_n rfl rfl ?_
    obtain ⟨v1, s2, hm, hF⟩ := zf_b hF
    refine zi_callS rfl rfl rfl rfl (zk_C.to (zk_C.up (by decide) (zF_JL_numberOfLeadingZeros hm)) (fun o ho => zk_K.okv ho ?_))
    refine zi_isub rfl ?_
    refine zi_istore_n rfl rfl rfl ?_
    refine zi_sipush (v := (1023 : Int32)) rfl rfl ?_
    refine zi_iload_n rfl rfl ?_
    refine zi_iadd rfl ?_
    refine zi_i2l rfl ?_
    refine zi_bipush (v := (52 : Int32)) rfl rfl ?_
    refine zi_lshl rfl ?_
    refine zi_lstore_n rfl rfl rfl ?_
    refine zi_lload_n rfl rfl ?_
    refine zi_lload_n rfl rfl ?_
    refine zi_bipush (v := (52 : Int32)) rfl rfl ?_
    refine zi_iload_n rfl rfl ?_
    refine zi_isub rfl ?_
    refine zi_lshl rfl ?_
    refine zi_ldc2_w (v := (4503599627370495 : Int64)) rfl rfl ?_
    refine zi_land rfl ?_
    refine zi_lor rfl ?_
    cases hF
    exact zi_lreturn rfl rfl rfl
  · have hF := zf_n hc hF
    refine zi_lconst (v := (0 : Int64)) rfl rfl ?_
    cases hF
    exact zi_lreturn rfl rfl rfl
/-! m_O_writeValue -/
def F_O_writeValue (p1 : Int32) (p2 : Int32) (p3 : Int64) (p5 : Int32) (s : zSt) : Option (Unit × zSt) := (zb (F_M_setWord (p1) ((6 : Int32)) ((p2).toInt64) s) (fun v1 s2 => (zb (F_M_setWord (p1) ((7 : Int32)) (p3) s2) (fun v3 s4 => (zb (F_M_setWord (p1) ((2 : Int32)) ((p5).toInt64) s4) (fun v5 s6 => some ((), s6)))))))
theorem zF_O_writeValue {X : zkX} {p1 : Int32} {p2 : Int32} {p3 : Int64} {p5 : Int32} {s : zSt} {r} (hF : F_O_writeValue p1 p2 p3 p5 s = some r) : zk_C X 2 m_O_writeValue [.ref 2, .int p1, .int p2, .long p3, .int p5] (zHp s) (fun o => o = zoU r) := by
  unfold F_O_writeValue at hF
  refine zk_enter (lv := [(0, .ref 2), (1, .int p1), (2, .int p2), (3, .long p3), (5, .int p5)]) rfl rfl ?_
  refine zi_aload_n rfl rfl ?_
  refine zi_getfield rfl rfl (zh_O _) rfl ?_
  refine zi_iload_n rfl rfl ?_
  refine zi_bipush (v := (6 : Int32)) rfl rfl ?_
  refine zi_iload_n rfl rfl ?_
  refine zi_i2l rfl ?_
  obtain ⟨v1, s2, hm, hF⟩ := zf_b hF
  refine zi_callV rfl rfl rfl (zh_M _) rfl (zk_C.to (zk_C.up (by decide) (zF_M_setWord hm)) (fun o ho => zk_K.okn ho ?_))
  refine zi_aload_n rfl rfl ?_
  refine zi_getfield rfl rfl (zh_O _) rfl ?_
  refine zi_iload_n rfl rfl ?_
  refine zi_bipush (v := (7 : Int32)) rfl rfl ?_
  refine zi_lload_n rfl rfl ?_
  obtain ⟨v3, s4, hm, hF⟩ := zf_b hF
  refine zi_callV rfl rfl rfl (zh_M _) rfl (zk_C.to (zk_C.up (by decide) (zF_M_setWord hm)) (fun o ho => zk_K.okn ho ?_))
  refine zi_aload_n rfl rfl ?_
  refine zi_getfield rfl rfl (zh_O _) rfl ?_
  refine zi_iload_n rfl rfl ?_
  refine zi_iconst (v := (2 : Int32)) rfl rfl ?_
  refine zi_iload rfl rfl ?_
  refine zi_i2l rfl ?_
  obtain ⟨v5, s6, hm, hF⟩ := zf_b hF
  refine zi_callV rfl rfl rfl (zh_M _) rfl (zk_C.to (zk_C.up (by decide) (zF_M_setWord hm)) (fun o ho => zk_K.okn ho ?_))
  cases hF
  exact zi_return rfl rfl rfl

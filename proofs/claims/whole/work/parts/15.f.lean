/-! m_O_writeLength -/
def F_O_writeLength (p1 : Int32) (p2 : Int64) (s : zSt) : Option (Unit × zSt) := (zb (F_N_ofLength (p2) s) (fun v1 s2 => (zb (F_O_writeValue (p1) ((4 : Int32)) (v1) ((0 : Int32)) s2) (fun v3 s4 => some ((), s4)))))
theorem zF_O_writeLength {X : zkX} {p1 : Int32} {p2 : Int64} {s : zSt} {r} (hF : F_O_writeLength p1 p2 s = some r) : zk_C X 4 m_O_writeLength [.ref 2, .int p1, .long p2] (zHp s) (fun o => o = zoU r) := by
  unfold F_O_writeLength at hF
  refine zk_enter (lv := [(0, .ref 2), (1, .int p1), (2, .long p2)]) rfl rfl ?_
  refine zi_aload_n rfl rfl ?_
  refine zi_iload_n rfl rfl ?_
  refine zi_iconst (v := (4 : Int32)) rfl rfl ?_
  refine zi_lload_n rfl rfl ?_
  obtain ⟨v1, s2, hm, hF⟩ := zf_b hF
  refine zi_callS rfl rfl rfl rfl (zk_C.to (zk_C.up (by decide) (zF_N_ofLength hm)) (fun o ho => zk_K.okv ho ?_))
  refine zi_iconst (v := (0 : Int32)) rfl rfl ?_
  obtain ⟨v3, s4, hm, hF⟩ := zf_b hF
  refine zi_callV rfl rfl rfl (zh_O _) rfl (zk_C.to (zk_C.up (by decide) (zF_O_writeValue hm)) (fun o ho => zk_K.okn ho ?_))
  cases hF
  exact zi_return rfl rfl rfl
/-! m_O_makeObject -/
def F_O_makeObject_37 (x3 : Int32) (s : zSt) : Option (Int32 × zSt) := some (x3, s)
def F_O_makeObject (p1 : Int32) (p2 : Int32) (s : zSt) : Option (Int32 × zSt) := (zb (F_M_make  s) (fun v1 s2 => (zb (F_M_setWord (v1) ((1 : Int32)) ((p1).toInt64) s2) (fun v3 s4 => (zb (F_M_setWord (v1) ((4 : Int32)) ((1 : Int64)) s4) (fun v5 s6 => (if p2 = 0 then F_O_makeObject_37    (v1) s6 else (if v1 = 0 then F_O_makeObject_37    (v1) s6 else (zb (F_M_keep ((26 : Int32)) (v1) s6) (fun v7 s8 => (zb (F_M_make  s8) (fun v9 s10 => (zb (F_M_keep ((26 : Int32)) ((0 : Int32)) s10) (fun v11 s12 => (if v9 = 0 then some ((0 : Int32), s12) else (zb (F_M_setWord (v9) ((4 : Int32)) ((-1 : Int64)) s12) (fun v13 s14 => (zb (F_M_setWord (v9) ((5 : Int32)) ((2 : Int64)) s14) (fun v15 s16 => (zb (F_O_writeLength (v9) ((0 : Int64)) s16) (fun v17 s18 => (zb (F_M_setWord (v1) ((2 : Int32)) ((v9).toInt64) s18) (fun v19 s20 => (zb (F_M_setWord (v1) ((3 : Int32)) ((v9).toInt64) s20) (fun v21 s22 => some (v1, s22))))))))))))))))))))))))))
theorem zJ_O_makeObject_37 {X : zkX} (x3 : Int32) (s : zSt) (r) (hF : F_O_makeObject_37   x3 s = some r) : zk_W X 4 m_O_makeObject (37, [(3, .int x3)], [], zHp s) (fun o => o = zoI r) := by
  unfold F_O_makeObject_37 at hF
  refine zi_iload_n rfl rfl ?_
  cases hF
  exact zi_ireturn rfl rfl rfl
theorem zF_O_makeObject {X : zkX} {p1 : Int32} {p2 : Int32} {s : zSt} {r} (hF : F_O_makeObject p1 p2 s = some r) : zk_C X 5 m_O_makeObject [.ref 2, .int p1, .int p2] (zHp s) (fun o => o = zoI r) := by
  unfold F_O_makeObject at hF
  refine zk_enter (lv := [(0, .ref 2), (1, .int p1), (2, .int p2)]) rfl rfl ?_
  refine zi_aload_n rfl rfl ?_
  refine zi_getfield rfl rfl (zh_O _) rfl ?_
  obtain ⟨v1, s2, hm, hF⟩ := zf_b hF
  refine zi_callV rfl rfl rfl (zh_M _) rfl (zk_C.to (zk_C.up (by decide) (zF_M_make hm)) (fun o ho => zk_K.okv ho ?_))
  refine zi_istore_n rfl rfl rfl ?_
  refine zi_aload_n rfl rfl ?_
  refine zi_getfield rfl rfl (zh_O _) rfl ?_
  refine zi_iload_n rfl rfl ?_
  refine zi_iconst (v := (1 : Int32)) rfl rfl ?_
  refine zi_iload_n rfl rfl ?_
  refine zi_i2l rfl ?_
  obtain ⟨v3, s4, hm, hF⟩ := zf_b hF
  refine zi_callV rfl rfl rfl (zh_M _) rfl (zk_C.to (zk_C.up (by decide) (zF_M_setWord hm)) (fun o ho => zk_K.okn ho ?_))
  refine zi_aload_n rfl rfl ?_
  refine zi_getfield rfl rfl (zh_O _) rfl ?_
  refine zi_iload_n rfl rfl ?_
  refine zi_iconst (v := (4 : Int32)) rfl rfl ?_
  refine zi_lconst (v := (1 : Int64)) rfl rfl ?_
  obtain ⟨v5, s6, hm, hF⟩ := zf_b hF
  refine zi_callV rfl rfl rfl (zh_M _) rfl (zk_C.to (zk_C.up (by decide) (zF_M_setWord hm)) (fun o ho => zk_K.okn ho ?_))
  refine zi_iload_n rfl rfl ?_
  refine zi_ifeq rfl (fun hc => ?_) (fun hc => ?_)
  · have hF := zf_p hc hF
    exact zk_sb (zJ_O_makeObject_37   _ _ _ hF) rfl ⟨rfl, trivial⟩
  · have hF := zf_n hc hF
    refine zi_iload_n rfl rfl ?_
    refine zi_ifne rfl (fun hc => ?_) (fun hc => ?_)
    · have hF := zf_n hc hF
      refine zi_aload_n rfl rfl ?_
      refine zi_getfield rfl rfl (zh_O _) rfl ?_
      refine zi_bipush (v := (26 : Int32)) rfl rfl ?_
      refine zi_iload_n rfl rfl ?_
      obtain ⟨v7, s8, hm, hF⟩ := zf_b hF
      refine zi_callV rfl rfl rfl (zh_M _) rfl (zk_C.to (zk_C.up (by decide) (zF_M_keep hm)) (fun o ho => zk_K.okn ho ?_))
      refine zi_aload_n rfl rfl ?_
      refine zi_getfield rfl rfl (zh_O _) rfl ?_
      obtain ⟨v9, s10, hm, hF⟩ := zf_b hF
      refine zi_callV rfl rfl rfl (zh_M _) rfl (zk_C.to (zk_C.up (by decide) (zF_M_make hm)) (fun o ho => zk_K.okv ho ?_))
      refine zi_istore rfl rfl rfl ?_
      refine zi_aload_n rfl rfl ?_
      refine zi_getfield rfl rfl (zh_O _) rfl ?_
      refine zi_bipush (v := (26 : Int32)) rfl rfl ?_
      refine zi_iconst (v := (0 : Int32)) rfl rfl ?_
      obtain ⟨v11, s12, hm, hF⟩ := zf_b hF
      refine zi_callV rfl rfl rfl (zh_M _) rfl (zk_C.to (zk_C.up (by decide) (zF_M_keep hm)) (fun o ho => zk_K.okn ho ?_))
      refine zi_iload rfl rfl ?_
      refine zi_ifne rfl (fun hc => ?_) (fun hc => ?_)
      · have hF := zf_n hc hF
        refine zi_aload_n rfl rfl ?_
        refine zi_getfield rfl rfl (zh_O _) rfl ?_
        refine zi_iload rfl rfl ?_
        refine zi_iconst (v := (4 : Int32)) rfl rfl ?_
        refine zi_ldc2_w (v := (-1 : Int64)) rfl rfl ?_
        obtain ⟨v13, s14, hm, hF⟩ := zf_b hF
        refine zi_callV rfl rfl rfl (zh_M _) rfl (zk_C.to (zk_C.up (by decide) (zF_M_setWord hm)) (fun o ho => zk_K.okn ho ?_))
        refine zi_aload_n rfl rfl ?_
        refine zi_getfield rfl rfl (zh_O _) rfl ?_
        refine zi_iload rfl rfl ?_
        refine zi_iconst (v := (5 : Int32)) rfl rfl ?_
        refine zi_ldc2_w (v := (2 : Int64)) rfl rfl ?_
        obtain ⟨v15, s16, hm, hF⟩ := zf_b hF
        refine zi_callV rfl rfl rfl (zh_M _) rfl (zk_C.to (zk_C.up (by decide) (zF_M_setWord hm)) (fun o ho => zk_K.okn ho ?_))
        refine zi_aload_n rfl rfl ?_
        refine zi_iload rfl rfl ?_
        refine zi_lconst (v := (0 : Int64)) rfl rfl ?_
        obtain ⟨v17, s18, hm, hF⟩ := zf_b hF
        refine zi_callV rfl rfl rfl (zh_O _) rfl (zk_C.to (zk_C.up (by decide) (zF_O_writeLength hm)) (fun o ho => zk_K.okn ho ?_))
        refine zi_aload_n rfl rfl ?_
        refine zi_getfield rfl rfl (zh_O _) rfl ?_
        refine zi_iload_n rfl rfl ?_
        refine zi_iconst (v := (2 : Int32)) rfl rfl ?_
        refine zi_iload rfl rfl ?_
        refine zi_i2l rfl ?_
        obtain ⟨v19, s20, hm, hF⟩ := zf_b hF
        refine zi_callV rfl rfl rfl (zh_M _) rfl (zk_C.to (zk_C.up (by decide) (zF_M_setWord hm)) (fun o ho => zk_K.okn ho ?_))
        refine zi_aload_n rfl rfl ?_
        refine zi_getfield rfl rfl (zh_O _) rfl ?_
        refine zi_iload_n rfl rfl ?_
        refine zi_iconst (v := (3 : Int32)) rfl rfl ?_
        refine zi_iload rfl rfl ?_
        refine zi_i2l rfl ?_
        obtain ⟨v21, s22, hm, hF⟩ := zf_b hF
        refine zi_callV rfl rfl rfl (zh_M _) rfl (zk_C.to (zk_C.up (by decide) (zF_M_setWord hm)) (fun o ho => zk_K.okn ho ?_))
        refine zi_iload_n rfl rfl ?_
        cases hF
        exact zi_ireturn rfl rfl rfl
      · have hF := zf_p hc hF
        refine zi_iconst (v := (0 : Int32)) rfl rfl ?_
        cases hF
        exact zi_ireturn rfl rfl rfl
    · have hF := zf_p hc hF
      exact zk_sb (zJ_O_makeObject_37   _ _ _ hF) rfl ⟨rfl, trivial⟩
/-! m_X_object -/
def F_X_object (p1 : Int32) (p2 : Int32) (p3 : Int32) (s : zSt) : Option ((Unit ⊕ Nat) × zSt) := (zt (F_X_needRoot (p1) s) (fun v1 s2 => (zt (F_X_heldOrNone (p2) s2) (fun v4 s5 => (zb (F_O_makeObject (v4) (p3) s5) (fun v7 s8 => (if v7 = 0 then some (.inr 0, zpush s8) else (zb (F_M_keep (p1) (v7) s8) (fun v9 s10 => some (.inl (), s10))))))))))
theorem zF_X_object {X : zkX} {p1 : Int32} {p2 : Int32} {p3 : Int32} {s : zSt} {r} (hF : F_X_object p1 p2 p3 s = some r) : zk_C X 10 m_X_object [.ref 1, .int p1, .int p2, .int p3] (zHp s) (fun o => o = ztU r) := by
  unfold F_X_object at hF
  refine zk_enter (lv := [(0, .ref 1), (1, .int p1), (2, .int p2), (3, .int p3)]) rfl rfl ?_
  refine zi_iload_n rfl rfl ?_
  rcases zf_t hF with ⟨v1, s2, hm, hF⟩ | ⟨x3, s2, hm, hF⟩
  rotate_left
  · subst hF
    exact zi_callS rfl rfl rfl rfl (zk_C.to (zk_C.up (by decide) (zF_X_needRoot hm)) (fun o ho => zk_K.thr (x := x3) (h2 := zHp s2) ho rfl rfl))
  refine zi_callS rfl rfl rfl rfl (zk_C.to (zk_C.up (by decide) (zF_X_needRoot hm)) (fun o ho => zk_K.okn ho ?_))
  refine zi_aload_n rfl rfl ?_
  refine zi_getfield rfl rfl (zh_X _) rfl ?_
  refine zi_aload_n rfl rfl ?_
  refine zi_iload_n rfl rfl ?_
  rcases zf_t hF with ⟨v4, s5, hm, hF⟩ | ⟨x6, s5, hm, hF⟩
  rotate_left
  · subst hF
    exact zi_callV rfl rfl rfl (zh_X _) rfl (zk_C.to (zk_C.up (by decide) (zF_X_heldOrNone hm)) (fun o ho => zk_K.thr (x := x6) (h2 := zHp s5) ho rfl rfl))
  refine zi_callV rfl rfl rfl (zh_X _) rfl (zk_C.to (zk_C.up (by decide) (zF_X_heldOrNone hm)) (fun o ho => zk_K.okv ho ?_))
  refine zi_iload_n rfl rfl ?_
  obtain ⟨v7, s8, hm, hF⟩ := zf_b hF
  refine zi_callV rfl rfl rfl (zh_O _) rfl (zk_C.to (zk_C.up (by decide) (zF_O_makeObject hm)) (fun o ho => zk_K.okv ho ?_))
  refine zi_istore rfl rfl rfl ?_
  refine zi_iload rfl rfl ?_
  refine zi_ifne rfl (fun hc => ?_) (fun hc => ?_)
  · have hF := zf_n hc hF
    refine zi_aload_n rfl rfl ?_
    refine zi_getfield rfl rfl (zh_X _) rfl ?_
    refine zi_iload_n rfl rfl ?_
    refine zi_iload rfl rfl ?_
    obtain ⟨v9, s10, hm, hF⟩ := zf_b hF
    refine zi_callV rfl rfl rfl (zh_M _) rfl (zk_C.to (zk_C.up (by decide) (zF_M_keep hm)) (fun o ho => zk_K.okn ho ?_))
    cases hF
    exact zi_return rfl rfl rfl
  · have hF := zf_p hc hF
    cases hF
    exact zi_throw rfl rfl rfl rfl rfl (by rw [zh_push]; rfl)
/-! m_L_object -/
def F_L_object (p1 : Int32) (p2 : Int32) (p3 : Int32) (s : zSt) : Option (Int32 × zSt) := (zc (F_X_object (p1) (p2) (p3) s) (fun v1 s2 => some ((0 : Int32), s2)) (fun x3 s2 => (if x3 = 0 then some ((1 : Int32), s2) else none)))
theorem zF_L_object {X : zkX} {p1 : Int32} {p2 : Int32} {p3 : Int32} {s : zSt} {r} (hF : F_L_object p1 p2 p3 s = some r) : zk_C X 11 m_L_object [.ref 1, .int p1, .int p2, .int p3] (zHp s) (fun o => o = zoI r) := by
  unfold F_L_object at hF
  refine zk_enter (lv := [(0, .ref 1), (1, .int p1), (2, .int p2), (3, .int p3)]) rfl rfl ?_
  refine zi_aload_n rfl rfl ?_
  refine zi_iload_n rfl rfl ?_
  refine zi_iload_n rfl rfl ?_
  refine zi_iload_n rfl rfl ?_
  rcases zf_c hF with ⟨v1, s2, hm, hF⟩ | ⟨x3, s2, hm, hF⟩
  rotate_left
  · refine zi_callV rfl rfl rfl (zh_X _) rfl (zk_C.to (zk_C.up (by decide) (zF_X_object hm)) (fun o ho => ?_))
    by_cases hx0 : x3 = 0
    · have hF := zf_p hx0 hF
      rw [hx0] at ho
      refine zk_K.cat (x := 0) (h2 := zHp s2) (hp := 10) ho rfl rfl ?_
      refine zi_iconst (v := (1 : Int32)) rfl rfl ?_
      cases hF
      exact zi_ireturn rfl rfl rfl
    have hF := zf_n hx0 hF
    cases hF
  refine zi_callV rfl rfl rfl (zh_X _) rfl (zk_C.to (zk_C.up (by decide) (zF_X_object hm)) (fun o ho => zk_K.okn ho ?_))
  refine zi_goto rfl ?_
  refine zi_iconst (v := (0 : Int32)) rfl rfl ?_
  cases hF
  exact zi_ireturn rfl rfl rfl
/-! m_X_copy -/
def F_X_copy_35 (y0 : Int32) (y1 : Int32) (s : zSt) : Option ((Unit ⊕ Nat) × zSt) := (zb (F_M_keep (y1) (y0) s) (fun v6 s7 => some (.inl (), s7)))
def F_X_copy_13 (x1 : Int32) (x2 : Int32) (s : zSt) : Option ((Unit ⊕ Nat) × zSt) := (if x2 = (-1 : Int32) then F_X_copy_35    ((0 : Int32)) (x1) s else (zb (F_M_kept (x2) s) (fun v4 s5 => F_X_copy_35    (v4) (x1) s5)))
def F_X_copy (p1 : Int32) (p2 : Int32) (s : zSt) : Option ((Unit ⊕ Nat) × zSt) := (zt (F_X_needRoot (p1) s) (fun v1 s2 => (if p2 = (-1 : Int32) then F_X_copy_13    (p1) (p2) s2 else (zt (F_X_needRoot (p2) s2) (fun v8 s9 => F_X_copy_13    (p1) (p2) s9)))))
theorem zJ_X_copy_35 {X : zkX} (y0 : Int32) (y1 : Int32) (s : zSt) (r) (hF : F_X_copy_35   y0 y1 s = some r) : zk_W X 7 m_X_copy (35, [], [.int y0, .int y1, .ref 3], zHp s) (fun o => o = ztU r) := by
  unfold F_X_copy_35 at hF
  obtain ⟨v6, s7, hm, hF⟩ := zf_b hF
  refine zi_callV rfl rfl rfl (zh_M _) rfl (zk_C.to (zk_C.up (by decide) (zF_M_keep hm)) (fun o ho => zk_K.okn ho ?_))
  cases hF
  exact zi_return rfl rfl rfl
theorem zJ_X_copy_13 {X : zkX} (x1 : Int32) (x2 : Int32) (s : zSt) (r) (hF : F_X_copy_13   x1 x2 s = some r) : zk_W X 7 m_X_copy (13, [(0, .ref 1), (1, .int x1), (2, .int x2)], [], zHp s) (fun o => o = ztU r) := by
  unfold F_X_copy_13 at hF
  refine zi_aload_n rfl rfl ?_
  refine zi_getfield rfl rfl (zh_X _) rfl ?_
  refine zi_iload_n rfl rfl ?_
  refine zi_iload_n rfl rfl ?_
  refine zi_iconst (v := (-1 : Int32)) rfl rfl ?_
  refine zi_icne rfl (fun hc => ?_) (fun hc => ?_)
  · have hF := zf_n hc hF
    refine zi_aload_n rfl rfl ?_
    refine zi_getfield rfl rfl (zh_X _) rfl ?_
    refine zi_iload_n rfl rfl ?_
    obtain ⟨v4, s5, hm, hF⟩ := zf_b hF
    refine zi_callV rfl rfl rfl (zh_M _) rfl (zk_C.to (zk_C.up (by decide) (zF_M_kept hm)) (fun o ho => zk_K.okv ho ?_))
    exact zk_sb (zJ_X_copy_35   _ _ _ _ hF) rfl trivial
  · have hF := zf_p hc hF
    refine zi_iconst (v := (0 : Int32)) rfl rfl ?_
    refine zi_goto rfl ?_
    exact zk_sb (zJ_X_copy_35   _ _ _ _ hF) rfl trivial
theorem zF_X_copy {X : zkX} {p1 : Int32} {p2 : Int32} {s : zSt} {r} (hF : F_X_copy p1 p2 s = some r) : zk_C X 8 m_X_copy [.ref 1, .int p1, .int p2] (zHp s) (fun o => o = ztU r) := by
  unfold F_X_copy at hF
  refine zk_enter (lv := [(0, .ref 1), (1, .int p1), (2, .int p2)]) rfl rfl ?_
  refine zi_iload_n rfl rfl ?_
  rcases zf_t hF with ⟨v1, s2, hm, hF⟩ | ⟨x3, s2, hm, hF⟩
  rotate_left
  · subst hF
    exact zi_callS rfl rfl rfl rfl (zk_C.to (zk_C.up (by decide) (zF_X_needRoot hm)) (fun o ho => zk_K.thr (x := x3) (h2 := zHp s2) ho rfl rfl))
  refine zi_callS rfl rfl rfl rfl (zk_C.to (zk_C.up (by decide) (zF_X_needRoot hm)) (fun o ho => zk_K.okn ho ?_))
  refine zi_iload_n rfl rfl ?_
  refine zi_iconst (v := (-1 : Int32)) rfl rfl ?_
  refine zi_iceq rfl (fun hc => ?_) (fun hc => ?_)
  · have hF := zf_p hc hF
    exact zk_sb (zJ_X_copy_13   _ _ _ _ hF) rfl ⟨rfl, rfl, rfl, trivial⟩
  · have hF := zf_n hc hF
    refine zi_iload_n rfl rfl ?_
    rcases zf_t hF with ⟨v8, s9, hm, hF⟩ | ⟨x10, s9, hm, hF⟩
    rotate_left
    · subst hF
      exact zi_callS rfl rfl rfl rfl (zk_C.to (zk_C.up (by decide) (zF_X_needRoot hm)) (fun o ho => zk_K.thr (x := x10) (h2 := zHp s9) ho rfl rfl))
    refine zi_callS rfl rfl rfl rfl (zk_C.to (zk_C.up (by decide) (zF_X_needRoot hm)) (fun o ho => zk_K.okn ho ?_))
    exact zk_sb (zJ_X_copy_13   _ _ _ _ hF) rfl ⟨rfl, rfl, rfl, trivial⟩
/-! m_L_copy -/
def F_L_copy (p1 : Int32) (p2 : Int32) (s : zSt) : Option (Int32 × zSt) := (zc (F_X_copy (p1) (p2) s) (fun v1 s2 => some ((0 : Int32), s2)) (fun x3 s2 => (if x3 = 0 then some ((1 : Int32), s2) else none)))
theorem zF_L_copy {X : zkX} {p1 : Int32} {p2 : Int32} {s : zSt} {r} (hF : F_L_copy p1 p2 s = some r) : zk_C X 9 m_L_copy [.ref 1, .int p1, .int p2] (zHp s) (fun o => o = zoI r) := by
  unfold F_L_copy at hF
  refine zk_enter (lv := [(0, .ref 1), (1, .int p1), (2, .int p2)]) rfl rfl ?_
  refine zi_aload_n rfl rfl ?_
  refine zi_iload_n rfl rfl ?_
  refine zi_iload_n rfl rfl ?_
  rcases zf_c hF with ⟨v1, s2, hm, hF⟩ | ⟨x3, s2, hm, hF⟩
  rotate_left
  · refine zi_callV rfl rfl rfl (zh_X _) rfl (zk_C.to (zk_C.up (by decide) (zF_X_copy hm)) (fun o ho => ?_))
    by_cases hx0 : x3 = 0
    · have hF := zf_p hx0 hF
      rw [hx0] at ho
      refine zk_K.cat (x := 0) (h2 := zHp s2) (hp := 9) ho rfl rfl ?_
      refine zi_iconst (v := (1 : Int32)) rfl rfl ?_
      cases hF
      exact zi_ireturn rfl rfl rfl
    have hF := zf_n hx0 hF
    cases hF
  refine zi_callV rfl rfl rfl (zh_X _) rfl (zk_C.to (zk_C.up (by decide) (zF_X_copy hm)) (fun o ho => zk_K.okn ho ?_))
  refine zi_goto rfl ?_
  refine zi_iconst (v := (0 : Int32)) rfl rfl ?_
  cases hF
  exact zi_ireturn rfl rfl rfl
/-! m_X_same -/
def F_X_same_32 (y0 : Int32) (s : zSt) : Option ((Int32 ⊕ Nat) × zSt) := (if vp_nar .boolean y0 = y0 then some (.inl y0, s) else none)
def F_X_same (p1 : Int32) (p2 : Int32) (s : zSt) : Option ((Int32 ⊕ Nat) × zSt) := (zt (F_X_needRoot (p1) s) (fun v1 s2 => (zt (F_X_needRoot (p2) s2) (fun v4 s5 => (zb (F_M_kept (p1) s5) (fun v7 s8 => (zb (F_M_kept (p2) s8) (fun v9 s10 => (if v7 = v9 then F_X_same_32    ((1 : Int32)) s10 else F_X_same_32    ((0 : Int32)) s10)))))))))
theorem zJ_X_same_32 {X : zkX} (y0 : Int32) (s : zSt) (r) (hF : F_X_same_32   y0 s = some r) : zk_W X 7 m_X_same (32, [], [.int y0], zHp s) (fun o => o = ztI r) := by
  unfold F_X_same_32 at hF
  obtain ⟨hz, hF⟩ := zf_g hF
  cases hF
  exact zi_zreturn rfl rfl hz rfl
theorem zF_X_same {X : zkX} {p1 : Int32} {p2 : Int32} {s : zSt} {r} (hF : F_X_same p1 p2 s = some r) : zk_C X 8 m_X_same [.ref 1, .int p1, .int p2] (zHp s) (fun o => o = ztI r) := by
  unfold F_X_same at hF
  refine zk_enter (lv := [(0, .ref 1), (1, .int p1), (2, .int p2)]) rfl rfl ?_
  refine zi_iload_n rfl rfl ?_
  rcases zf_t hF with ⟨v1, s2, hm, hF⟩ | ⟨x3, s2, hm, hF⟩
  rotate_left
  · subst hF
    exact zi_callS rfl rfl rfl rfl (zk_C.to (zk_C.up (by decide) (zF_X_needRoot hm)) (fun o ho => zk_K.thr (x := x3) (h2 := zHp s2) ho rfl rfl))
  refine zi_callS rfl rfl rfl rfl (zk_C.to (zk_C.up (by decide) (zF_X_needRoot hm)) (fun o ho => zk_K.okn ho ?_))
  refine zi_iload_n rfl rfl ?_
  rcases zf_t hF with ⟨v4, s5, hm, hF⟩ | ⟨x6, s5, hm, hF⟩
  rotate_left
  · subst hF
    exact zi_callS rfl rfl rfl rfl (zk_C.to (zk_C.up (by decide) (zF_X_needRoot hm)) (fun o ho => zk_K.thr (x := x6) (h2 := zHp s5) ho rfl rfl))
  refine zi_callS rfl rfl rfl rfl (zk_C.to (zk_C.up (by decide) (zF_X_needRoot hm)) (fun o ho => zk_K.okn ho ?_))
  refine zi_aload_n rfl rfl ?_
  refine zi_getfield rfl rfl (zh_X _) rfl ?_
  refine zi_iload_n rfl rfl ?_
  obtain ⟨v7, s8, hm, hF⟩ := zf_b hF
  refine zi_callV rfl rfl rfl (zh_M _) rfl (zk_C.to (zk_C.up (by decide) (zF_M_kept hm)) (fun o ho => zk_K.okv ho ?_))
  refine zi_aload_n rfl rfl ?_
  refine zi_getfield rfl rfl (zh_X _) rfl ?_
  refine zi_iload_n rfl rfl ?_
  obtain ⟨v9, s10, hm, hF⟩ := zf_b hF
  refine zi_callV rfl rfl rfl (zh_M _) rfl (zk_C.to (zk_C.up (by decide) (zF_M_kept hm)) (fun o ho => zk_K.okv ho ?_))
  refine zi_icne rfl (fun hc => ?_) (fun hc => ?_)
  · have hF := zf_n hc hF
    refine zi_iconst (v := (0 : Int32)) rfl rfl ?_
    exact zk_sb (zJ_X_same_32   _ _ _ hF) rfl trivial
  · have hF := zf_p hc hF
    refine zi_iconst (v := (1 : Int32)) rfl rfl ?_
    refine zi_goto rfl ?_
    exact zk_sb (zJ_X_same_32   _ _ _ hF) rfl trivial
/-! m_L_same -/
def F_L_same_16 (y0 : Int64) (y1 : Int32) (s : zSt) : Option (Int32 × zSt) := (if zin y1 1 then some ((0 : Int32), (sB s 3 (vp_updL (gB s 3) (y1).toNatClampNeg y0))) else none)
def F_L_same (p1 : Int32) (p2 : Int32) (s : zSt) : Option (Int32 × zSt) := (zc (F_X_same (p1) (p2) s) (fun v1 s2 => (if v1 = 0 then F_L_same_16    ((0 : Int64)) ((0 : Int32)) s2 else F_L_same_16    ((1 : Int64)) ((0 : Int32)) s2)) (fun x3 s2 => (if x3 = 0 then some ((1 : Int32), s2) else none)))
theorem zJ_L_same_16 {X : zkX} (y0 : Int64) (y1 : Int32) (s : zSt) (r) (hF : F_L_same_16   y0 y1 s = some r) : zk_W X 8 m_L_same (16, [], [.long y0, .int y1, .ref 20], zHp s) (fun o => o = zoI r) := by
  unfold F_L_same_16 at hF
  obtain ⟨hb, hF⟩ := zf_g hF
  refine zi_lastore rfl (zh_B3 _) (zin_ok hb) (zs_B3 _ _) ?_
  refine zi_goto rfl ?_
  refine zi_iconst (v := (0 : Int32)) rfl rfl ?_
  cases hF
  exact zi_ireturn rfl rfl rfl
theorem zF_L_same {X : zkX} {p1 : Int32} {p2 : Int32} {s : zSt} {r} (hF : F_L_same p1 p2 s = some r) : zk_C X 9 m_L_same [.ref 1, .int p1, .int p2, .ref 20] (zHp s) (fun o => o = zoI r) := by
  unfold F_L_same at hF
  refine zk_enter (lv := [(0, .ref 1), (1, .int p1), (2, .int p2), (3, .ref 20)]) rfl rfl ?_
  refine zi_aload_n rfl rfl ?_
  refine zi_iconst (v := (0 : Int32)) rfl rfl ?_
  refine zi_aload_n rfl rfl ?_
  refine zi_iload_n rfl rfl ?_
  refine zi_iload_n rfl rfl ?_
  rcases zf_c hF with ⟨v1, s2, hm, hF⟩ | ⟨x3, s2, hm, hF⟩
  rotate_left
  · refine zi_callV rfl rfl rfl (zh_X _) rfl (zk_C.to (zk_C.up (by decide) (zF_X_same hm)) (fun o ho => ?_))
    by_cases hx0 : x3 = 0
    · have hF := zf_p hx0 hF
      rw [hx0] at ho
      refine zk_K.cat (x := 0) (h2 := zHp s2) (hp := 20) ho rfl rfl ?_
      refine zi_iconst (v := (1 : Int32)) rfl rfl ?_
      cases hF
      exact zi_ireturn rfl rfl rfl
    have hF := zf_n hx0 hF
    cases hF
  refine zi_callV rfl rfl rfl (zh_X _) rfl (zk_C.to (zk_C.up (by decide) (zF_X_same hm)) (fun o ho => zk_K.okv ho ?_))
  refine zi_ifeq rfl (fun hc => ?_) (fun hc => ?_)
  · have hF := zf_p hc hF
    refine zi_lconst (v := (0 : Int64)) rfl rfl ?_
    exact zk_sb (zJ_L_same_16   _ _ _ _ hF) rfl trivial
  · have hF := zf_n hc hF
    refine zi_lconst (v := (1 : Int64)) rfl rfl ?_
    refine zi_goto rfl ?_
    exact zk_sb (zJ_L_same_16   _ _ _ _ hF) rfl trivial
/-! m_N_withOneNaN -/
def F_N_withOneNaN_39 (y0 : Int64) (s : zSt) : Option (Int64 × zSt) := some (y0, s)
def F_N_withOneNaN_27 (x0 : Int64) (y0 : Int32) (s : zSt) : Option (Int64 × zSt) := (if y0 = 0 then F_N_withOneNaN_39    (x0) s else F_N_withOneNaN_39    ((9221120237041090560 : Int64)) s)
def F_N_withOneNaN_26 (x0 : Int64) (s : zSt) : Option (Int64 × zSt) := F_N_withOneNaN_27    (x0) ((0 : Int32)) s
def F_N_withOneNaN (p0 : Int64) (s : zSt) : Option (Int64 × zSt) := (if (lg_cmp (p0 &&& (9218868437227405312 : Int64)) (9218868437227405312 : Int64)) = 0 then (if (lg_cmp (p0 &&& (4503599627370495 : Int64)) (0 : Int64)) = 0 then F_N_withOneNaN_26    (p0) s else F_N_withOneNaN_27    (p0) ((1 : Int32)) s) else F_N_withOneNaN_26    (p0) s)
theorem zJ_N_withOneNaN_39 {X : zkX} (y0 : Int64) (s : zSt) (r) (hF : F_N_withOneNaN_39   y0 s = some r) : zk_W X 0 m_N_withOneNaN (39, [], [.long y0], zHp s) (fun o => o = zoL r) := by
  unfold F_N_withOneNaN_39 at hF
  cases hF
  exact zi_lreturn rfl rfl rfl
theorem zJ_N_withOneNaN_27 {X : zkX} (x0 : Int64) (y0 : Int32) (s : zSt) (r) (hF : F_N_withOneNaN_27   x0 y0 s = some r) : zk_W X 0 m_N_withOneNaN (27, [(0, .long x0)], [.int y0], zHp s) (fun o => o = zoL r) := by
  unfold F_N_withOneNaN_27 at hF
  refine zi_istore_n rfl rfl rfl ?_
  refine zi_iload_n rfl rfl ?_
  refine zi_ifeq rfl (fun hc => ?_) (fun hc => ?_)
  · have hF := zf_p hc hF
    refine zi_lload_n rfl rfl ?_
    exact zk_sb (zJ_N_withOneNaN_39   _ _ _ hF) rfl trivial
  · have hF := zf_n hc hF
    refine zi_ldc2_w (v := (9221120237041090560 : Int64)) rfl rfl ?_
    refine zi_goto rfl ?_
    exact zk_sb (zJ_N_withOneNaN_39   _ _ _ hF) rfl trivial
theorem zJ_N_withOneNaN_26 {X : zkX} (x0 : Int64) (s : zSt) (r) (hF : F_N_withOneNaN_26   x0 s = some r) : zk_W X 0 m_N_withOneNaN (26, [(0, .long x0)], [], zHp s) (fun o => o = zoL r) := by
  unfold F_N_withOneNaN_26 at hF
  refine zi_iconst (v := (0 : Int32)) rfl rfl ?_
  exact zk_sb (zJ_N_withOneNaN_27   _ _ _ _ hF) rfl ⟨rfl, trivial⟩
theorem zF_N_withOneNaN {X : zkX} {p0 : Int64} {s : zSt} {r} (hF : F_N_withOneNaN p0 s = some r) : zk_C X 1 m_N_withOneNaN [.long p0] (zHp s) (fun o => o = zoL r) := by
  unfold F_N_withOneNaN at hF
  refine zk_enter (lv := [(0, .long p0)]) rfl rfl ?_
  refine zi_lload_n rfl rfl ?_
  refine zi_ldc2_w (v := (9218868437227405312 : Int64)) rfl rfl ?_
  refine zi_land rfl ?_
  refine zi_ldc2_w (v := (9218868437227405312 : Int64)) rfl rfl ?_
  refine zi_lcmp rfl ?_
  refine zi_ifne rfl (fun hc => ?_) (fun hc => ?_)
  · have hF := zf_n hc hF
    exact zk_sb (zJ_N_withOneNaN_26   _ _ _ hF) rfl ⟨rfl, trivial⟩
  · have hF := zf_p hc hF
    refine zi_lload_n rfl rfl ?_
    refine zi_ldc2_w (v := (4503599627370495 : Int64)) rfl rfl ?_
    refine zi_land rfl ?_
    refine zi_lconst (v := (0 : Int64)) rfl rfl ?_
    refine zi_lcmp rfl ?_
    refine zi_ifeq rfl (fun hc => ?_) (fun hc => ?_)
    · have hF := zf_p hc hF
      exact zk_sb (zJ_N_withOneNaN_26   _ _ _ hF) rfl ⟨rfl, trivial⟩
    · have hF := zf_n hc hF
      refine zi_iconst (v := (1 : Int32)) rfl rfl ?_
      refine zi_goto rfl ?_
      exact zk_sb (zJ_N_withOneNaN_27   _ _ _ _ hF) rfl ⟨rfl, trivial⟩
/-! m_X_operand -/
def F_X_operand_9  (s : zSt) : Option ((Unit ⊕ Nat) × zSt) := some (.inr 0, zpush s)
def F_X_operand_72 (x4 : Int32) (y0 : Int64) (s : zSt) : Option ((Unit ⊕ Nat) × zSt) := (zb (F_M_keep ((24 : Int32)) (x4) (sJ s 0 y0)) (fun v1 s2 => some (.inl (), s2)))
def F_X_operand_53 (x1 : Int32) (x2 : Int64) (x4 : Int32) (s : zSt) : Option ((Unit ⊕ Nat) × zSt) := (if x1 = (4 : Int32) then (zb (F_N_withOneNaN (x2) (sI s 0 x1)) (fun v3 s4 => F_X_operand_72    (x4) (v3) s4)) else F_X_operand_72    (x4) ((0 : Int64)) (sI s 0 x1))
def F_X_operand_48 (x1 : Int32) (x2 : Int64) (y0 : Int32) (s : zSt) : Option ((Unit ⊕ Nat) × zSt) := (zt (F_X_held (y0) s) (fun v5 s6 => F_X_operand_53    (x1) (x2) (v5) s6))
def F_X_operand_47 (x1 : Int32) (x2 : Int64) (s : zSt) : Option ((Unit ⊕ Nat) × zSt) := F_X_operand_48    (x1) (x2) ((-1 : Int32)) s
def F_X_operand (p1 : Int32) (p2 : Int64) (s : zSt) : Option ((Unit ⊕ Nat) × zSt) := (if p1 < 0 then F_X_operand_9     s else (if p1 ≤ (5 : Int32) then (if p1 = (5 : Int32) then (if (lg_cmp p2 (0 : Int64)) < 0 then F_X_operand_47    (p1) (p2) s else (if 0 ≤ (lg_cmp p2 (24 : Int64)) then F_X_operand_47    (p1) (p2) s else F_X_operand_48    (p1) (p2) ((p2).toInt32) s)) else F_X_operand_53    (p1) (p2) ((0 : Int32)) s) else F_X_operand_9     s))
theorem zJ_X_operand_9 {X : zkX}  (s : zSt) (r) (hF : F_X_operand_9    s = some r) : zk_W X 8 m_X_operand (9, [], [], zHp s) (fun o => o = ztU r) := by
  unfold F_X_operand_9 at hF
  cases hF
  exact zi_throw rfl rfl rfl rfl rfl (by rw [zh_push]; rfl)
theorem zJ_X_operand_72 {X : zkX} (x4 : Int32) (y0 : Int64) (s : zSt) (r) (hF : F_X_operand_72   x4 y0 s = some r) : zk_W X 8 m_X_operand (72, [(0, .ref 1), (4, .int x4)], [.long y0, .ref 1], zHp s) (fun o => o = ztU r) := by
  unfold F_X_operand_72 at hF
  refine zi_putfield rfl rfl (zh_X _) rfl rfl (zs_J0 _ _) ?_
  refine zi_aload_n rfl rfl ?_
  refine zi_getfield rfl rfl (zh_X _) rfl ?_
  refine zi_bipush (v := (24 : Int32)) rfl rfl ?_
  refine zi_iload rfl rfl ?_
  obtain ⟨v1, s2, hm, hF⟩ := zf_b hF
  refine zi_callV rfl rfl rfl (zh_M _) rfl (zk_C.to (zk_C.up (by decide) (zF_M_keep hm)) (fun o ho => zk_K.okn ho ?_))
  cases hF
  exact zi_return rfl rfl rfl
theorem zJ_X_operand_53 {X : zkX} (x1 : Int32) (x2 : Int64) (x4 : Int32) (s : zSt) (r) (hF : F_X_operand_53   x1 x2 x4 s = some r) : zk_W X 8 m_X_operand (53, [(0, .ref 1), (1, .int x1), (2, .long x2), (4, .int x4)], [], zHp s) (fun o => o = ztU r) := by
  unfold F_X_operand_53 at hF
  refine zi_aload_n rfl rfl ?_
  refine zi_iload_n rfl rfl ?_
  refine zi_putfield rfl rfl (zh_X _) rfl rfl (zs_I0 _ _) ?_
  refine zi_aload_n rfl rfl ?_
  refine zi_iload_n rfl rfl ?_
  refine zi_iconst (v := (4 : Int32)) rfl rfl ?_
  refine zi_icne rfl (fun hc => ?_) (fun hc => ?_)
  · have hF := zf_n hc hF
    refine zi_lconst (v := (0 : Int64)) rfl rfl ?_
    exact zk_sb (zJ_X_operand_72   _ _ _ _ hF) rfl ⟨rfl, rfl, trivial⟩
  · have hF := zf_p hc hF
    refine zi_lload_n rfl rfl ?_
    obtain ⟨v3, s4, hm, hF⟩ := zf_b hF
    refine zi_callS rfl rfl rfl rfl (zk_C.to (zk_C.up (by decide) (zF_N_withOneNaN hm)) (fun o ho => zk_K.okv ho ?_))
    refine zi_goto rfl ?_
    exact zk_sb (zJ_X_operand_72   _ _ _ _ hF) rfl ⟨rfl, rfl, trivial⟩
theorem zJ_X_operand_48 {X : zkX} (x1 : Int32) (x2 : Int64) (y0 : Int32) (s : zSt) (r) (hF : F_X_operand_48   x1 x2 y0 s = some r) : zk_W X 8 m_X_operand (48, [(0, .ref 1), (1, .int x1), (2, .long x2)], [.int y0, .ref 1], zHp s) (fun o => o = ztU r) := by
  unfold F_X_operand_48 at hF
  rcases zf_t hF with ⟨v5, s6, hm, hF⟩ | ⟨x7, s6, hm, hF⟩
  rotate_left
  · subst hF
    exact zi_callV rfl rfl rfl (zh_X _) rfl (zk_C.to (zk_C.up (by decide) (zF_X_held hm)) (fun o ho => zk_K.thr (x := x7) (h2 := zHp s6) ho rfl rfl))
  refine zi_callV rfl rfl rfl (zh_X _) rfl (zk_C.to (zk_C.up (by decide) (zF_X_held hm)) (fun o ho => zk_K.okv ho ?_))
  refine zi_istore rfl rfl rfl ?_
  exact zk_sb (zJ_X_operand_53   _ _ _ _ _ hF) rfl ⟨rfl, rfl, rfl, rfl, trivial⟩
theorem zJ_X_operand_47 {X : zkX} (x1 : Int32) (x2 : Int64) (s : zSt) (r) (hF : F_X_operand_47   x1 x2 s = some r) : zk_W X 8 m_X_operand (47, [(0, .ref 1), (1, .int x1), (2, .long x2)], [.ref 1], zHp s) (fun o => o = ztU r) := by
  unfold F_X_operand_47 at hF
  refine zi_iconst (v := (-1 : Int32)) rfl rfl ?_
  exact zk_sb (zJ_X_operand_48   _ _ _ _ _ hF) rfl ⟨rfl, rfl, rfl, trivial⟩
theorem zF_X_operand {X : zkX} {p1 : Int32} {p2 : Int64} {s : zSt} {r} (hF : F_X_operand p1 p2 s = some r) : zk_C X 9 m_X_operand [.ref 1, .int p1, .long p2] (zHp s) (fun o => o = ztU r) := by
  unfold F_X_operand at hF
  refine zk_enter (lv := [(0, .ref 1), (1, .int p1), (2, .long p2)]) rfl rfl ?_
  refine zi_iload_n rfl rfl ?_
  refine zi_iflt rfl (fun hc => ?_) (fun hc => ?_)
  · have hF := zf_p hc hF
    exact zk_sb (zJ_X_operand_9    _ _ hF) rfl trivial
  · have hF := zf_n hc hF
    refine zi_iload_n rfl rfl ?_
    refine zi_iconst (v := (5 : Int32)) rfl rfl ?_
    refine zi_icle rfl (fun hc => ?_) (fun hc => ?_)
    · have hF := zf_p hc hF
      refine zi_iconst (v := (0 : Int32)) rfl rfl ?_
      refine zi_istore rfl rfl rfl ?_
      refine zi_iload_n rfl rfl ?_
      refine zi_iconst (v := (5 : Int32)) rfl rfl ?_
      refine zi_icne rfl (fun hc => ?_) (fun hc => ?_)
      · have hF := zf_n hc hF
        exact zk_sb (zJ_X_operand_53   _ _ _ _ _ hF) rfl ⟨rfl, rfl, rfl, rfl, trivial⟩
      · have hF := zf_p hc hF
        refine zi_aload_n rfl rfl ?_
        refine zi_lload_n rfl rfl ?_
        refine zi_lconst (v := (0 : Int64)) rfl rfl ?_
        refine zi_lcmp rfl ?_
        refine zi_iflt rfl (fun hc => ?_) (fun hc => ?_)
        · have hF := zf_p hc hF
          exact zk_sb (zJ_X_operand_47   _ _ _ _ hF) rfl ⟨rfl, rfl, rfl, trivial⟩
        · have hF := zf_n hc hF
          refine zi_lload_n rfl rfl ?_
          refine zi_ldc2_w (v := (24 : Int64)) rfl rfl ?_
          refine zi_lcmp rfl ?_
          refine zi_ifge rfl (fun hc => ?_) (fun hc => ?_)
          · have hF := zf_p hc hF
            exact zk_sb (zJ_X_operand_47   _ _ _ _ hF) rfl ⟨rfl, rfl, rfl, trivial⟩
          · have hF := zf_n hc hF
            refine zi_lload_n rfl rfl ?_
            refine zi_l2i rfl ?_
            refine zi_goto rfl ?_
            exact zk_sb (zJ_X_operand_48   _ _ _ _ _ hF) rfl ⟨rfl, rfl, rfl, trivial⟩
    · have hF := zf_n hc hF
      exact zk_sb (zJ_X_operand_9    _ _ hF) rfl trivial
/-! m_L_operand -/
def F_L_operand (p1 : Int32) (p2 : Int64) (s : zSt) : Option (Int32 × zSt) := (zc (F_X_operand (p1) (p2) s) (fun v1 s2 => some ((0 : Int32), s2)) (fun x3 s2 => (if x3 = 0 then some ((1 : Int32), s2) else none)))
theorem zF_L_operand {X : zkX} {p1 : Int32} {p2 : Int64} {s : zSt} {r} (hF : F_L_operand p1 p2 s = some r) : zk_C X 10 m_L_operand [.ref 1, .int p1, .long p2] (zHp s) (fun o => o = zoI r) := by
  unfold F_L_operand at hF
  refine zk_enter (lv := [(0, .ref 1), (1, .int p1), (2, .long p2)]) rfl rfl ?_
  refine zi_aload_n rfl rfl ?_
  refine zi_iload_n rfl rfl ?_
  refine zi_lload_n rfl rfl ?_
  rcases zf_c hF with ⟨v1, s2, hm, hF⟩ | ⟨x3, s2, hm, hF⟩
  rotate_left
  · refine zi_callV rfl rfl rfl (zh_X _) rfl (zk_C.to (zk_C.up (by decide) (zF_X_operand hm)) (fun o ho => ?_))
    by_cases hx0 : x3 = 0
    · have hF := zf_p hx0 hF
      rw [hx0] at ho
      refine zk_K.cat (x := 0) (h2 := zHp s2) (hp := 9) ho rfl rfl ?_
      refine zi_iconst (v := (1 : Int32)) rfl rfl ?_
      cases hF
      exact zi_ireturn rfl rfl rfl
    have hF := zf_n hx0 hF
    cases hF
  refine zi_callV rfl rfl rfl (zh_X _) rfl (zk_C.to (zk_C.up (by decide) (zF_X_operand hm)) (fun o ho => zk_K.okn ho ?_))
  refine zi_goto rfl ?_
  refine zi_iconst (v := (0 : Int32)) rfl rfl ?_
  cases hF
  exact zi_ireturn rfl rfl rfl
/-! m_X_bits -/
def F_X_bits  (s : zSt) : Option ((Int64 ⊕ Nat) × zSt) := (if (gI s 1) = (4 : Int32) then some (.inl (gJ s 1), s) else some (.inr 1, zpush s))
theorem zF_X_bits {X : zkX} {s : zSt} {r} (hF : F_X_bits  s = some r) : zk_C X 7 m_X_bits [.ref 1] (zHp s) (fun o => o = ztL r) := by
  unfold F_X_bits at hF
  refine zk_enter (lv := [(0, .ref 1)]) rfl rfl ?_
  refine zi_aload_n rfl rfl ?_
  refine zi_getfield rfl rfl (zh_X _) rfl ?_
  refine zi_iconst (v := (4 : Int32)) rfl rfl ?_
  refine zi_iceq rfl (fun hc => ?_) (fun hc => ?_)
  · have hF := zf_p hc hF
    refine zi_aload_n rfl rfl ?_
    refine zi_getfield rfl rfl (zh_X _) rfl ?_
    cases hF
    exact zi_lreturn rfl rfl rfl
  · have hF := zf_n hc hF
    cases hF
    exact zi_throw rfl rfl rfl rfl rfl (by rw [zh_push]; rfl)
/-! m_L_bits -/
def F_L_bits  (s : zSt) : Option (Int32 × zSt) := (zc (F_X_bits  s) (fun v1 s2 => (if zin (0 : Int32) 1 then some ((0 : Int32), (sB s2 3 (vp_updL (gB s2 3) ((0 : Int32)).toNatClampNeg v1))) else none)) (fun x3 s2 => (if x3 = 1 then some ((1 : Int32), s2) else none)))
theorem zF_L_bits {X : zkX} {s : zSt} {r} (hF : F_L_bits  s = some r) : zk_C X 8 m_L_bits [.ref 1, .ref 20] (zHp s) (fun o => o = zoI r) := by
  unfold F_L_bits at hF
  refine zk_enter (lv := [(0, .ref 1), (1, .ref 20)]) rfl rfl ?_
  refine zi_aload_n rfl rfl ?_
  refine zi_iconst (v := (0 : Int32)) rfl rfl ?_
  refine zi_aload_n rfl rfl ?_
  rcases zf_c hF with ⟨v1, s2, hm, hF⟩ | ⟨x3, s2, hm, hF⟩
  rotate_left
  · refine zi_callV rfl rfl rfl (zh_X _) rfl (zk_C.to (zk_C.up (by decide) (zF_X_bits hm)) (fun o ho => ?_))
    by_cases hx1 : x3 = 1
    · have hF := zf_p hx1 hF
      rw [hx1] at ho
      refine zk_K.cat (x := 1) (h2 := zHp s2) (hp := 10) ho rfl rfl ?_
      refine zi_iconst (v := (1 : Int32)) rfl rfl ?_
      cases hF
      exact zi_ireturn rfl rfl rfl
    have hF := zf_n hx1 hF
    cases hF
  refine zi_callV rfl rfl rfl (zh_X _) rfl (zk_C.to (zk_C.up (by decide) (zF_X_bits hm)) (fun o ho => zk_K.okv ho ?_))
  obtain ⟨hb, hF⟩ := zf_g hF
  refine zi_lastore rfl (zh_B3 _) (zin_ok hb) (zs_B3 _ _) ?_
  refine zi_goto rfl ?_
  refine zi_iconst (v := (0 : Int32)) rfl rfl ?_
  cases hF
  exact zi_ireturn rfl rfl rfl
/-! m_X_hold -/
def F_X_hold (p1 : Int32) (s : zSt) : Option ((Unit ⊕ Nat) × zSt) := (zt (F_X_needRoot (p1) s) (fun v1 s2 => (if (gI s2 1) = (5 : Int32) then (zb (F_M_kept ((25 : Int32)) s2) (fun v4 s5 => (zb (F_M_keep (p1) (v4) s5) (fun v6 s7 => some (.inl (), s7))))) else some (.inr 1, zpush s2))))
theorem zF_X_hold {X : zkX} {p1 : Int32} {s : zSt} {r} (hF : F_X_hold p1 s = some r) : zk_C X 8 m_X_hold [.ref 1, .int p1] (zHp s) (fun o => o = ztU r) := by
  unfold F_X_hold at hF
  refine zk_enter (lv := [(0, .ref 1), (1, .int p1)]) rfl rfl ?_
  refine zi_iload_n rfl rfl ?_
  rcases zf_t hF with ⟨v1, s2, hm, hF⟩ | ⟨x3, s2, hm, hF⟩
  rotate_left
  · subst hF
    exact zi_callS rfl rfl rfl rfl (zk_C.to (zk_C.up (by decide) (zF_X_needRoot hm)) (fun o ho => zk_K.thr (x := x3) (h2 := zHp s2) ho rfl rfl))
  refine zi_callS rfl rfl rfl rfl (zk_C.to (zk_C.up (by decide) (zF_X_needRoot hm)) (fun o ho => zk_K.okn ho ?_))
  refine zi_aload_n rfl rfl ?_
  refine zi_getfield rfl rfl (zh_X _) rfl ?_
  refine zi_iconst (v := (5 : Int32)) rfl rfl ?_
  refine zi_iceq rfl (fun hc => ?_) (fun hc => ?_)
  · have hF := zf_p hc hF
    refine zi_aload_n rfl rfl ?_
    refine zi_getfield rfl rfl (zh_X _) rfl ?_
    refine zi_iload_n rfl rfl ?_
    refine zi_aload_n rfl rfl ?_
    refine zi_getfield rfl rfl (zh_X _) rfl ?_
    refine zi_bipush (v := (25 : Int32)) rfl rfl ?_
    obtain ⟨v4, s5, hm, hF⟩ := zf_b hF
    refine zi_callV rfl rfl rfl (zh_M _) rfl (zk_C.to (zk_C.up (by decide) (zF_M_kept hm)) (fun o ho => zk_K.okv ho ?_))
    obtain ⟨v6, s7, hm, hF⟩ := zf_b hF
    refine zi_callV rfl rfl rfl (zh_M _) rfl (zk_C.to (zk_C.up (by decide) (zF_M_keep hm)) (fun o ho => zk_K.okn ho ?_))
    cases hF
    exact zi_return rfl rfl rfl
  · have hF := zf_n hc hF
    cases hF
    exact zi_throw rfl rfl rfl rfl rfl (by rw [zh_push]; rfl)
/-! m_L_hold -/
def F_L_hold (p1 : Int32) (s : zSt) : Option (Int32 × zSt) := (zc (F_X_hold (p1) s) (fun v1 s2 => some ((0 : Int32), s2)) (fun x3 s2 => (if x3 = 0 then some ((1 : Int32), s2) else (if x3 = 1 then some ((2 : Int32), s2) else none))))
theorem zF_L_hold {X : zkX} {p1 : Int32} {s : zSt} {r} (hF : F_L_hold p1 s = some r) : zk_C X 9 m_L_hold [.ref 1, .int p1] (zHp s) (fun o => o = zoI r) := by
  unfold F_L_hold at hF
  refine zk_enter (lv := [(0, .ref 1), (1, .int p1)]) rfl rfl ?_
  refine zi_aload_n rfl rfl ?_
  refine zi_iload_n rfl rfl ?_
  rcases zf_c hF with ⟨v1, s2, hm, hF⟩ | ⟨x3, s2, hm, hF⟩
  rotate_left
  · refine zi_callV rfl rfl rfl (zh_X _) rfl (zk_C.to (zk_C.up (by decide) (zF_X_hold hm)) (fun o ho => ?_))
    by_cases hx0 : x3 = 0
    · have hF := zf_p hx0 hF
      rw [hx0] at ho
      refine zk_K.cat (x := 0) (h2 := zHp s2) (hp := 8) ho rfl rfl ?_
      refine zi_iconst (v := (1 : Int32)) rfl rfl ?_
      cases hF
      exact zi_ireturn rfl rfl rfl
    have hF := zf_n hx0 hF
    by_cases hx1 : x3 = 1
    · have hF := zf_p hx1 hF
      rw [hx1] at ho
      refine zk_K.cat (x := 1) (h2 := zHp s2) (hp := 11) ho rfl rfl ?_
      refine zi_iconst (v := (2 : Int32)) rfl rfl ?_
      cases hF
      exact zi_ireturn rfl rfl rfl
    have hF := zf_n hx1 hF
    cases hF
  refine zi_callV rfl rfl rfl (zh_X _) rfl (zk_C.to (zk_C.up (by decide) (zF_X_hold hm)) (fun o ho => zk_K.okn ho ?_))
  refine zi_goto rfl ?_
  refine zi_iconst (v := (0 : Int32)) rfl rfl ?_
  cases hF
  exact zi_ireturn rfl rfl rfl
/-! m_X_heldWithKey -/
def F_X_heldWithKey_23  (s : zSt) : Option ((Int32 ⊕ Nat) × zSt) := some (.inr 0, zpush s)
def F_X_heldWithKey (p1 : Int32) (p2 : Int64) (s : zSt) : Option ((Int32 ⊕ Nat) × zSt) := (zt (F_X_held (p1) s) (fun v1 s2 => (if (lg_cmp p2 (-64 : Int64)) < 0 then F_X_heldWithKey_23     s2 else (if (lg_cmp p2 (4294967294 : Int64)) ≤ 0 then some (.inl v1, s2) else F_X_heldWithKey_23     s2))))
theorem zJ_X_heldWithKey_23 {X : zkX}  (s : zSt) (r) (hF : F_X_heldWithKey_23    s = some r) : zk_W X 8 m_X_heldWithKey (23, [], [], zHp s) (fun o => o = ztI r) := by
  unfold F_X_heldWithKey_23 at hF
  cases hF
  exact zi_throw rfl rfl rfl rfl rfl (by rw [zh_push]; rfl)
theorem zF_X_heldWithKey {X : zkX} {p1 : Int32} {p2 : Int64} {s : zSt} {r} (hF : F_X_heldWithKey p1 p2 s = some r) : zk_C X 9 m_X_heldWithKey [.ref 1, .int p1, .long p2] (zHp s) (fun o => o = ztI r) := by
  unfold F_X_heldWithKey at hF
  refine zk_enter (lv := [(0, .ref 1), (1, .int p1), (2, .long p2)]) rfl rfl ?_
  refine zi_aload_n rfl rfl ?_
  refine zi_iload_n rfl rfl ?_
  rcases zf_t hF with ⟨v1, s2, hm, hF⟩ | ⟨x3, s2, hm, hF⟩
  rotate_left
  · subst hF
    exact zi_callV rfl rfl rfl (zh_X _) rfl (zk_C.to (zk_C.up (by decide) (zF_X_held hm)) (fun o ho => zk_K.thr (x := x3) (h2 := zHp s2) ho rfl rfl))
  refine zi_callV rfl rfl rfl (zh_X _) rfl (zk_C.to (zk_C.up (by decide) (zF_X_held hm)) (fun o ho => zk_K.okv ho ?_))
  refine zi_istore rfl rfl rfl ?_
  refine zi_lload_n rfl rfl ?_
  refine zi_ldc2_w (v := (-64 : Int64)) rfl rfl ?_
  refine zi_lcmp rfl ?_
  refine zi_iflt rfl (fun hc => ?_) (fun hc => ?_)
  · have hF := zf_p hc hF
    exact zk_sb (zJ_X_heldWithKey_23    _ _ hF) rfl trivial
  · have hF := zf_n hc hF
    refine zi_lload_n rfl rfl ?_
    refine zi_ldc2_w (v := (4294967294 : Int64)) rfl rfl ?_
    refine zi_lcmp rfl ?_
    refine zi_ifle rfl (fun hc => ?_) (fun hc => ?_)
    · have hF := zf_p hc hF
      refine zi_iload rfl rfl ?_
      cases hF
      exact zi_ireturn rfl rfl rfl
    · have hF := zf_n hc hF
      exact zk_sb (zJ_X_heldWithKey_23    _ _ hF) rfl trivial
/-! m_O_first -/
def F_O_first (p1 : Int32) (s : zSt) : Option (Int32 × zSt) := (zb (F_M_word (p1) ((2 : Int32)) s) (fun v1 s2 => some ((v1).toInt32, s2)))
theorem zF_O_first {X : zkX} {p1 : Int32} {s : zSt} {r} (hF : F_O_first p1 s = some r) : zk_C X 2 m_O_first [.ref 2, .int p1] (zHp s) (fun o => o = zoI r) := by
  unfold F_O_first at hF
  refine zk_enter (lv := [(0, .ref 2), (1, .int p1)]) rfl rfl ?_
  refine zi_aload_n rfl rfl ?_
  refine zi_getfield rfl rfl (zh_O _) rfl ?_
  refine zi_iload_n rfl rfl ?_
  refine zi_iconst (v := (2 : Int32)) rfl rfl ?_
  obtain ⟨v1, s2, hm, hF⟩ := zf_b hF
  refine zi_callV rfl rfl rfl (zh_M _) rfl (zk_C.to (zk_C.up (by decide) (zF_M_word hm)) (fun o ho => zk_K.okv ho ?_))
  refine zi_l2i rfl ?_
  cases hF
  exact zi_ireturn rfl rfl rfl
/-! m_O_keyOf -/
def F_O_keyOf (p1 : Int32) (s : zSt) : Option (Int64 × zSt) := (zb (F_M_word (p1) ((4 : Int32)) s) (fun v1 s2 => some (v1, s2)))
theorem zF_O_keyOf {X : zkX} {p1 : Int32} {s : zSt} {r} (hF : F_O_keyOf p1 s = some r) : zk_C X 2 m_O_keyOf [.ref 2, .int p1] (zHp s) (fun o => o = zoL r) := by
  unfold F_O_keyOf at hF
  refine zk_enter (lv := [(0, .ref 2), (1, .int p1)]) rfl rfl ?_
  refine zi_aload_n rfl rfl ?_
  refine zi_getfield rfl rfl (zh_O _) rfl ?_
  refine zi_iload_n rfl rfl ?_
  refine zi_iconst (v := (4 : Int32)) rfl rfl ?_
  obtain ⟨v1, s2, hm, hF⟩ := zf_b hF
  refine zi_callV rfl rfl rfl (zh_M _) rfl (zk_C.to (zk_C.up (by decide) (zF_M_word hm)) (fun o ho => zk_K.okv ho ?_))
  cases hF
  exact zi_lreturn rfl rfl rfl
/-! m_O_next -/
def F_O_next (p1 : Int32) (s : zSt) : Option (Int32 × zSt) := (zb (F_M_word (p1) ((1 : Int32)) s) (fun v1 s2 => some ((v1).toInt32, s2)))
theorem zF_O_next {X : zkX} {p1 : Int32} {s : zSt} {r} (hF : F_O_next p1 s = some r) : zk_C X 2 m_O_next [.ref 2, .int p1] (zHp s) (fun o => o = zoI r) := by
  unfold F_O_next at hF
  refine zk_enter (lv := [(0, .ref 2), (1, .int p1)]) rfl rfl ?_
  refine zi_aload_n rfl rfl ?_
  refine zi_getfield rfl rfl (zh_O _) rfl ?_
  refine zi_iload_n rfl rfl ?_
  refine zi_iconst (v := (1 : Int32)) rfl rfl ?_
  obtain ⟨v1, s2, hm, hF⟩ := zf_b hF
  refine zi_callV rfl rfl rfl (zh_M _) rfl (zk_C.to (zk_C.up (by decide) (zF_M_word hm)) (fun o ho => zk_K.okv ho ?_))
  refine zi_l2i rfl ?_
  cases hF
  exact zi_ireturn rfl rfl rfl
/-! m_O_findOwn -/
def F_O_findOwn_51  (s : zSt) : Option (Int32 × zSt) := some ((0 : Int32), s)
def F_O_findOwn_10  : Nat → Int64 → Int32 → Int32 → zSt → Option (Int32 × zSt)
  | 0, _, _, _, _ => none
  | n + 1, x2, x4, x5, s => (if (1024 : Int32) ≤ x5 then F_O_findOwn_51     s else (if x4 = 0 then F_O_findOwn_51     s else (zb (F_O_keyOf (x4) s) (fun v3 s4 => (if (lg_cmp v3 x2) = 0 then some (x4, s4) else (zb (F_O_next (x4) s4) (fun v5 s6 => F_O_findOwn_10  n (x2) (v5) ((x5 + (1 : Int32))) s6)))))))
def F_O_findOwn (p1 : Int32) (p2 : Int64) (s : zSt) : Option (Int32 × zSt) := (zb (F_O_first (p1) s) (fun v1 s2 => F_O_findOwn_10   zFuel (p2) (v1) ((0 : Int32)) s2))
theorem zJ_O_findOwn_51 {X : zkX}  (s : zSt) (r) (hF : F_O_findOwn_51    s = some r) : zk_W X 2 m_O_findOwn (51, [], [], zHp s) (fun o => o = zoI r) := by
  unfold F_O_findOwn_51 at hF
  refine zi_iconst (v := (0 : Int32)) rfl rfl ?_
  cases hF
  exact zi_ireturn rfl rfl rfl
theorem zJ_O_findOwn_10 {X : zkX} : ∀ (n : Nat) (x2 : Int64) (x4 : Int32) (x5 : Int32) (s : zSt) (r), F_O_findOwn_10   n x2 x4 x5 s = some r → zk_W X 2 m_O_findOwn (10, [(0, .ref 2), (2, .long x2), (4, .int x4), (5, .int x5)], [], zHp s) (fun o => o = zoI r) := by
  intro n
  induction n with
  | zero => intro x2 x4 x5 s r hF; cases hF
  | succ n ih =>
    intro x2 x4 x5 s r hF
    rw [F_O_findOwn_10] at hF
    refine zi_iload rfl rfl ?_
    refine zi_sipush (v := (1024 : Int32)) rfl rfl ?_
    refine zi_icge rfl (fun hc => ?_) (fun hc => ?_)
    · have hF := zf_p hc hF
      exact zk_sb (zJ_O_findOwn_51    _ _ hF) rfl trivial
    · have hF := zf_n hc hF
      refine zi_iload rfl rfl ?_
      refine zi_ifeq rfl (fun hc => ?_) (fun hc => ?_)
      · have hF := zf_p hc hF
        exact zk_sb (zJ_O_findOwn_51    _ _ hF) rfl trivial
      · have hF := zf_n hc hF
        refine zi_aload_n rfl rfl ?_
        refine zi_iload rfl rfl ?_
        obtain ⟨v3, s4, hm, hF⟩ := zf_b hF
        refine zi_callV rfl rfl rfl (zh_O _) rfl (zk_C.to (zk_C.up (by decide) (zF_O_keyOf hm)) (fun o ho => zk_K.okv ho ?_))
        refine zi_lload_n rfl rfl ?_
        refine zi_lcmp rfl ?_
        refine zi_ifne rfl (fun hc => ?_) (fun hc => ?_)
        · have hF := zf_n hc hF
          refine zi_aload_n rfl rfl ?_
          refine zi_iload rfl rfl ?_
          obtain ⟨v5, s6, hm, hF⟩ := zf_b hF
          refine zi_callV rfl rfl rfl (zh_O _) rfl (zk_C.to (zk_C.up (by decide) (zF_O_next hm)) (fun o ho => zk_K.okv ho ?_))
          refine zi_istore rfl rfl rfl ?_
          refine zi_iinc (y := (x5 + (1 : Int32))) rfl rfl rfl rfl rfl ?_
          refine zi_goto rfl ?_
          exact zk_sb (ih _ _ _ _ _ hF) rfl ⟨rfl, rfl, rfl, rfl, trivial⟩
        · have hF := zf_p hc hF
          refine zi_iload rfl rfl ?_
          cases hF
          exact zi_ireturn rfl rfl rfl
theorem zF_O_findOwn {X : zkX} {p1 : Int32} {p2 : Int64} {s : zSt} {r} (hF : F_O_findOwn p1 p2 s = some r) : zk_C X 3 m_O_findOwn [.ref 2, .int p1, .long p2] (zHp s) (fun o => o = zoI r) := by
  unfold F_O_findOwn at hF
  refine zk_enter (lv := [(0, .ref 2), (1, .int p1), (2, .long p2)]) rfl rfl ?_
  refine zi_aload_n rfl rfl ?_
  refine zi_iload_n rfl rfl ?_
  obtain ⟨v1, s2, hm, hF⟩ := zf_b hF
  refine zi_callV rfl rfl rfl (zh_O _) rfl (zk_C.to (zk_C.up (by decide) (zF_O_first hm)) (fun o ho => zk_K.okv ho ?_))
  refine zi_istore rfl rfl rfl ?_
  refine zi_iconst (v := (0 : Int32)) rfl rfl ?_
  refine zi_istore rfl rfl rfl ?_
  exact zk_sb (zJ_O_findOwn_10  zFuel _ _ _ _ _ hF) rfl ⟨rfl, rfl, rfl, rfl, trivial⟩
/-! m_O_prototypeOf -/
def F_O_prototypeOf (p1 : Int32) (s : zSt) : Option (Int32 × zSt) := (zb (F_M_word (p1) ((1 : Int32)) s) (fun v1 s2 => some ((v1).toInt32, s2)))
theorem zF_O_prototypeOf {X : zkX} {p1 : Int32} {s : zSt} {r} (hF : F_O_prototypeOf p1 s = some r) : zk_C X 2 m_O_prototypeOf [.ref 2, .int p1] (zHp s) (fun o => o = zoI r) := by
  unfold F_O_prototypeOf at hF
  refine zk_enter (lv := [(0, .ref 2), (1, .int p1)]) rfl rfl ?_
  refine zi_aload_n rfl rfl ?_
  refine zi_getfield rfl rfl (zh_O _) rfl ?_
  refine zi_iload_n rfl rfl ?_
  refine zi_iconst (v := (1 : Int32)) rfl rfl ?_
  obtain ⟨v1, s2, hm, hF⟩ := zf_b hF
  refine zi_callV rfl rfl rfl (zh_M _) rfl (zk_C.to (zk_C.up (by decide) (zF_M_word hm)) (fun o ho => zk_K.okv ho ?_))
  refine zi_l2i rfl ?_
  cases hF
  exact zi_ireturn rfl rfl rfl
/-! m_O_find -/
def F_O_find_50  (s : zSt) : Option (Int32 × zSt) := some ((0 : Int32), s)
def F_O_find_6  : Nat → Int64 → Int32 → Int32 → zSt → Option (Int32 × zSt)
  | 0, _, _, _, _ => none
  | n + 1, x2, x4, x5, s => (if (1024 : Int32) ≤ x5 then F_O_find_50     s else (if x4 = 0 then F_O_find_50     s else (zb (F_O_findOwn (x4) (x2) s) (fun v1 s2 => (if v1 = 0 then (zb (F_O_prototypeOf (x4) s2) (fun v3 s4 => F_O_find_6  n (x2) (v3) ((x5 + (1 : Int32))) s4)) else some (v1, s2))))))
def F_O_find (p1 : Int32) (p2 : Int64) (s : zSt) : Option (Int32 × zSt) := F_O_find_6   zFuel (p2) (p1) ((0 : Int32)) s
theorem zJ_O_find_50 {X : zkX}  (s : zSt) (r) (hF : F_O_find_50    s = some r) : zk_W X 3 m_O_find (50, [], [], zHp s) (fun o => o = zoI r) := by
  unfold F_O_find_50 at hF
  refine zi_iconst (v := (0 : Int32)) rfl rfl ?_
  cases hF
  exact zi_ireturn rfl rfl rfl
theorem zJ_O_find_6 {X : zkX} : ∀ (n : Nat) (x2 : Int64) (x4 : Int32) (x5 : Int32) (s : zSt) (r), F_O_find_6   n x2 x4 x5 s = some r → zk_W X 3 m_O_find (6, [(0, .ref 2), (2, .long x2), (4, .int x4), (5, .int x5)], [], zHp s) (fun o => o = zoI r) := by
  intro n
  induction n with
  | zero => intro x2 x4 x5 s r hF; cases hF
  | succ n ih =>
    intro x2 x4 x5 s r hF
    rw [F_O_find_6] at hF
    refine zi_iload rfl rfl ?_
    refine zi_sipush (v := (1024 : Int32)) rfl rfl ?_
    refine zi_icge rfl (fun hc => ?_) (fun hc => ?_)
    · have hF := zf_p hc hF
      exact zk_sb (zJ_O_find_50    _ _ hF) rfl trivial
    · have hF := zf_n hc hF
      refine zi_iload rfl rfl ?_
      refine zi_ifeq rfl (fun hc => ?_) (fun hc => ?_)
      · have hF := zf_p hc hF
        exact zk_sb (zJ_O_find_50    _ _ hF) rfl trivial
      · have hF := zf_n hc hF
        refine zi_aload_n rfl rfl ?_
        refine zi_iload rfl rfl ?_
        refine zi_lload_n rfl rfl ?_
        obtain ⟨v1, s2, hm, hF⟩ := zf_b hF
        refine zi_callV rfl rfl rfl (zh_O _) rfl (zk_C.to (zk_C.up (by decide) (zF_O_findOwn hm)) (fun o ho => zk_K.okv ho ?_))
        refine zi_istore rfl rfl rfl ?_
        refine zi_iload rfl rfl ?_
        refine zi_ifeq rfl (fun hc => ?_) (fun hc => ?_)
        · have hF := zf_p hc hF
          refine zi_aload_n rfl rfl ?_
          refine zi_iload rfl rfl ?_
          obtain ⟨v3, s4, hm, hF⟩ := zf_b hF
          refine zi_callV rfl rfl rfl (zh_O _) rfl (zk_C.to (zk_C.up (by decide) (zF_O_prototypeOf hm)) (fun o ho => zk_K.okv ho ?_))
          refine zi_istore rfl rfl rfl ?_
          refine zi_iinc (y := (x5 + (1 : Int32))) rfl rfl rfl rfl rfl ?_
          refine zi_goto rfl ?_
          exact zk_sb (ih _ _ _ _ _ hF) rfl ⟨rfl, rfl, rfl, rfl, trivial⟩
        · have hF := zf_n hc hF
          refine zi_iload rfl rfl ?_
          cases hF
          exact zi_ireturn rfl rfl rfl
theorem zF_O_find {X : zkX} {p1 : Int32} {p2 : Int64} {s : zSt} {r} (hF : F_O_find p1 p2 s = some r) : zk_C X 4 m_O_find [.ref 2, .int p1, .long p2] (zHp s) (fun o => o = zoI r) := by
  unfold F_O_find at hF
  refine zk_enter (lv := [(0, .ref 2), (1, .int p1), (2, .long p2)]) rfl rfl ?_
  refine zi_iload_n rfl rfl ?_
  refine zi_istore rfl rfl rfl ?_
  refine zi_iconst (v := (0 : Int32)) rfl rfl ?_
  refine zi_istore rfl rfl rfl ?_
  exact zk_sb (zJ_O_find_6  zFuel _ _ _ _ _ hF) rfl ⟨rfl, rfl, rfl, rfl, trivial⟩
/-! m_O_kindOf -/
def F_O_kindOf (p1 : Int32) (s : zSt) : Option (Int32 × zSt) := (zb (F_M_word (p1) ((6 : Int32)) s) (fun v1 s2 => some ((v1).toInt32, s2)))
theorem zF_O_kindOf {X : zkX} {p1 : Int32} {s : zSt} {r} (hF : F_O_kindOf p1 s = some r) : zk_C X 2 m_O_kindOf [.ref 2, .int p1] (zHp s) (fun o => o = zoI r) := by
  unfold F_O_kindOf at hF
  refine zk_enter (lv := [(0, .ref 2), (1, .int p1)]) rfl rfl ?_
  refine zi_aload_n rfl rfl ?_
  refine zi_getfield rfl rfl (zh_O _) rfl ?_
  refine zi_iload_n rfl rfl ?_
  refine zi_bipush (v := (6 : Int32)) rfl rfl ?_
  obtain ⟨v1, s2, hm, hF⟩ := zf_b hF
  refine zi_callV rfl rfl rfl (zh_M _) rfl (zk_C.to (zk_C.up (by decide) (zF_M_word hm)) (fun o ho => zk_K.okv ho ?_))
  refine zi_l2i rfl ?_
  cases hF
  exact zi_ireturn rfl rfl rfl
/-! m_O_numberOf -/
def F_O_numberOf (p1 : Int32) (s : zSt) : Option (Int64 × zSt) := (zb (F_M_word (p1) ((7 : Int32)) s) (fun v1 s2 => some (v1, s2)))
theorem zF_O_numberOf {X : zkX} {p1 : Int32} {s : zSt} {r} (hF : F_O_numberOf p1 s = some r) : zk_C X 2 m_O_numberOf [.ref 2, .int p1] (zHp s) (fun o => o = zoL r) := by
  unfold F_O_numberOf at hF
  refine zk_enter (lv := [(0, .ref 2), (1, .int p1)]) rfl rfl ?_
  refine zi_aload_n rfl rfl ?_
  refine zi_getfield rfl rfl (zh_O _) rfl ?_
  refine zi_iload_n rfl rfl ?_
  refine zi_bipush (v := (7 : Int32)) rfl rfl ?_
  obtain ⟨v1, s2, hm, hF⟩ := zf_b hF
  refine zi_callV rfl rfl rfl (zh_M _) rfl (zk_C.to (zk_C.up (by decide) (zF_M_word hm)) (fun o ho => zk_K.okv ho ?_))
  cases hF
  exact zi_lreturn rfl rfl rfl
/-! m_O_objectOf -/
def F_O_objectOf (p1 : Int32) (s : zSt) : Option (Int32 × zSt) := (zb (F_M_word (p1) ((2 : Int32)) s) (fun v1 s2 => some ((v1).toInt32, s2)))
theorem zF_O_objectOf {X : zkX} {p1 : Int32} {s : zSt} {r} (hF : F_O_objectOf p1 s = some r) : zk_C X 2 m_O_objectOf [.ref 2, .int p1] (zHp s) (fun o => o = zoI r) := by
  unfold F_O_objectOf at hF
  refine zk_enter (lv := [(0, .ref 2), (1, .int p1)]) rfl rfl ?_
  refine zi_aload_n rfl rfl ?_
  refine zi_getfield rfl rfl (zh_O _) rfl ?_
  refine zi_iload_n rfl rfl ?_
  refine zi_iconst (v := (2 : Int32)) rfl rfl ?_
  obtain ⟨v1, s2, hm, hF⟩ := zf_b hF
  refine zi_callV rfl rfl rfl (zh_M _) rfl (zk_C.to (zk_C.up (by decide) (zF_M_word hm)) (fun o ho => zk_K.okv ho ?_))
  refine zi_l2i rfl ?_
  cases hF
  exact zi_ireturn rfl rfl rfl
/-! m_X_giveValue -/
def F_X_giveValue (p1 : Int32) (s : zSt) : Option (Unit × zSt) := (zb (F_O_kindOf (p1) s) (fun v1 s2 => (zb (F_O_numberOf (p1) (sI s2 1 v1)) (fun v3 s4 => (zb (F_O_objectOf (p1) (sJ s4 1 v3)) (fun v5 s6 => (zb (F_M_keep ((25 : Int32)) (v5) s6) (fun v7 s8 => some ((), s8)))))))))
theorem zF_X_giveValue {X : zkX} {p1 : Int32} {s : zSt} {r} (hF : F_X_giveValue p1 s = some r) : zk_C X 3 m_X_giveValue [.ref 1, .int p1] (zHp s) (fun o => o = zoU r) := by
  unfold F_X_giveValue at hF
  refine zk_enter (lv := [(0, .ref 1), (1, .int p1)]) rfl rfl ?_
  refine zi_aload_n rfl rfl ?_
  refine zi_aload_n rfl rfl ?_
  refine zi_getfield rfl rfl (zh_X _) rfl ?_
  refine zi_iload_n rfl rfl ?_
  obtain ⟨v1, s2, hm, hF⟩ := zf_b hF
  refine zi_callV rfl rfl rfl (zh_O _) rfl (zk_C.to (zk_C.up (by decide) (zF_O_kindOf hm)) (fun o ho => zk_K.okv ho ?_))
  refine zi_putfield rfl rfl (zh_X _) rfl rfl (zs_I1 _ _) ?_
  refine zi_aload_n rfl rfl ?_
  refine zi_aload_n rfl rfl ?_
  refine zi_getfield rfl rfl (zh_X _) rfl ?_
  refine zi_iload_n rfl rfl ?_
  obtain ⟨v3, s4, hm, hF⟩ := zf_b hF
  refine zi_callV rfl rfl rfl (zh_O _) rfl (zk_C.to (zk_C.up (by decide) (zF_O_numberOf hm)) (fun o ho => zk_K.okv ho ?_))
  refine zi_putfield rfl rfl (zh_X _) rfl rfl (zs_J1 _ _) ?_
  refine zi_aload_n rfl rfl ?_
  refine zi_getfield rfl rfl (zh_X _) rfl ?_
  refine zi_bipush (v := (25 : Int32)) rfl rfl ?_
  refine zi_aload_n rfl rfl ?_
  refine zi_getfield rfl rfl (zh_X _) rfl ?_
  refine zi_iload_n rfl rfl ?_
  obtain ⟨v5, s6, hm, hF⟩ := zf_b hF
  refine zi_callV rfl rfl rfl (zh_O _) rfl (zk_C.to (zk_C.up (by decide) (zF_O_objectOf hm)) (fun o ho => zk_K.okv ho ?_))
  obtain ⟨v7, s8, hm, hF⟩ := zf_b hF
  refine zi_callV rfl rfl rfl (zh_M _) rfl (zk_C.to (zk_C.up (by decide) (zF_M_keep hm)) (fun o ho => zk_K.okn ho ?_))
  cases hF
  exact zi_return rfl rfl rfl

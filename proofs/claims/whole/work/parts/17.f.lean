/-! m_O_definePlainly -/
def F_O_definePlainly_42 (y0 : Int32) (s : zSt) : Option (Int32 × zSt) := some (y0, s)
def F_O_definePlainly (p1 : Int32) (p2 : Int64) (s : zSt) : Option (Int32 × zSt) := (zb (F_O_findOwn (p1) (p2) s) (fun v1 s2 => (if v1 = 0 then (zb (F_O_isExtensible (p1) s2) (fun v3 s4 => (if v3 = 0 then F_O_definePlainly_42    ((2 : Int32)) s4 else (zb (F_O_add (p1) (p2) s4) (fun v5 s6 => F_O_definePlainly_42    (v5) s6))))) else (zb (F_O_change (v1) s2) (fun v7 s8 => some (v7, s8))))))
theorem zJ_O_definePlainly_42 {X : zkX} (y0 : Int32) (s : zSt) (r) (hF : F_O_definePlainly_42   y0 s = some r) : zk_W X 5 m_O_definePlainly (42, [], [.int y0], zHp s) (fun o => o = zoI r) := by
  unfold F_O_definePlainly_42 at hF
  cases hF
  exact zi_ireturn rfl rfl rfl
theorem zF_O_definePlainly {X : zkX} {p1 : Int32} {p2 : Int64} {s : zSt} {r} (hF : F_O_definePlainly p1 p2 s = some r) : zk_C X 6 m_O_definePlainly [.ref 2, .int p1, .long p2, .ref 6] (zHp s) (fun o => o = zoI r) := by
  unfold F_O_definePlainly at hF
  refine zk_enter (lv := [(0, .ref 2), (1, .int p1), (2, .long p2), (4, .ref 6)]) rfl rfl ?_
  refine zi_aload_n rfl rfl ?_
  refine zi_iload_n rfl rfl ?_
  refine zi_lload_n rfl rfl ?_
  obtain ⟨v1, s2, hm, hF⟩ := zf_b hF
  refine zi_callV rfl rfl rfl (zh_O _) rfl (zk_C.to (zk_C.up (by decide) (zF_O_findOwn hm)) (fun o ho => zk_K.okv ho ?_))
  refine zi_istore rfl rfl rfl ?_
  refine zi_iload rfl rfl ?_
  refine zi_ifeq rfl (fun hc => ?_) (fun hc => ?_)
  · have hF := zf_p hc hF
    refine zi_aload_n rfl rfl ?_
    refine zi_iload_n rfl rfl ?_
    obtain ⟨v3, s4, hm, hF⟩ := zf_b hF
    refine zi_callV rfl rfl rfl (zh_O _) rfl (zk_C.to (zk_C.up (by decide) (zF_O_isExtensible hm)) (fun o ho => zk_K.okv ho ?_))
    refine zi_ifeq rfl (fun hc => ?_) (fun hc => ?_)
    · have hF := zf_p hc hF
      refine zi_iconst (v := (2 : Int32)) rfl rfl ?_
      exact zk_sb (zJ_O_definePlainly_42   _ _ _ hF) rfl trivial
    · have hF := zf_n hc hF
      refine zi_aload_n rfl rfl ?_
      refine zi_iload_n rfl rfl ?_
      refine zi_lload_n rfl rfl ?_
      refine zi_aload rfl rfl ?_
      obtain ⟨v5, s6, hm, hF⟩ := zf_b hF
      refine zi_callV rfl rfl rfl (zh_O _) rfl (zk_C.to (zk_C.up (by decide) (zF_O_add hm)) (fun o ho => zk_K.okv ho ?_))
      refine zi_goto rfl ?_
      exact zk_sb (zJ_O_definePlainly_42   _ _ _ hF) rfl trivial
  · have hF := zf_n hc hF
    refine zi_aload_n rfl rfl ?_
    refine zi_iload rfl rfl ?_
    refine zi_aload rfl rfl ?_
    obtain ⟨v7, s8, hm, hF⟩ := zf_b hF
    refine zi_callV rfl rfl rfl (zh_O _) rfl (zk_C.to (zk_C.up (by decide) (zF_O_change hm)) (fun o ho => zk_K.okv ho ?_))
    cases hF
    exact zi_ireturn rfl rfl rfl
/-! m_N_wholeLength -/
def F_N_wholeLength_14  (s : zSt) : Option (Int64 × zSt) := some ((0 : Int64), s)
def F_N_wholeLength_36  (s : zSt) : Option (Int64 × zSt) := some ((-1 : Int64), s)
def F_N_wholeLength_80 (y0 : Int64) (s : zSt) : Option (Int64 × zSt) := some (y0, s)
def F_N_wholeLength (p0 : Int64) (s : zSt) : Option (Int64 × zSt) := (if (lg_cmp p0 (0 : Int64)) = 0 then F_N_wholeLength_14     s else (if (lg_cmp p0 (-9223372036854775808 : Int64)) = 0 then F_N_wholeLength_14     s else (if ((((p0).toUInt64 >>> (((52 : Int32)).toInt64.toUInt64 &&& Int64.toUInt64 63)).toInt64).toInt32 - (1023 : Int32)) < 0 then F_N_wholeLength_36     s else (if ((((p0).toUInt64 >>> (((52 : Int32)).toInt64.toUInt64 &&& Int64.toUInt64 63)).toInt64).toInt32 - (1023 : Int32)) < (32 : Int32) then (if (lg_cmp (((((p0 &&& (4503599627370495 : Int64)) ||| (4503599627370496 : Int64))).toUInt64 >>> ((((52 : Int32) - ((((p0).toUInt64 >>> (((52 : Int32)).toInt64.toUInt64 &&& Int64.toUInt64 63)).toInt64).toInt32 - (1023 : Int32)))).toInt64.toUInt64 &&& Int64.toUInt64 63)).toInt64 <<< ((((52 : Int32) - ((((p0).toUInt64 >>> (((52 : Int32)).toInt64.toUInt64 &&& Int64.toUInt64 63)).toInt64).toInt32 - (1023 : Int32)))).toInt64 &&& 63)) ((p0 &&& (4503599627370495 : Int64)) ||| (4503599627370496 : Int64))) = 0 then F_N_wholeLength_80    (((((p0 &&& (4503599627370495 : Int64)) ||| (4503599627370496 : Int64))).toUInt64 >>> ((((52 : Int32) - ((((p0).toUInt64 >>> (((52 : Int32)).toInt64.toUInt64 &&& Int64.toUInt64 63)).toInt64).toInt32 - (1023 : Int32)))).toInt64.toUInt64 &&& Int64.toUInt64 63)).toInt64) s else F_N_wholeLength_80    ((-1 : Int64)) s) else F_N_wholeLength_36     s))))
theorem zJ_N_wholeLength_14 {X : zkX}  (s : zSt) (r) (hF : F_N_wholeLength_14    s = some r) : zk_W X 0 m_N_wholeLength (14, [], [], zHp s) (fun o => o = zoL r) := by
  unfold F_N_wholeLength_14 at hF
  refine zi_lconst (v := (0 : Int64)) rfl rfl ?_
  cases hF
  exact zi_lreturn rfl rfl rfl
theorem zJ_N_wholeLength_36 {X : zkX}  (s : zSt) (r) (hF : F_N_wholeLength_36    s = some r) : zk_W X 0 m_N_wholeLength (36, [], [], zHp s) (fun o => o = zoL r) := by
  unfold F_N_wholeLength_36 at hF
  refine zi_ldc2_w (v := (-1 : Int64)) rfl rfl ?_
  cases hF
  exact zi_lreturn rfl rfl rfl
theorem zJ_N_wholeLength_80 {X : zkX} (y0 : Int64) (s : zSt) (r) (hF : F_N_wholeLength_80   y0 s = some r) : zk_W X 0 m_N_wholeLength (80, [], [.long y0], zHp s) (fun o => o = zoL r) := by
  unfold F_N_wholeLength_80 at hF
  cases hF
  exact zi_lreturn rfl rfl rfl
theorem zF_N_wholeLength {X : zkX} {p0 : Int64} {s : zSt} {r} (hF : F_N_wholeLength p0 s = some r) : zk_C X 1 m_N_wholeLength [.long p0] (zHp s) (fun o => o = zoL r) := by
  unfold F_N_wholeLength at hF
  refine zk_enter (lv := [(0, .long p0)]) rfl rfl ?_
  refine zi_lload_n rfl rfl ?_
  refine zi_lconst (v := (0 : Int64)) rfl rfl ?_
  refine zi_lcmp rfl ?_
  refine zi_ifeq rfl (fun hc => ?_) (fun hc => ?_)
  · have hF := zf_p hc hF
    exact zk_sb (zJ_N_wholeLength_14    _ _ hF) rfl trivial
  · have hF := zf_n hc hF
    refine zi_lload_n rfl rfl ?_
    refine zi_ldc2_w (v := (-9223372036854775808 : Int64)) rfl rfl ?_
    refine zi_lcmp rfl ?_
    refine zi_ifne rfl (fun hc => ?_) (fun hc => ?_)
    · have hF := zf_n hc hF
      refine zi_lload_n rfl rfl ?_
      refine zi_bipush (v := (52 : Int32)) rfl rfl ?_
      refine zi_lushr rfl ?_
      refine zi_l2i rfl ?_
      refine zi_sipush (v := (1023 : Int32)) rfl rfl ?_
      refine zi_isub rfl ?_
      refine zi_istore_n rfl rfl rfl ?_
      refine zi_iload_n rfl rfl ?_
      refine zi_iflt rfl (fun hc => ?_) (fun hc => ?_)
      · have hF := zf_p hc hF
        exact zk_sb (zJ_N_wholeLength_36    _ _ hF) rfl trivial
      · have hF := zf_n hc hF
        refine zi_iload_n rfl rfl ?_
        refine zi_bipush (v := (32 : Int32)) rfl rfl ?_
        refine zi_iclt rfl (fun hc => ?_) (fun hc => ?_)
        · have hF := zf_p hc hF
          refine zi_lload_n rfl rfl ?_
          refine zi_ldc2_w (v := (4503599627370495 : Int64)) rfl rfl ?_
          refine zi_land rfl ?_
          refine zi_ldc2_w (v := (4503599627370496 : Int64)) rfl rfl ?_
          refine zi_lor rfl ?_
          refine zi_lstore_n rfl rfl rfl ?_
          refine zi_bipush (v := (52 : Int32)) rfl rfl ?_
          refine zi_iload_n rfl rfl ?_
          refine zi_isub rfl ?_
          refine zi_istore rfl rfl rfl ?_
          refine zi_lload_n rfl rfl ?_
          refine zi_iload rfl rfl ?_
          refine zi_lushr rfl ?_
          refine zi_lstore rfl rfl rfl ?_
          refine zi_lload rfl rfl ?_
          refine zi_iload rfl rfl ?_
          refine zi_lshl rfl ?_
          refine zi_lload_n rfl rfl ?_
          refine zi_lcmp rfl ?_
          refine zi_ifne rfl (fun hc => ?_) (fun hc => ?_)
          · have hF := zf_n hc hF
            refine zi_ldc2_w (v := (-1 : Int64)) rfl rfl ?_
            exact zk_sb (zJ_N_wholeLength_80   _ _ _ hF) rfl trivial
          · have hF := zf_p hc hF
            refine zi_lload rfl rfl ?_
            refine zi_goto rfl ?_
            exact zk_sb (zJ_N_wholeLength_80   _ _ _ hF) rfl trivial
        · have hF := zf_n hc hF
          exact zk_sb (zJ_N_wholeLength_36    _ _ hF) rfl trivial
    · have hF := zf_p hc hF
      exact zk_sb (zJ_N_wholeLength_14    _ _ hF) rfl trivial
/-! m_N_asLength -/
def F_N_asLength_10  (s : zSt) : Option (Int64 × zSt) := some ((0 : Int64), s)
def F_N_asLength_34 (y0 : Int64) (s : zSt) : Option (Int64 × zSt) := some (y0, s)
def F_N_asLength (p0 : Int32) (p1 : Int64) (s : zSt) : Option (Int64 × zSt) := (if p0 = (1 : Int32) then F_N_asLength_10     s else (if p0 = (2 : Int32) then F_N_asLength_10     s else (if p0 = (3 : Int32) then some ((1 : Int64), s) else (if p0 = (4 : Int32) then (zb (F_N_wholeLength (p1) s) (fun v1 s2 => F_N_asLength_34    (v1) s2)) else F_N_asLength_34    ((-1 : Int64)) s))))
theorem zJ_N_asLength_10 {X : zkX}  (s : zSt) (r) (hF : F_N_asLength_10    s = some r) : zk_W X 1 m_N_asLength (10, [], [], zHp s) (fun o => o = zoL r) := by
  unfold F_N_asLength_10 at hF
  refine zi_lconst (v := (0 : Int64)) rfl rfl ?_
  cases hF
  exact zi_lreturn rfl rfl rfl
theorem zJ_N_asLength_34 {X : zkX} (y0 : Int64) (s : zSt) (r) (hF : F_N_asLength_34   y0 s = some r) : zk_W X 1 m_N_asLength (34, [], [.long y0], zHp s) (fun o => o = zoL r) := by
  unfold F_N_asLength_34 at hF
  cases hF
  exact zi_lreturn rfl rfl rfl
theorem zF_N_asLength {X : zkX} {p0 : Int32} {p1 : Int64} {s : zSt} {r} (hF : F_N_asLength p0 p1 s = some r) : zk_C X 2 m_N_asLength [.int p0, .long p1] (zHp s) (fun o => o = zoL r) := by
  unfold F_N_asLength at hF
  refine zk_enter (lv := [(0, .int p0), (1, .long p1)]) rfl rfl ?_
  refine zi_iload_n rfl rfl ?_
  refine zi_iconst (v := (1 : Int32)) rfl rfl ?_
  refine zi_iceq rfl (fun hc => ?_) (fun hc => ?_)
  · have hF := zf_p hc hF
    exact zk_sb (zJ_N_asLength_10    _ _ hF) rfl trivial
  · have hF := zf_n hc hF
    refine zi_iload_n rfl rfl ?_
    refine zi_iconst (v := (2 : Int32)) rfl rfl ?_
    refine zi_icne rfl (fun hc => ?_) (fun hc => ?_)
    · have hF := zf_n hc hF
      refine zi_iload_n rfl rfl ?_
      refine zi_iconst (v := (3 : Int32)) rfl rfl ?_
      refine zi_icne rfl (fun hc => ?_) (fun hc => ?_)
      · have hF := zf_n hc hF
        refine zi_iload_n rfl rfl ?_
        refine zi_iconst (v := (4 : Int32)) rfl rfl ?_
        refine zi_icne rfl (fun hc => ?_) (fun hc => ?_)
        · have hF := zf_n hc hF
          refine zi_ldc2_w (v := (-1 : Int64)) rfl rfl ?_
          exact zk_sb (zJ_N_asLength_34   _ _ _ hF) rfl trivial
        · have hF := zf_p hc hF
          refine zi_lload_n rfl rfl ?_
          obtain ⟨v1, s2, hm, hF⟩ := zf_b hF
          refine zi_callS rfl rfl rfl rfl (zk_C.to (zk_C.up (by decide) (zF_N_wholeLength hm)) (fun o ho => zk_K.okv ho ?_))
          refine zi_goto rfl ?_
          exact zk_sb (zJ_N_asLength_34   _ _ _ hF) rfl trivial
      · have hF := zf_p hc hF
        refine zi_lconst (v := (1 : Int64)) rfl rfl ?_
        cases hF
        exact zi_lreturn rfl rfl rfl
    · have hF := zf_p hc hF
      exact zk_sb (zJ_N_asLength_10    _ _ hF) rfl trivial
/-! m_O_readLength -/
def F_O_readLength (p1 : Int32) (s : zSt) : Option (Int64 × zSt) := (zb (F_O_kindOf (p1) s) (fun v1 s2 => (zb (F_O_numberOf (p1) s2) (fun v3 s4 => (zb (F_N_asLength (v1) (v3) s4) (fun v5 s6 => some (v5, s6)))))))
theorem zF_O_readLength {X : zkX} {p1 : Int32} {s : zSt} {r} (hF : F_O_readLength p1 s = some r) : zk_C X 3 m_O_readLength [.ref 2, .int p1] (zHp s) (fun o => o = zoL r) := by
  unfold F_O_readLength at hF
  refine zk_enter (lv := [(0, .ref 2), (1, .int p1)]) rfl rfl ?_
  refine zi_aload_n rfl rfl ?_
  refine zi_iload_n rfl rfl ?_
  obtain ⟨v1, s2, hm, hF⟩ := zf_b hF
  refine zi_callV rfl rfl rfl (zh_O _) rfl (zk_C.to (zk_C.up (by decide) (zF_O_kindOf hm)) (fun o ho => zk_K.okv ho ?_))
  refine zi_aload_n rfl rfl ?_
  refine zi_iload_n rfl rfl ?_
  obtain ⟨v3, s4, hm, hF⟩ := zf_b hF
  refine zi_callV rfl rfl rfl (zh_O _) rfl (zk_C.to (zk_C.up (by decide) (zF_O_numberOf hm)) (fun o ho => zk_K.okv ho ?_))
  obtain ⟨v5, s6, hm, hF⟩ := zf_b hF
  refine zi_callS rfl rfl rfl rfl (zk_C.to (zk_C.up (by decide) (zF_N_asLength hm)) (fun o ho => zk_K.okv ho ?_))
  cases hF
  exact zi_lreturn rfl rfl rfl
/-! m_D_tellsFalse -/
def F_D_tellsFalse_21 (y0 : Int32) (s : zSt) : Option (Int32 × zSt) := (if vp_nar .boolean y0 = y0 then some (y0, s) else none)
def F_D_tellsFalse_20  (s : zSt) : Option (Int32 × zSt) := F_D_tellsFalse_21    ((0 : Int32)) s
def F_D_tellsFalse (p1 : Int32) (s : zSt) : Option (Int32 × zSt) := (zb (F_D_tells (p1) s) (fun v1 s2 => (if v1 = 0 then F_D_tellsFalse_20     s2 else (zb (F_D_tellsTrue (p1) s2) (fun v3 s4 => (if v3 = 0 then F_D_tellsFalse_21    ((1 : Int32)) s4 else F_D_tellsFalse_20     s4))))))
theorem zJ_D_tellsFalse_21 {X : zkX} (y0 : Int32) (s : zSt) (r) (hF : F_D_tellsFalse_21   y0 s = some r) : zk_W X 1 m_D_tellsFalse (21, [], [.int y0], zHp s) (fun o => o = zoI r) := by
  unfold F_D_tellsFalse_21 at hF
  obtain ⟨hz, hF⟩ := zf_g hF
  cases hF
  exact zi_zreturn rfl rfl hz rfl
theorem zJ_D_tellsFalse_20 {X : zkX}  (s : zSt) (r) (hF : F_D_tellsFalse_20    s = some r) : zk_W X 1 m_D_tellsFalse (20, [], [], zHp s) (fun o => o = zoI r) := by
  unfold F_D_tellsFalse_20 at hF
  refine zi_iconst (v := (0 : Int32)) rfl rfl ?_
  exact zk_sb (zJ_D_tellsFalse_21   _ _ _ hF) rfl trivial
theorem zF_D_tellsFalse {X : zkX} {p1 : Int32} {s : zSt} {r} (hF : F_D_tellsFalse p1 s = some r) : zk_C X 2 m_D_tellsFalse [.ref 6, .int p1] (zHp s) (fun o => o = zoI r) := by
  unfold F_D_tellsFalse at hF
  refine zk_enter (lv := [(0, .ref 6), (1, .int p1)]) rfl rfl ?_
  refine zi_aload_n rfl rfl ?_
  refine zi_iload_n rfl rfl ?_
  obtain ⟨v1, s2, hm, hF⟩ := zf_b hF
  refine zi_callV rfl rfl rfl (zh_D _) rfl (zk_C.to (zk_C.up (by decide) (zF_D_tells hm)) (fun o ho => zk_K.okv ho ?_))
  refine zi_ifeq rfl (fun hc => ?_) (fun hc => ?_)
  · have hF := zf_p hc hF
    exact zk_sb (zJ_D_tellsFalse_20    _ _ hF) rfl trivial
  · have hF := zf_n hc hF
    refine zi_aload_n rfl rfl ?_
    refine zi_iload_n rfl rfl ?_
    obtain ⟨v3, s4, hm, hF⟩ := zf_b hF
    refine zi_callV rfl rfl rfl (zh_D _) rfl (zk_C.to (zk_C.up (by decide) (zF_D_tellsTrue hm)) (fun o ho => zk_K.okv ho ?_))
    refine zi_ifne rfl (fun hc => ?_) (fun hc => ?_)
    · have hF := zf_n hc hF
      exact zk_sb (zJ_D_tellsFalse_20    _ _ hF) rfl trivial
    · have hF := zf_p hc hF
      refine zi_iconst (v := (1 : Int32)) rfl rfl ?_
      refine zi_goto rfl ?_
      exact zk_sb (zJ_D_tellsFalse_21   _ _ _ hF) rfl trivial
/-! m_JM_max -/
def F_JM_max_11 (y0 : Int64) (s : zSt) : Option (Int64 × zSt) := some (y0, s)
def F_JM_max (p0 : Int64) (p2 : Int64) (s : zSt) : Option (Int64 × zSt) := (if (lg_cmp p0 p2) < 0 then F_JM_max_11    (p2) s else F_JM_max_11    (p0) s)
theorem zJ_JM_max_11 {X : zkX} (y0 : Int64) (s : zSt) (r) (hF : F_JM_max_11   y0 s = some r) : zk_W X 0 m_JM_max (11, [], [.long y0], zHp s) (fun o => o = zoL r) := by
  unfold F_JM_max_11 at hF
  cases hF
  exact zi_lreturn rfl rfl rfl
theorem zF_JM_max {X : zkX} {p0 : Int64} {p2 : Int64} {s : zSt} {r} (hF : F_JM_max p0 p2 s = some r) : zk_C X 1 m_JM_max [.long p0, .long p2] (zHp s) (fun o => o = zoL r) := by
  unfold F_JM_max at hF
  refine zk_enter (lv := [(0, .long p0), (2, .long p2)]) rfl rfl ?_
  refine zi_lload_n rfl rfl ?_
  refine zi_lload_n rfl rfl ?_
  refine zi_lcmp rfl ?_
  refine zi_iflt rfl (fun hc => ?_) (fun hc => ?_)
  · have hF := zf_p hc hF
    refine zi_lload_n rfl rfl ?_
    exact zk_sb (zJ_JM_max_11   _ _ _ hF) rfl trivial
  · have hF := zf_n hc hF
    refine zi_lload_n rfl rfl ?_
    refine zi_goto rfl ?_
    exact zk_sb (zJ_JM_max_11   _ _ _ hF) rfl trivial
/-! m_O_cut -/
def F_O_cut_93 (x1 : Int32) (x4 : Int64) (x6 : Int32) (x7 : Int32) (s : zSt) : Option (Int64 × zSt) := (zb (F_O_linkBehind (x1) (x7) (x6) s) (fun v3 s4 => some (x4, s4)))
def F_O_cut_79 (K16 : Int32 → Int64 → Int64 → Int32 → Int32 → Int32 → zSt → Option (Int64 × zSt)) (x1 : Int32) (x2 : Int64) (x4 : Int64) (x6 : Int32) (x7 : Int32) (x8 : Int32) (s : zSt) : Option (Int64 × zSt) := (zb (F_O_next (x6) s) (fun v9 s10 => K16 (x1) (x2) (x4) (v9) (x7) ((x8 + (1 : Int32))) s10))
def F_O_cut_65 (K16 : Int32 → Int64 → Int64 → Int32 → Int32 → Int32 → zSt → Option (Int64 × zSt)) (x1 : Int32) (x2 : Int64) (x6 : Int32) (x8 : Int32) (x9 : Int64) (s : zSt) : Option (Int64 × zSt) := (zb (F_JM_max (x2) ((x9 + (1 : Int64))) s) (fun v7 s8 => F_O_cut_79  K16  (x1) (x2) (v7) (x6) (x6) (x8) s8))
def F_O_cut_16  : Nat → Int32 → Int64 → Int64 → Int32 → Int32 → Int32 → zSt → Option (Int64 × zSt)
  | 0, _, _, _, _, _, _, _ => none
  | n + 1, x1, x2, x4, x6, x7, x8, s => (if (1024 : Int32) ≤ x8 then F_O_cut_93    (x1) (x4) (x6) (x7) s else (if x6 = 0 then F_O_cut_93    (x1) (x4) (x6) (x7) s else (zb (F_O_keyOf (x6) s) (fun v5 s6 => (if 0 ≤ (lg_cmp v5 (0 : Int64)) then (if (lg_cmp v5 x2) < 0 then F_O_cut_65  (F_O_cut_16  n)  (x1) (x2) (x6) (x8) (v5) s6 else (zb (F_O_isAny (x6) ((32 : Int32)) s6) (fun v11 s12 => (if v11 = 0 then F_O_cut_65  (F_O_cut_16  n)  (x1) (x2) (x6) (x8) (v5) s12 else F_O_cut_79  (F_O_cut_16  n)  (x1) (x2) (x4) (x6) (x7) (x8) s12)))) else F_O_cut_93    (x1) (x4) (x6) (x7) s6)))))
def F_O_cut (p1 : Int32) (p2 : Int64) (s : zSt) : Option (Int64 × zSt) := (zb (F_O_first (p1) s) (fun v1 s2 => F_O_cut_16   zFuel (p1) (p2) (p2) (v1) ((0 : Int32)) ((0 : Int32)) s2))
theorem zJ_O_cut_93 {X : zkX} (x1 : Int32) (x4 : Int64) (x6 : Int32) (x7 : Int32) (s : zSt) (r) (hF : F_O_cut_93   x1 x4 x6 x7 s = some r) : zk_W X 2 m_O_cut (93, [(0, .ref 2), (1, .int x1), (4, .long x4), (6, .int x6), (7, .int x7)], [], zHp s) (fun o => o = zoL r) := by
  unfold F_O_cut_93 at hF
  refine zi_aload_n rfl rfl ?_
  refine zi_iload_n rfl rfl ?_
  refine zi_iload rfl rfl ?_
  refine zi_iload rfl rfl ?_
  obtain ⟨v3, s4, hm, hF⟩ := zf_b hF
  refine zi_callV rfl rfl rfl (zh_O _) rfl (zk_C.to (zk_C.up (by decide) (zF_O_linkBehind hm)) (fun o ho => zk_K.okn ho ?_))
  refine zi_lload rfl rfl ?_
  cases hF
  exact zi_lreturn rfl rfl rfl
theorem zJ_O_cut_79 {X : zkX} (K16 : Int32 → Int64 → Int64 → Int32 → Int32 → Int32 → zSt → Option (Int64 × zSt)) (hK16 : ∀ (x1 : Int32) (x2 : Int64) (x4 : Int64) (x6 : Int32) (x7 : Int32) (x8 : Int32) (s : zSt) r, K16 x1 x2 x4 x6 x7 x8 s = some r → zk_W X 2 m_O_cut (16, [(0, .ref 2), (1, .int x1), (2, .long x2), (4, .long x4), (6, .int x6), (7, .int x7), (8, .int x8)], [], zHp s) (fun o => o = zoL r)) (x1 : Int32) (x2 : Int64) (x4 : Int64) (x6 : Int32) (x7 : Int32) (x8 : Int32) (s : zSt) (r) (hF : F_O_cut_79  K16 x1 x2 x4 x6 x7 x8 s = some r) : zk_W X 2 m_O_cut (79, [(0, .ref 2), (1, .int x1), (2, .long x2), (4, .long x4), (6, .int x6), (7, .int x7), (8, .int x8)], [], zHp s) (fun o => o = zoL r) := by
  unfold F_O_cut_79 at hF
  refine zi_aload_n rfl rfl ?_
  refine zi_iload rfl rfl ?_
  obtain ⟨v9, s10, hm, hF⟩ := zf_b hF
  refine zi_callV rfl rfl rfl (zh_O _) rfl (zk_C.to (zk_C.up (by decide) (zF_O_next hm)) (fun o ho => zk_K.okv ho ?_))
  refine zi_istore rfl rfl rfl ?_
  refine zi_iinc (y := (x8 + (1 : Int32))) rfl rfl rfl rfl rfl ?_
  refine zi_goto rfl ?_
  exact zk_sb (hK16 _ _ _ _ _ _ _ _ hF) rfl ⟨rfl, rfl, rfl, rfl, rfl, rfl, rfl, trivial⟩
theorem zJ_O_cut_65 {X : zkX} (K16 : Int32 → Int64 → Int64 → Int32 → Int32 → Int32 → zSt → Option (Int64 × zSt)) (hK16 : ∀ (x1 : Int32) (x2 : Int64) (x4 : Int64) (x6 : Int32) (x7 : Int32) (x8 : Int32) (s : zSt) r, K16 x1 x2 x4 x6 x7 x8 s = some r → zk_W X 2 m_O_cut (16, [(0, .ref 2), (1, .int x1), (2, .long x2), (4, .long x4), (6, .int x6), (7, .int x7), (8, .int x8)], [], zHp s) (fun o => o = zoL r)) (x1 : Int32) (x2 : Int64) (x6 : Int32) (x8 : Int32) (x9 : Int64) (s : zSt) (r) (hF : F_O_cut_65  K16 x1 x2 x6 x8 x9 s = some r) : zk_W X 2 m_O_cut (65, [(0, .ref 2), (1, .int x1), (2, .long x2), (6, .int x6), (8, .int x8), (9, .long x9)], [], zHp s) (fun o => o = zoL r) := by
  unfold F_O_cut_65 at hF
  refine zi_lload_n rfl rfl ?_
  refine zi_lload rfl rfl ?_
  refine zi_lconst (v := (1 : Int64)) rfl rfl ?_
  refine zi_ladd rfl ?_
  obtain ⟨v7, s8, hm, hF⟩ := zf_b hF
  refine zi_callS rfl rfl rfl rfl (zk_C.to (zk_C.up (by decide) (zF_JM_max hm)) (fun o ho => zk_K.okv ho ?_))
  refine zi_lstore rfl rfl rfl ?_
  refine zi_iload rfl rfl ?_
  refine zi_istore rfl rfl rfl ?_
  exact zk_sb (zJ_O_cut_79 K16 hK16  _ _ _ _ _ _ _ _ hF) rfl ⟨rfl, rfl, rfl, rfl, rfl, rfl, rfl, trivial⟩
theorem zJ_O_cut_16 {X : zkX} : ∀ (n : Nat) (x1 : Int32) (x2 : Int64) (x4 : Int64) (x6 : Int32) (x7 : Int32) (x8 : Int32) (s : zSt) (r), F_O_cut_16   n x1 x2 x4 x6 x7 x8 s = some r → zk_W X 2 m_O_cut (16, [(0, .ref 2), (1, .int x1), (2, .long x2), (4, .long x4), (6, .int x6), (7, .int x7), (8, .int x8)], [], zHp s) (fun o => o = zoL r) := by
  intro n
  induction n with
  | zero => intro x1 x2 x4 x6 x7 x8 s r hF; cases hF
  | succ n ih =>
    intro x1 x2 x4 x6 x7 x8 s r hF
    rw [F_O_cut_16] at hF
    refine zi_iload rfl rfl ?_
    refine zi_sipush (v := (1024 : Int32)) rfl rfl ?_
    refine zi_icge rfl (fun hc => ?_) (fun hc => ?_)
    · have hF := zf_p hc hF
      exact zk_sb (zJ_O_cut_93   _ _ _ _ _ _ hF) rfl ⟨rfl, rfl, rfl, rfl, rfl, trivial⟩
    · have hF := zf_n hc hF
      refine zi_iload rfl rfl ?_
      refine zi_ifeq rfl (fun hc => ?_) (fun hc => ?_)
      · have hF := zf_p hc hF
        exact zk_sb (zJ_O_cut_93   _ _ _ _ _ _ hF) rfl ⟨rfl, rfl, rfl, rfl, rfl, trivial⟩
      · have hF := zf_n hc hF
        refine zi_aload_n rfl rfl ?_
        refine zi_iload rfl rfl ?_
        obtain ⟨v5, s6, hm, hF⟩ := zf_b hF
        refine zi_callV rfl rfl rfl (zh_O _) rfl (zk_C.to (zk_C.up (by decide) (zF_O_keyOf hm)) (fun o ho => zk_K.okv ho ?_))
        refine zi_lstore rfl rfl rfl ?_
        refine zi_lload rfl rfl ?_
        refine zi_lconst (v := (0 : Int64)) rfl rfl ?_
        refine zi_lcmp rfl ?_
        refine zi_ifge rfl (fun hc => ?_) (fun hc => ?_)
        · have hF := zf_p hc hF
          refine zi_lload rfl rfl ?_
          refine zi_lload_n rfl rfl ?_
          refine zi_lcmp rfl ?_
          refine zi_iflt rfl (fun hc => ?_) (fun hc => ?_)
          · have hF := zf_p hc hF
            exact zk_sb (zJ_O_cut_65 (F_O_cut_16  n) ih  _ _ _ _ _ _ _ hF) rfl ⟨rfl, rfl, rfl, rfl, rfl, rfl, trivial⟩
          · have hF := zf_n hc hF
            refine zi_aload_n rfl rfl ?_
            refine zi_iload rfl rfl ?_
            refine zi_bipush (v := (32 : Int32)) rfl rfl ?_
            obtain ⟨v11, s12, hm, hF⟩ := zf_b hF
            refine zi_callV rfl rfl rfl (zh_O _) rfl (zk_C.to (zk_C.up (by decide) (zF_O_isAny hm)) (fun o ho => zk_K.okv ho ?_))
            refine zi_ifne rfl (fun hc => ?_) (fun hc => ?_)
            · have hF := zf_n hc hF
              exact zk_sb (zJ_O_cut_79 (F_O_cut_16  n) ih  _ _ _ _ _ _ _ _ hF) rfl ⟨rfl, rfl, rfl, rfl, rfl, rfl, rfl, trivial⟩
            · have hF := zf_p hc hF
              exact zk_sb (zJ_O_cut_65 (F_O_cut_16  n) ih  _ _ _ _ _ _ _ hF) rfl ⟨rfl, rfl, rfl, rfl, rfl, rfl, trivial⟩
        · have hF := zf_n hc hF
          refine zi_goto rfl ?_
          exact zk_sb (zJ_O_cut_93   _ _ _ _ _ _ hF) rfl ⟨rfl, rfl, rfl, rfl, rfl, trivial⟩
theorem zF_O_cut {X : zkX} {p1 : Int32} {p2 : Int64} {s : zSt} {r} (hF : F_O_cut p1 p2 s = some r) : zk_C X 3 m_O_cut [.ref 2, .int p1, .long p2] (zHp s) (fun o => o = zoL r) := by
  unfold F_O_cut at hF
  refine zk_enter (lv := [(0, .ref 2), (1, .int p1), (2, .long p2)]) rfl rfl ?_
  refine zi_lload_n rfl rfl ?_
  refine zi_lstore rfl rfl rfl ?_
  refine zi_aload_n rfl rfl ?_
  refine zi_iload_n rfl rfl ?_
  obtain ⟨v1, s2, hm, hF⟩ := zf_b hF
  refine zi_callV rfl rfl rfl (zh_O _) rfl (zk_C.to (zk_C.up (by decide) (zF_O_first hm)) (fun o ho => zk_K.okv ho ?_))
  refine zi_istore rfl rfl rfl ?_
  refine zi_iconst (v := (0 : Int32)) rfl rfl ?_
  refine zi_istore rfl rfl rfl ?_
  refine zi_iconst (v := (0 : Int32)) rfl rfl ?_
  refine zi_istore rfl rfl rfl ?_
  exact zk_sb (zJ_O_cut_16  zFuel _ _ _ _ _ _ _ _ hF) rfl ⟨rfl, rfl, rfl, rfl, rfl, rfl, rfl, trivial⟩
/-! m_O_defineLength -/
def F_O_defineLength_150 (y0 : Int32) (s : zSt) : Option (Int32 × zSt) := some (y0, s)
def F_O_defineLength_137 (x4 : Int64) (x7 : Int64) (s : zSt) : Option (Int32 × zSt) := (if (lg_cmp x7 x4) = 0 then F_O_defineLength_150    ((0 : Int32)) s else F_O_defineLength_150    ((2 : Int32)) s)
def F_O_defineLength_86 (x1 : Int32) (x2 : Int32) (x4 : Int64) (x6 : Int32) (s : zSt) : Option (Int32 × zSt) := (zb (F_O_change (x2) s) (fun v13 s14 => (if v13 = (2 : Int32) then some ((2 : Int32), s14) else (zb (F_O_cut (x1) (x4) s14) (fun v15 s16 => (zb (F_O_writeLength (x2) (v15) s16) (fun v17 s18 => (if x6 = 0 then F_O_defineLength_137    (x4) (v15) s18 else (zb (F_O_attributesOf (x2) s18) (fun v19 s20 => (zb (F_M_setWord (x2) ((5 : Int32)) (((v19 &&& (-3 : Int32))).toInt64) s20) (fun v21 s22 => F_O_defineLength_137    (x4) (v15) s22))))))))))))
def F_O_defineLength (p1 : Int32) (p2 : Int32) (s : zSt) : Option (Int32 × zSt) := (zb (F_N_asLength ((gI s 9)) ((gJ s 2)) s) (fun v1 s2 => (if (lg_cmp v1 (-1 : Int64)) = 0 then some ((3 : Int32), s2) else (zb (F_N_ofLength (v1) s2) (fun v3 s4 => (zb (F_D_tellValue ((4 : Int32)) (v3) ((0 : Int32)) s4) (fun v5 s6 => (zb (F_O_readLength (p2) s6) (fun v7 s8 => (if (lg_cmp v1 v7) < 0 then (zb (F_O_isAny (p2) ((2 : Int32)) s8) (fun v9 s10 => (if v9 = 0 then some ((2 : Int32), s10) else (zb (F_D_tellsFalse ((2 : Int32)) s10) (fun v11 s12 => (if v11 = 0 then F_O_defineLength_86    (p1) (p2) (v1) (v11) s12 else F_O_defineLength_86    (p1) (p2) (v1) (v11) (sI s12 8 ((gI s12 8) ||| (2 : Int32))))))))) else (zb (F_O_change (p2) s8) (fun v23 s24 => some (v23, s24)))))))))))))
theorem zJ_O_defineLength_150 {X : zkX} (y0 : Int32) (s : zSt) (r) (hF : F_O_defineLength_150   y0 s = some r) : zk_W X 5 m_O_defineLength (150, [], [.int y0], zHp s) (fun o => o = zoI r) := by
  unfold F_O_defineLength_150 at hF
  cases hF
  exact zi_ireturn rfl rfl rfl
theorem zJ_O_defineLength_137 {X : zkX} (x4 : Int64) (x7 : Int64) (s : zSt) (r) (hF : F_O_defineLength_137   x4 x7 s = some r) : zk_W X 5 m_O_defineLength (137, [(4, .long x4), (7, .long x7)], [], zHp s) (fun o => o = zoI r) := by
  unfold F_O_defineLength_137 at hF
  refine zi_lload rfl rfl ?_
  refine zi_lload rfl rfl ?_
  refine zi_lcmp rfl ?_
  refine zi_ifne rfl (fun hc => ?_) (fun hc => ?_)
  · have hF := zf_n hc hF
    refine zi_iconst (v := (2 : Int32)) rfl rfl ?_
    exact zk_sb (zJ_O_defineLength_150   _ _ _ hF) rfl trivial
  · have hF := zf_p hc hF
    refine zi_iconst (v := (0 : Int32)) rfl rfl ?_
    refine zi_goto rfl ?_
    exact zk_sb (zJ_O_defineLength_150   _ _ _ hF) rfl trivial
theorem zJ_O_defineLength_86 {X : zkX} (x1 : Int32) (x2 : Int32) (x4 : Int64) (x6 : Int32) (s : zSt) (r) (hF : F_O_defineLength_86   x1 x2 x4 x6 s = some r) : zk_W X 5 m_O_defineLength (86, [(0, .ref 2), (1, .int x1), (2, .int x2), (3, .ref 6), (4, .long x4), (6, .int x6)], [], zHp s) (fun o => o = zoI r) := by
  unfold F_O_defineLength_86 at hF
  refine zi_aload_n rfl rfl ?_
  refine zi_iload_n rfl rfl ?_
  refine zi_aload_n rfl rfl ?_
  obtain ⟨v13, s14, hm, hF⟩ := zf_b hF
  refine zi_callV rfl rfl rfl (zh_O _) rfl (zk_C.to (zk_C.up (by decide) (zF_O_change hm)) (fun o ho => zk_K.okv ho ?_))
  refine zi_iconst (v := (2 : Int32)) rfl rfl ?_
  refine zi_icne rfl (fun hc => ?_) (fun hc => ?_)
  · have hF := zf_n hc hF
    refine zi_aload_n rfl rfl ?_
    refine zi_iload_n rfl rfl ?_
    refine zi_lload rfl rfl ?_
    obtain ⟨v15, s16, hm, hF⟩ := zf_b hF
    refine zi_callV rfl rfl rfl (zh_O _) rfl (zk_C.to (zk_C.up (by decide) (zF_O_cut hm)) (fun o ho => zk_K.okv ho ?_))
    refine zi_lstore rfl rfl rfl ?_
    refine zi_aload_n rfl rfl ?_
    refine zi_iload_n rfl rfl ?_
    refine zi_lload rfl rfl ?_
    obtain ⟨v17, s18, hm, hF⟩ := zf_b hF
    refine zi_callV rfl rfl rfl (zh_O _) rfl (zk_C.to (zk_C.up (by decide) (zF_O_writeLength hm)) (fun o ho => zk_K.okn ho ?_))
    refine zi_iload rfl rfl ?_
    refine zi_ifeq rfl (fun hc => ?_) (fun hc => ?_)
    · have hF := zf_p hc hF
      exact zk_sb (zJ_O_defineLength_137   _ _ _ _ hF) rfl ⟨rfl, rfl, trivial⟩
    · have hF := zf_n hc hF
      refine zi_aload_n rfl rfl ?_
      refine zi_getfield rfl rfl (zh_O _) rfl ?_
      refine zi_iload_n rfl rfl ?_
      refine zi_iconst (v := (5 : Int32)) rfl rfl ?_
      refine zi_aload_n rfl rfl ?_
      refine zi_iload_n rfl rfl ?_
      obtain ⟨v19, s20, hm, hF⟩ := zf_b hF
      refine zi_callV rfl rfl rfl (zh_O _) rfl (zk_C.to (zk_C.up (by decide) (zF_O_attributesOf hm)) (fun o ho => zk_K.okv ho ?_))
      refine zi_bipush (v := (-3 : Int32)) rfl rfl ?_
      refine zi_iand rfl ?_
      refine zi_i2l rfl ?_
      obtain ⟨v21, s22, hm, hF⟩ := zf_b hF
      refine zi_callV rfl rfl rfl (zh_M _) rfl (zk_C.to (zk_C.up (by decide) (zF_M_setWord hm)) (fun o ho => zk_K.okn ho ?_))
      exact zk_sb (zJ_O_defineLength_137   _ _ _ _ hF) rfl ⟨rfl, rfl, trivial⟩
  · have hF := zf_p hc hF
    refine zi_iconst (v := (2 : Int32)) rfl rfl ?_
    cases hF
    exact zi_ireturn rfl rfl rfl
theorem zF_O_defineLength {X : zkX} {p1 : Int32} {p2 : Int32} {s : zSt} {r} (hF : F_O_defineLength p1 p2 s = some r) : zk_C X 6 m_O_defineLength [.ref 2, .int p1, .int p2, .ref 6] (zHp s) (fun o => o = zoI r) := by
  unfold F_O_defineLength at hF
  refine zk_enter (lv := [(0, .ref 2), (1, .int p1), (2, .int p2), (3, .ref 6)]) rfl rfl ?_
  refine zi_aload_n rfl rfl ?_
  refine zi_getfield rfl rfl (zh_D _) rfl ?_
  refine zi_aload_n rfl rfl ?_
  refine zi_getfield rfl rfl (zh_D _) rfl ?_
  obtain ⟨v1, s2, hm, hF⟩ := zf_b hF
  refine zi_callS rfl rfl rfl rfl (zk_C.to (zk_C.up (by decide) (zF_N_asLength hm)) (fun o ho => zk_K.okv ho ?_))
  refine zi_lstore rfl rfl rfl ?_
  refine zi_lload rfl rfl ?_
  refine zi_ldc2_w (v := (-1 : Int64)) rfl rfl ?_
  refine zi_lcmp rfl ?_
  refine zi_ifne rfl (fun hc => ?_) (fun hc => ?_)
  · have hF := zf_n hc hF
    refine zi_aload_n rfl rfl ?_
    refine zi_iconst (v := (4 : Int32)) rfl rfl ?_
    refine zi_lload rfl rfl ?_
    obtain ⟨v3, s4, hm, hF⟩ := zf_b hF
    refine zi_callS rfl rfl rfl rfl (zk_C.to (zk_C.up (by decide) (zF_N_ofLength hm)) (fun o ho => zk_K.okv ho ?_))
    refine zi_iconst (v := (0 : Int32)) rfl rfl ?_
    obtain ⟨v5, s6, hm, hF⟩ := zf_b hF
    refine zi_callV rfl rfl rfl (zh_D _) rfl (zk_C.to (zk_C.up (by decide) (zF_D_tellValue hm)) (fun o ho => zk_K.okn ho ?_))
    refine zi_lload rfl rfl ?_
    refine zi_aload_n rfl rfl ?_
    refine zi_iload_n rfl rfl ?_
    obtain ⟨v7, s8, hm, hF⟩ := zf_b hF
    refine zi_callV rfl rfl rfl (zh_O _) rfl (zk_C.to (zk_C.up (by decide) (zF_O_readLength hm)) (fun o ho => zk_K.okv ho ?_))
    refine zi_lcmp rfl ?_
    refine zi_iflt rfl (fun hc => ?_) (fun hc => ?_)
    · have hF := zf_p hc hF
      refine zi_aload_n rfl rfl ?_
      refine zi_iload_n rfl rfl ?_
      refine zi_iconst (v := (2 : Int32)) rfl rfl ?_
      obtain ⟨v9, s10, hm, hF⟩ := zf_b hF
      refine zi_callV rfl rfl rfl (zh_O _) rfl (zk_C.to (zk_C.up (by decide) (zF_O_isAny hm)) (fun o ho => zk_K.okv ho ?_))
      refine zi_ifne rfl (fun hc => ?_) (fun hc => ?_)
      · have hF := zf_n hc hF
        refine zi_aload_n rfl rfl ?_
        refine zi_iconst (v := (2 : Int32)) rfl rfl ?_
        obtain ⟨v11, s12, hm, hF⟩ := zf_b hF
        refine zi_callV rfl rfl rfl (zh_D _) rfl (zk_C.to (zk_C.up (by decide) (zF_D_tellsFalse hm)) (fun o ho => zk_K.okv ho ?_))
        refine zi_istore rfl rfl rfl ?_
        refine zi_iload rfl rfl ?_
        refine zi_ifeq rfl (fun hc => ?_) (fun hc => ?_)
        · have hF := zf_p hc hF
          exact zk_sb (zJ_O_defineLength_86   _ _ _ _ _ _ hF) rfl ⟨rfl, rfl, rfl, rfl, rfl, rfl, trivial⟩
        · have hF := zf_n hc hF
          refine zi_aload_n rfl rfl ?_
          refine zi_dupa rfl ?_
          refine zi_getfield rfl rfl (zh_D _) rfl ?_
          refine zi_iconst (v := (2 : Int32)) rfl rfl ?_
          refine zi_ior rfl ?_
          refine zi_putfield rfl rfl (zh_D _) rfl rfl (zs_I8 _ _) ?_
          exact zk_sb (zJ_O_defineLength_86   _ _ _ _ _ _ hF) rfl ⟨rfl, rfl, rfl, rfl, rfl, rfl, trivial⟩
      · have hF := zf_p hc hF
        refine zi_iconst (v := (2 : Int32)) rfl rfl ?_
        cases hF
        exact zi_ireturn rfl rfl rfl
    · have hF := zf_n hc hF
      refine zi_aload_n rfl rfl ?_
      refine zi_iload_n rfl rfl ?_
      refine zi_aload_n rfl rfl ?_
      obtain ⟨v23, s24, hm, hF⟩ := zf_b hF
      refine zi_callV rfl rfl rfl (zh_O _) rfl (zk_C.to (zk_C.up (by decide) (zF_O_change hm)) (fun o ho => zk_K.okv ho ?_))
      cases hF
      exact zi_ireturn rfl rfl rfl
  · have hF := zf_p hc hF
    refine zi_iconst (v := (3 : Int32)) rfl rfl ?_
    cases hF
    exact zi_ireturn rfl rfl rfl
/-! m_O_defineProperty -/
def F_O_defineProperty_109 (x6 : Int32) (s : zSt) : Option (Int32 × zSt) := some (x6, s)
def F_O_defineProperty_53 (x1 : Int32) (x2 : Int64) (x5 : Int32) (s : zSt) : Option (Int32 × zSt) := (zb (F_O_readLength (x5) s) (fun v3 s4 => (if 0 ≤ (lg_cmp x2 v3) then (zb (F_O_isAny (x5) ((2 : Int32)) s4) (fun v5 s6 => (if v5 = 0 then some ((2 : Int32), s6) else (zb (F_O_definePlainly (x1) (x2) s6) (fun v7 s8 => (if v7 = 0 then (zb (F_O_writeLength (x5) ((x2 + (1 : Int64))) s8) (fun v9 s10 => F_O_defineProperty_109    (v7) s10)) else F_O_defineProperty_109    (v7) s8)))))) else (zb (F_O_definePlainly (x1) (x2) s4) (fun v11 s12 => some (v11, s12))))))
def F_O_defineProperty (p1 : Int32) (p2 : Int64) (s : zSt) : Option (Int32 × zSt) := (zb (F_M_word (p1) ((3 : Int32)) s) (fun v1 s2 => (if (v1).toInt32 = 0 then (zb (F_O_definePlainly (p1) (p2) s2) (fun v17 s18 => some (v17, s18))) else (if (lg_cmp p2 (-1 : Int64)) = 0 then (zb (F_D_tells ((1 : Int32)) s2) (fun v13 s14 => (if v13 = 0 then F_O_defineProperty_53    (p1) (p2) ((v1).toInt32) s14 else (zb (F_O_defineLength (p1) ((v1).toInt32) s14) (fun v15 s16 => some (v15, s16)))))) else F_O_defineProperty_53    (p1) (p2) ((v1).toInt32) s2))))
theorem zJ_O_defineProperty_109 {X : zkX} (x6 : Int32) (s : zSt) (r) (hF : F_O_defineProperty_109   x6 s = some r) : zk_W X 6 m_O_defineProperty (109, [(6, .int x6)], [], zHp s) (fun o => o = zoI r) := by
  unfold F_O_defineProperty_109 at hF
  refine zi_iload rfl rfl ?_
  cases hF
  exact zi_ireturn rfl rfl rfl
theorem zJ_O_defineProperty_53 {X : zkX} (x1 : Int32) (x2 : Int64) (x5 : Int32) (s : zSt) (r) (hF : F_O_defineProperty_53   x1 x2 x5 s = some r) : zk_W X 6 m_O_defineProperty (53, [(0, .ref 2), (1, .int x1), (2, .long x2), (4, .ref 6), (5, .int x5)], [], zHp s) (fun o => o = zoI r) := by
  unfold F_O_defineProperty_53 at hF
  refine zi_lload_n rfl rfl ?_
  refine zi_aload_n rfl rfl ?_
  refine zi_iload rfl rfl ?_
  obtain ⟨v3, s4, hm, hF⟩ := zf_b hF
  refine zi_callV rfl rfl rfl (zh_O _) rfl (zk_C.to (zk_C.up (by decide) (zF_O_readLength hm)) (fun o ho => zk_K.okv ho ?_))
  refine zi_lcmp rfl ?_
  refine zi_ifge rfl (fun hc => ?_) (fun hc => ?_)
  · have hF := zf_p hc hF
    refine zi_aload_n rfl rfl ?_
    refine zi_iload rfl rfl ?_
    refine zi_iconst (v := (2 : Int32)) rfl rfl ?_
    obtain ⟨v5, s6, hm, hF⟩ := zf_b hF
    refine zi_callV rfl rfl rfl (zh_O _) rfl (zk_C.to (zk_C.up (by decide) (zF_O_isAny hm)) (fun o ho => zk_K.okv ho ?_))
    refine zi_ifne rfl (fun hc => ?_) (fun hc => ?_)
    · have hF := zf_n hc hF
      refine zi_aload_n rfl rfl ?_
      refine zi_iload_n rfl rfl ?_
      refine zi_lload_n rfl rfl ?_
      refine zi_aload rfl rfl ?_
      obtain ⟨v7, s8, hm, hF⟩ := zf_b hF
      refine zi_callV rfl rfl rfl (zh_O _) rfl (zk_C.to (zk_C.up (by decide) (zF_O_definePlainly hm)) (fun o ho => zk_K.okv ho ?_))
      refine zi_istore rfl rfl rfl ?_
      refine zi_iload rfl rfl ?_
      refine zi_ifne rfl (fun hc => ?_) (fun hc => ?_)
      · have hF := zf_n hc hF
        exact zk_sb (zJ_O_defineProperty_109   _ _ _ hF) rfl ⟨rfl, trivial⟩
      · have hF := zf_p hc hF
        refine zi_aload_n rfl rfl ?_
        refine zi_iload rfl rfl ?_
        refine zi_lload_n rfl rfl ?_
        refine zi_lconst (v := (1 : Int64)) rfl rfl ?_
        refine zi_ladd rfl ?_
        obtain ⟨v9, s10, hm, hF⟩ := zf_b hF
        refine zi_callV rfl rfl rfl (zh_O _) rfl (zk_C.to (zk_C.up (by decide) (zF_O_writeLength hm)) (fun o ho => zk_K.okn ho ?_))
        exact zk_sb (zJ_O_defineProperty_109   _ _ _ hF) rfl ⟨rfl, trivial⟩
    · have hF := zf_p hc hF
      refine zi_iconst (v := (2 : Int32)) rfl rfl ?_
      cases hF
      exact zi_ireturn rfl rfl rfl
  · have hF := zf_n hc hF
    refine zi_aload_n rfl rfl ?_
    refine zi_iload_n rfl rfl ?_
    refine zi_lload_n rfl rfl ?_
    refine zi_aload rfl rfl ?_
    obtain ⟨v11, s12, hm, hF⟩ := zf_b hF
    refine zi_callV rfl rfl rfl (zh_O _) rfl (zk_C.to (zk_C.up (by decide) (zF_O_definePlainly hm)) (fun o ho => zk_K.okv ho ?_))
    cases hF
    exact zi_ireturn rfl rfl rfl
theorem zF_O_defineProperty {X : zkX} {p1 : Int32} {p2 : Int64} {s : zSt} {r} (hF : F_O_defineProperty p1 p2 s = some r) : zk_C X 7 m_O_defineProperty [.ref 2, .int p1, .long p2, .ref 6] (zHp s) (fun o => o = zoI r) := by
  unfold F_O_defineProperty at hF
  refine zk_enter (lv := [(0, .ref 2), (1, .int p1), (2, .long p2), (4, .ref 6)]) rfl rfl ?_
  refine zi_aload_n rfl rfl ?_
  refine zi_getfield rfl rfl (zh_O _) rfl ?_
  refine zi_iload_n rfl rfl ?_
  refine zi_iconst (v := (3 : Int32)) rfl rfl ?_
  obtain ⟨v1, s2, hm, hF⟩ := zf_b hF
  refine zi_callV rfl rfl rfl (zh_M _) rfl (zk_C.to (zk_C.up (by decide) (zF_M_word hm)) (fun o ho => zk_K.okv ho ?_))
  refine zi_l2i rfl ?_
  refine zi_istore rfl rfl rfl ?_
  refine zi_iload rfl rfl ?_
  refine zi_ifne rfl (fun hc => ?_) (fun hc => ?_)
  · have hF := zf_n hc hF
    refine zi_lload_n rfl rfl ?_
    refine zi_ldc2_w (v := (-1 : Int64)) rfl rfl ?_
    refine zi_lcmp rfl ?_
    refine zi_ifne rfl (fun hc => ?_) (fun hc => ?_)
    · have hF := zf_n hc hF
      exact zk_sb (zJ_O_defineProperty_53   _ _ _ _ _ hF) rfl ⟨rfl, rfl, rfl, rfl, rfl, trivial⟩
    · have hF := zf_p hc hF
      refine zi_aload rfl rfl ?_
      refine zi_iconst (v := (1 : Int32)) rfl rfl ?_
      obtain ⟨v13, s14, hm, hF⟩ := zf_b hF
      refine zi_callV rfl rfl rfl (zh_D _) rfl (zk_C.to (zk_C.up (by decide) (zF_D_tells hm)) (fun o ho => zk_K.okv ho ?_))
      refine zi_ifeq rfl (fun hc => ?_) (fun hc => ?_)
      · have hF := zf_p hc hF
        exact zk_sb (zJ_O_defineProperty_53   _ _ _ _ _ hF) rfl ⟨rfl, rfl, rfl, rfl, rfl, trivial⟩
      · have hF := zf_n hc hF
        refine zi_aload_n rfl rfl ?_
        refine zi_iload_n rfl rfl ?_
        refine zi_iload rfl rfl ?_
        refine zi_aload rfl rfl ?_
        obtain ⟨v15, s16, hm, hF⟩ := zf_b hF
        refine zi_callV rfl rfl rfl (zh_O _) rfl (zk_C.to (zk_C.up (by decide) (zF_O_defineLength hm)) (fun o ho => zk_K.okv ho ?_))
        cases hF
        exact zi_ireturn rfl rfl rfl
  · have hF := zf_p hc hF
    refine zi_aload_n rfl rfl ?_
    refine zi_iload_n rfl rfl ?_
    refine zi_lload_n rfl rfl ?_
    refine zi_aload rfl rfl ?_
    obtain ⟨v17, s18, hm, hF⟩ := zf_b hF
    refine zi_callV rfl rfl rfl (zh_O _) rfl (zk_C.to (zk_C.up (by decide) (zF_O_definePlainly hm)) (fun o ho => zk_K.okv ho ?_))
    cases hF
    exact zi_ireturn rfl rfl rfl
/-! m_X_put -/
def F_X_put_189 (x8 : Int32) (s : zSt) : Option ((Int32 ⊕ Nat) × zSt) := (zb (F_X_giveObject ((0 : Int32)) s) (fun v10 s11 => some (.inl x8, s11)))
def F_X_put_144 (x2 : Int64) (x4 : Int32) (y0 : Int32) (s : zSt) : Option ((Int32 ⊕ Nat) × zSt) := (zb (F_D_tell (y0) ((50 : Int32)) s) (fun v12 s13 => (zb (F_M_kept ((24 : Int32)) s13) (fun v14 s15 => (zb (F_D_tellValue ((gI s13 0)) ((gJ s13 0)) (v14) s15) (fun v16 s17 => (zb (F_O_defineProperty (x4) (x2) s17) (fun v18 s19 => F_X_put_189    (v18) s19))))))))
def F_X_put_129 (x2 : Int64) (x4 : Int32) (x6 : Int32) (s : zSt) : Option ((Int32 ⊕ Nat) × zSt) := (if x6 = 0 then F_X_put_144    (x2) (x4) ((51 : Int32)) s else F_X_put_144    (x2) (x4) ((1 : Int32)) s)
def F_X_put_102 (x2 : Int64) (x4 : Int32) (x6 : Int32) (y0 : Int32) (s : zSt) : Option ((Int32 ⊕ Nat) × zSt) := (if y0 = 0 then F_X_put_189    ((2 : Int32)) s else (if x6 = 0 then (zb (F_O_isExtensible (x4) s) (fun v20 s21 => (if v20 = 0 then F_X_put_189    ((2 : Int32)) s21 else F_X_put_129    (x2) (x4) (x6) s21))) else F_X_put_129    (x2) (x4) (x6) s))
def F_X_put_97 (x2 : Int64) (x4 : Int32) (x6 : Int32) (s : zSt) : Option ((Int32 ⊕ Nat) × zSt) := F_X_put_102    (x2) (x4) (x6) ((1 : Int32)) s
def F_X_put_77 (x2 : Int64) (x4 : Int32) (x5 : Int32) (y0 : Int32) (s : zSt) : Option ((Int32 ⊕ Nat) × zSt) := (if x5 = 0 then F_X_put_97    (x2) (x4) (y0) s else (zb (F_O_isAny (x5) ((2 : Int32)) s) (fun v22 s23 => (if v22 = 0 then F_X_put_102    (x2) (x4) (y0) ((0 : Int32)) s23 else F_X_put_97    (x2) (x4) (y0) s23))))
def F_X_put_58 (y0 : Int32) (s : zSt) : Option ((Int32 ⊕ Nat) × zSt) := some (.inl y0, s)
def F_X_put (p1 : Int32) (p2 : Int64) (s : zSt) : Option ((Int32 ⊕ Nat) × zSt) := (zt (F_X_heldWithKey (p1) (p2) s) (fun v1 s2 => (zb (F_O_find (v1) (p2) s2) (fun v4 s5 => (zb (F_O_isAccessor (v4) s5) (fun v6 s7 => (if v6 = 0 then (zb (F_O_findOwn (v1) (p2) s7) (fun v8 s9 => (if v8 = 0 then F_X_put_77    (p2) (v1) (v4) ((0 : Int32)) s9 else F_X_put_77    (p2) (v1) (v4) ((1 : Int32)) s9))) else (zb (F_O_setterOf (v4) s7) (fun v24 s25 => (zb (F_X_giveObject (v24) s25) (fun v26 s27 => (if (gI s27 1) = (5 : Int32) then F_X_put_58    ((1 : Int32)) s27 else F_X_put_58    ((2 : Int32)) s27))))))))))))
theorem zJ_X_put_189 {X : zkX} (x8 : Int32) (s : zSt) (r) (hF : F_X_put_189   x8 s = some r) : zk_W X 9 m_X_put (189, [(0, .ref 1), (8, .int x8)], [], zHp s) (fun o => o = ztI r) := by
  unfold F_X_put_189 at hF
  refine zi_aload_n rfl rfl ?_
  refine zi_iconst (v := (0 : Int32)) rfl rfl ?_
  obtain ⟨v10, s11, hm, hF⟩ := zf_b hF
  refine zi_callV rfl rfl rfl (zh_X _) rfl (zk_C.to (zk_C.up (by decide) (zF_X_giveObject hm)) (fun o ho => zk_K.okn ho ?_))
  refine zi_iload rfl rfl ?_
  cases hF
  exact zi_ireturn rfl rfl rfl
theorem zJ_X_put_144 {X : zkX} (x2 : Int64) (x4 : Int32) (y0 : Int32) (s : zSt) (r) (hF : F_X_put_144   x2 x4 y0 s = some r) : zk_W X 9 m_X_put (144, [(0, .ref 1), (2, .long x2), (4, .int x4)], [.int y0, .ref 6], zHp s) (fun o => o = ztI r) := by
  unfold F_X_put_144 at hF
  refine zi_bipush (v := (50 : Int32)) rfl rfl ?_
  obtain ⟨v12, s13, hm, hF⟩ := zf_b hF
  refine zi_callV rfl rfl rfl (zh_D _) rfl (zk_C.to (zk_C.up (by decide) (zF_D_tell hm)) (fun o ho => zk_K.okn ho ?_))
  refine zi_aload_n rfl rfl ?_
  refine zi_getfield rfl rfl (zh_X _) rfl ?_
  refine zi_aload_n rfl rfl ?_
  refine zi_getfield rfl rfl (zh_X _) rfl ?_
  refine zi_aload_n rfl rfl ?_
  refine zi_getfield rfl rfl (zh_X _) rfl ?_
  refine zi_aload_n rfl rfl ?_
  refine zi_getfield rfl rfl (zh_X _) rfl ?_
  refine zi_bipush (v := (24 : Int32)) rfl rfl ?_
  obtain ⟨v14, s15, hm, hF⟩ := zf_b hF
  refine zi_callV rfl rfl rfl (zh_M _) rfl (zk_C.to (zk_C.up (by decide) (zF_M_kept hm)) (fun o ho => zk_K.okv ho ?_))
  obtain ⟨v16, s17, hm, hF⟩ := zf_b hF
  refine zi_callV rfl rfl rfl (zh_D _) rfl (zk_C.to (zk_C.up (by decide) (zF_D_tellValue hm)) (fun o ho => zk_K.okn ho ?_))
  refine zi_aload_n rfl rfl ?_
  refine zi_getfield rfl rfl (zh_X _) rfl ?_
  refine zi_iload rfl rfl ?_
  refine zi_lload_n rfl rfl ?_
  refine zi_aload_n rfl rfl ?_
  refine zi_getfield rfl rfl (zh_X _) rfl ?_
  obtain ⟨v18, s19, hm, hF⟩ := zf_b hF
  refine zi_callV rfl rfl rfl (zh_O _) rfl (zk_C.to (zk_C.up (by decide) (zF_O_defineProperty hm)) (fun o ho => zk_K.okv ho ?_))
  refine zi_istore rfl rfl rfl ?_
  exact zk_sb (zJ_X_put_189   _ _ _ hF) rfl ⟨rfl, rfl, trivial⟩
theorem zJ_X_put_129 {X : zkX} (x2 : Int64) (x4 : Int32) (x6 : Int32) (s : zSt) (r) (hF : F_X_put_129   x2 x4 x6 s = some r) : zk_W X 9 m_X_put (129, [(0, .ref 1), (2, .long x2), (4, .int x4), (6, .int x6)], [], zHp s) (fun o => o = ztI r) := by
  unfold F_X_put_129 at hF
  refine zi_aload_n rfl rfl ?_
  refine zi_getfield rfl rfl (zh_X _) rfl ?_
  refine zi_iload rfl rfl ?_
  refine zi_ifeq rfl (fun hc => ?_) (fun hc => ?_)
  · have hF := zf_p hc hF
    refine zi_bipush (v := (51 : Int32)) rfl rfl ?_
    exact zk_sb (zJ_X_put_144   _ _ _ _ _ hF) rfl ⟨rfl, rfl, rfl, trivial⟩
  · have hF := zf_n hc hF
    refine zi_iconst (v := (1 : Int32)) rfl rfl ?_
    refine zi_goto rfl ?_
    exact zk_sb (zJ_X_put_144   _ _ _ _ _ hF) rfl ⟨rfl, rfl, rfl, trivial⟩
theorem zJ_X_put_102 {X : zkX} (x2 : Int64) (x4 : Int32) (x6 : Int32) (y0 : Int32) (s : zSt) (r) (hF : F_X_put_102   x2 x4 x6 y0 s = some r) : zk_W X 9 m_X_put (102, [(0, .ref 1), (2, .long x2), (4, .int x4), (6, .int x6)], [.int y0], zHp s) (fun o => o = ztI r) := by
  unfold F_X_put_102 at hF
  refine zi_istore rfl rfl rfl ?_
  refine zi_iconst (v := (2 : Int32)) rfl rfl ?_
  refine zi_istore rfl rfl rfl ?_
  refine zi_iload rfl rfl ?_
  refine zi_ifeq rfl (fun hc => ?_) (fun hc => ?_)
  · have hF := zf_p hc hF
    exact zk_sb (zJ_X_put_189   _ _ _ hF) rfl ⟨rfl, rfl, trivial⟩
  · have hF := zf_n hc hF
    refine zi_iload rfl rfl ?_
    refine zi_ifne rfl (fun hc => ?_) (fun hc => ?_)
    · have hF := zf_n hc hF
      exact zk_sb (zJ_X_put_129   _ _ _ _ _ hF) rfl ⟨rfl, rfl, rfl, rfl, trivial⟩
    · have hF := zf_p hc hF
      refine zi_aload_n rfl rfl ?_
      refine zi_getfield rfl rfl (zh_X _) rfl ?_
      refine zi_iload rfl rfl ?_
      obtain ⟨v20, s21, hm, hF⟩ := zf_b hF
      refine zi_callV rfl rfl rfl (zh_O _) rfl (zk_C.to (zk_C.up (by decide) (zF_O_isExtensible hm)) (fun o ho => zk_K.okv ho ?_))
      refine zi_ifeq rfl (fun hc => ?_) (fun hc => ?_)
      · have hF := zf_p hc hF
        exact zk_sb (zJ_X_put_189   _ _ _ hF) rfl ⟨rfl, rfl, trivial⟩
      · have hF := zf_n hc hF
        exact zk_sb (zJ_X_put_129   _ _ _ _ _ hF) rfl ⟨rfl, rfl, rfl, rfl, trivial⟩
theorem zJ_X_put_97 {X : zkX} (x2 : Int64) (x4 : Int32) (x6 : Int32) (s : zSt) (r) (hF : F_X_put_97   x2 x4 x6 s = some r) : zk_W X 9 m_X_put (97, [(0, .ref 1), (2, .long x2), (4, .int x4), (6, .int x6)], [], zHp s) (fun o => o = ztI r) := by
  unfold F_X_put_97 at hF
  refine zi_iconst (v := (1 : Int32)) rfl rfl ?_
  refine zi_goto rfl ?_
  exact zk_sb (zJ_X_put_102   _ _ _ _ _ _ hF) rfl ⟨rfl, rfl, rfl, rfl, trivial⟩
theorem zJ_X_put_77 {X : zkX} (x2 : Int64) (x4 : Int32) (x5 : Int32) (y0 : Int32) (s : zSt) (r) (hF : F_X_put_77   x2 x4 x5 y0 s = some r) : zk_W X 9 m_X_put (77, [(0, .ref 1), (2, .long x2), (4, .int x4), (5, .int x5)], [.int y0], zHp s) (fun o => o = ztI r) := by
  unfold F_X_put_77 at hF
  refine zi_istore rfl rfl rfl ?_
  refine zi_iload rfl rfl ?_
  refine zi_ifeq rfl (fun hc => ?_) (fun hc => ?_)
  · have hF := zf_p hc hF
    exact zk_sb (zJ_X_put_97   _ _ _ _ _ hF) rfl ⟨rfl, rfl, rfl, rfl, trivial⟩
  · have hF := zf_n hc hF
    refine zi_aload_n rfl rfl ?_
    refine zi_getfield rfl rfl (zh_X _) rfl ?_
    refine zi_iload rfl rfl ?_
    refine zi_iconst (v := (2 : Int32)) rfl rfl ?_
    obtain ⟨v22, s23, hm, hF⟩ := zf_b hF
    refine zi_callV rfl rfl rfl (zh_O _) rfl (zk_C.to (zk_C.up (by decide) (zF_O_isAny hm)) (fun o ho => zk_K.okv ho ?_))
    refine zi_ifeq rfl (fun hc => ?_) (fun hc => ?_)
    · have hF := zf_p hc hF
      refine zi_iconst (v := (0 : Int32)) rfl rfl ?_
      exact zk_sb (zJ_X_put_102   _ _ _ _ _ _ hF) rfl ⟨rfl, rfl, rfl, rfl, trivial⟩
    · have hF := zf_n hc hF
      exact zk_sb (zJ_X_put_97   _ _ _ _ _ hF) rfl ⟨rfl, rfl, rfl, rfl, trivial⟩
theorem zJ_X_put_58 {X : zkX} (y0 : Int32) (s : zSt) (r) (hF : F_X_put_58   y0 s = some r) : zk_W X 9 m_X_put (58, [], [.int y0], zHp s) (fun o => o = ztI r) := by
  unfold F_X_put_58 at hF
  cases hF
  exact zi_ireturn rfl rfl rfl
theorem zF_X_put {X : zkX} {p1 : Int32} {p2 : Int64} {s : zSt} {r} (hF : F_X_put p1 p2 s = some r) : zk_C X 10 m_X_put [.ref 1, .int p1, .long p2] (zHp s) (fun o => o = ztI r) := by
  unfold F_X_put at hF
  refine zk_enter (lv := [(0, .ref 1), (1, .int p1), (2, .long p2)]) rfl rfl ?_
  refine zi_aload_n rfl rfl ?_
  refine zi_iload_n rfl rfl ?_
  refine zi_lload_n rfl rfl ?_
  rcases zf_t hF with ⟨v1, s2, hm, hF⟩ | ⟨x3, s2, hm, hF⟩
  rotate_left
  · subst hF
    exact zi_callV rfl rfl rfl (zh_X _) rfl (zk_C.to (zk_C.up (by decide) (zF_X_heldWithKey hm)) (fun o ho => zk_K.thr (x := x3) (h2 := zHp s2) ho rfl rfl))
  refine zi_callV rfl rfl rfl (zh_X _) rfl (zk_C.to (zk_C.up (by decide) (zF_X_heldWithKey hm)) (fun o ho => zk_K.okv ho ?_))
  refine zi_istore rfl rfl rfl ?_
  refine zi_aload_n rfl rfl ?_
  refine zi_getfield rfl rfl (zh_X _) rfl ?_
  refine zi_iload rfl rfl ?_
  refine zi_lload_n rfl rfl ?_
  obtain ⟨v4, s5, hm, hF⟩ := zf_b hF
  refine zi_callV rfl rfl rfl (zh_O _) rfl (zk_C.to (zk_C.up (by decide) (zF_O_find hm)) (fun o ho => zk_K.okv ho ?_))
  refine zi_istore rfl rfl rfl ?_
  refine zi_aload_n rfl rfl ?_
  refine zi_getfield rfl rfl (zh_X _) rfl ?_
  refine zi_iload rfl rfl ?_
  obtain ⟨v6, s7, hm, hF⟩ := zf_b hF
  refine zi_callV rfl rfl rfl (zh_O _) rfl (zk_C.to (zk_C.up (by decide) (zF_O_isAccessor hm)) (fun o ho => zk_K.okv ho ?_))
  refine zi_ifeq rfl (fun hc => ?_) (fun hc => ?_)
  · have hF := zf_p hc hF
    refine zi_aload_n rfl rfl ?_
    refine zi_getfield rfl rfl (zh_X _) rfl ?_
    refine zi_iload rfl rfl ?_
    refine zi_lload_n rfl rfl ?_
    obtain ⟨v8, s9, hm, hF⟩ := zf_b hF
    refine zi_callV rfl rfl rfl (zh_O _) rfl (zk_C.to (zk_C.up (by decide) (zF_O_findOwn hm)) (fun o ho => zk_K.okv ho ?_))
    refine zi_ifeq rfl (fun hc => ?_) (fun hc => ?_)
    · have hF := zf_p hc hF
      refine zi_iconst (v := (0 : Int32)) rfl rfl ?_
      exact zk_sb (zJ_X_put_77   _ _ _ _ _ _ hF) rfl ⟨rfl, rfl, rfl, rfl, trivial⟩
    · have hF := zf_n hc hF
      refine zi_iconst (v := (1 : Int32)) rfl rfl ?_
      refine zi_goto rfl ?_
      exact zk_sb (zJ_X_put_77   _ _ _ _ _ _ hF) rfl ⟨rfl, rfl, rfl, rfl, trivial⟩
  · have hF := zf_n hc hF
    refine zi_aload_n rfl rfl ?_
    refine zi_aload_n rfl rfl ?_
    refine zi_getfield rfl rfl (zh_X _) rfl ?_
    refine zi_iload rfl rfl ?_
    obtain ⟨v24, s25, hm, hF⟩ := zf_b hF
    refine zi_callV rfl rfl rfl (zh_O _) rfl (zk_C.to (zk_C.up (by decide) (zF_O_setterOf hm)) (fun o ho => zk_K.okv ho ?_))
    obtain ⟨v26, s27, hm, hF⟩ := zf_b hF
    refine zi_callV rfl rfl rfl (zh_X _) rfl (zk_C.to (zk_C.up (by decide) (zF_X_giveObject hm)) (fun o ho => zk_K.okn ho ?_))
    refine zi_aload_n rfl rfl ?_
    refine zi_getfield rfl rfl (zh_X _) rfl ?_
    refine zi_iconst (v := (5 : Int32)) rfl rfl ?_
    refine zi_icne rfl (fun hc => ?_) (fun hc => ?_)
    · have hF := zf_n hc hF
      refine zi_iconst (v := (2 : Int32)) rfl rfl ?_
      exact zk_sb (zJ_X_put_58   _ _ _ hF) rfl trivial
    · have hF := zf_p hc hF
      refine zi_iconst (v := (1 : Int32)) rfl rfl ?_
      refine zi_goto rfl ?_
      exact zk_sb (zJ_X_put_58   _ _ _ hF) rfl trivial
/-! m_L_put -/
def F_L_put (p1 : Int32) (p2 : Int64) (s : zSt) : Option (Int32 × zSt) := (zc (F_X_put (p1) (p2) s) (fun v1 s2 => (if zin (0 : Int32) 1 then some ((0 : Int32), (sB s2 3 (vp_updL (gB s2 3) ((0 : Int32)).toNatClampNeg (v1).toInt64))) else none)) (fun x3 s2 => (if x3 = 0 then some ((1 : Int32), s2) else none)))
theorem zF_L_put {X : zkX} {p1 : Int32} {p2 : Int64} {s : zSt} {r} (hF : F_L_put p1 p2 s = some r) : zk_C X 11 m_L_put [.ref 1, .int p1, .long p2, .ref 20] (zHp s) (fun o => o = zoI r) := by
  unfold F_L_put at hF
  refine zk_enter (lv := [(0, .ref 1), (1, .int p1), (2, .long p2), (4, .ref 20)]) rfl rfl ?_
  refine zi_aload rfl rfl ?_
  refine zi_iconst (v := (0 : Int32)) rfl rfl ?_
  refine zi_aload_n rfl rfl ?_
  refine zi_iload_n rfl rfl ?_
  refine zi_lload_n rfl rfl ?_
  rcases zf_c hF with ⟨v1, s2, hm, hF⟩ | ⟨x3, s2, hm, hF⟩
  rotate_left
  · refine zi_callV rfl rfl rfl (zh_X _) rfl (zk_C.to (zk_C.up (by decide) (zF_X_put hm)) (fun o ho => ?_))
    by_cases hx0 : x3 = 0
    · have hF := zf_p hx0 hF
      rw [hx0] at ho
      refine zk_K.cat (x := 0) (h2 := zHp s2) (hp := 14) ho rfl rfl ?_
      refine zi_iconst (v := (1 : Int32)) rfl rfl ?_
      cases hF
      exact zi_ireturn rfl rfl rfl
    have hF := zf_n hx0 hF
    cases hF
  refine zi_callV rfl rfl rfl (zh_X _) rfl (zk_C.to (zk_C.up (by decide) (zF_X_put hm)) (fun o ho => zk_K.okv ho ?_))
  refine zi_i2l rfl ?_
  obtain ⟨hb, hF⟩ := zf_g hF
  refine zi_lastore rfl (zh_B3 _) (zin_ok hb) (zs_B3 _ _) ?_
  refine zi_goto rfl ?_
  refine zi_iconst (v := (0 : Int32)) rfl rfl ?_
  cases hF
  exact zi_ireturn rfl rfl rfl
/-! m_D_tellAccessor -/
def F_D_tellAccessor (p1 : Int32) (p2 : Int32) (s : zSt) : Option (Unit × zSt) := some ((), (sI (sI s 11 p1) 12 p2))
theorem zF_D_tellAccessor {X : zkX} {p1 : Int32} {p2 : Int32} {s : zSt} {r} (hF : F_D_tellAccessor p1 p2 s = some r) : zk_C X 1 m_D_tellAccessor [.ref 6, .int p1, .int p2] (zHp s) (fun o => o = zoU r) := by
  unfold F_D_tellAccessor at hF
  refine zk_enter (lv := [(0, .ref 6), (1, .int p1), (2, .int p2)]) rfl rfl ?_
  refine zi_aload_n rfl rfl ?_
  refine zi_iload_n rfl rfl ?_
  refine zi_putfield rfl rfl (zh_D _) rfl rfl (zs_I11 _ _) ?_
  refine zi_aload_n rfl rfl ?_
  refine zi_iload_n rfl rfl ?_
  refine zi_putfield rfl rfl (zh_D _) rfl rfl (zs_I12 _ _) ?_
  cases hF
  exact zi_return rfl rfl rfl
/-! m_X_define -/
def F_X_define_59  (s : zSt) : Option ((Int32 ⊕ Nat) × zSt) := some (.inr 0, zpush s)
def F_X_define_106 (x2 : Int64) (x4 : Int32) (x5 : Int32) (x8 : Int32) (x11 : Int32) (y0 : Int32) (s : zSt) : Option ((Int32 ⊕ Nat) × zSt) := (zb (F_D_tell (x4) (x5) s) (fun v4 s5 => (zb (F_M_kept ((24 : Int32)) s5) (fun v6 s7 => (zb (F_D_tellValue ((gI s5 0)) ((gJ s5 0)) (v6) s7) (fun v8 s9 => (zb (F_D_tellAccessor (x11) (y0) s9) (fun v10 s11 => (zb (F_O_defineProperty (x8) (x2) s11) (fun v12 s13 => some (.inl v12, s13)))))))))))
def F_X_define_86 (x2 : Int64) (x4 : Int32) (x5 : Int32) (x7 : Int32) (x8 : Int32) (y0 : Int32) (s : zSt) : Option ((Int32 ⊕ Nat) × zSt) := (if (x4 &&& (8 : Int32)) = 0 then F_X_define_106    (x2) (x4) (x5) (x8) (y0) ((0 : Int32)) s else (zt (F_X_heldOrNone (x7) s) (fun v14 s15 => F_X_define_106    (x2) (x4) (x5) (x8) (y0) (v14) s15)))
def F_X_define_69 (x2 : Int64) (x4 : Int32) (x5 : Int32) (x6 : Int32) (x7 : Int32) (x8 : Int32) (s : zSt) : Option ((Int32 ⊕ Nat) × zSt) := (if (x4 &&& (4 : Int32)) = 0 then F_X_define_86    (x2) (x4) (x5) (x7) (x8) ((0 : Int32)) s else (zt (F_X_heldOrNone (x6) s) (fun v17 s18 => F_X_define_86    (x2) (x4) (x5) (x7) (x8) (v17) s18)))
def F_X_define_35 (x2 : Int64) (x4 : Int32) (x5 : Int32) (x6 : Int32) (x7 : Int32) (x8 : Int32) (x9 : Int32) (y0 : Int32) (s : zSt) : Option ((Int32 ⊕ Nat) × zSt) := (if x4 < 0 then F_X_define_59     s else (if (63 : Int32) < x4 then F_X_define_59     s else (if x9 = 0 then F_X_define_69    (x2) (x4) (x5) (x6) (x7) (x8) s else (if y0 = 0 then F_X_define_69    (x2) (x4) (x5) (x6) (x7) (x8) s else F_X_define_59     s))))
def F_X_define_20 (x2 : Int64) (x4 : Int32) (x5 : Int32) (x6 : Int32) (x7 : Int32) (x8 : Int32) (y0 : Int32) (s : zSt) : Option ((Int32 ⊕ Nat) × zSt) := (if (x4 &&& (12 : Int32)) = 0 then F_X_define_35    (x2) (x4) (x5) (x6) (x7) (x8) (y0) ((0 : Int32)) s else F_X_define_35    (x2) (x4) (x5) (x6) (x7) (x8) (y0) ((1 : Int32)) s)
def F_X_define (p1 : Int32) (p2 : Int64) (p4 : Int32) (p5 : Int32) (p6 : Int32) (p7 : Int32) (s : zSt) : Option ((Int32 ⊕ Nat) × zSt) := (zt (F_X_heldWithKey (p1) (p2) s) (fun v1 s2 => (if (p4 &&& (3 : Int32)) = 0 then F_X_define_20    (p2) (p4) (p5) (p6) (p7) (v1) ((0 : Int32)) s2 else F_X_define_20    (p2) (p4) (p5) (p6) (p7) (v1) ((1 : Int32)) s2)))
theorem zJ_X_define_59 {X : zkX}  (s : zSt) (r) (hF : F_X_define_59    s = some r) : zk_W X 9 m_X_define (59, [], [], zHp s) (fun o => o = ztI r) := by
  unfold F_X_define_59 at hF
  cases hF
  exact zi_throw rfl rfl rfl rfl rfl (by rw [zh_push]; rfl)
theorem zJ_X_define_106 {X : zkX} (x2 : Int64) (x4 : Int32) (x5 : Int32) (x8 : Int32) (x11 : Int32) (y0 : Int32) (s : zSt) (r) (hF : F_X_define_106   x2 x4 x5 x8 x11 y0 s = some r) : zk_W X 9 m_X_define (106, [(0, .ref 1), (2, .long x2), (4, .int x4), (5, .int x5), (8, .int x8), (11, .int x11)], [.int y0], zHp s) (fun o => o = ztI r) := by
  unfold F_X_define_106 at hF
  refine zi_istore rfl rfl rfl ?_
  refine zi_aload_n rfl rfl ?_
  refine zi_getfield rfl rfl (zh_X _) rfl ?_
  refine zi_iload rfl rfl ?_
  refine zi_iload rfl rfl ?_
  obtain ⟨v4, s5, hm, hF⟩ := zf_b hF
  refine zi_callV rfl rfl rfl (zh_D _) rfl (zk_C.to (zk_C.up (by decide) (zF_D_tell hm)) (fun o ho => zk_K.okn ho ?_))
  refine zi_aload_n rfl rfl ?_
  refine zi_getfield rfl rfl (zh_X _) rfl ?_
  refine zi_aload_n rfl rfl ?_
  refine zi_getfield rfl rfl (zh_X _) rfl ?_
  refine zi_aload_n rfl rfl ?_
  refine zi_getfield rfl rfl (zh_X _) rfl ?_
  refine zi_aload_n rfl rfl ?_
  refine zi_getfield rfl rfl (zh_X _) rfl ?_
  refine zi_bipush (v := (24 : Int32)) rfl rfl ?_
  obtain ⟨v6, s7, hm, hF⟩ := zf_b hF
  refine zi_callV rfl rfl rfl (zh_M _) rfl (zk_C.to (zk_C.up (by decide) (zF_M_kept hm)) (fun o ho => zk_K.okv ho ?_))
  obtain ⟨v8, s9, hm, hF⟩ := zf_b hF
  refine zi_callV rfl rfl rfl (zh_D _) rfl (zk_C.to (zk_C.up (by decide) (zF_D_tellValue hm)) (fun o ho => zk_K.okn ho ?_))
  refine zi_aload_n rfl rfl ?_
  refine zi_getfield rfl rfl (zh_X _) rfl ?_
  refine zi_iload rfl rfl ?_
  refine zi_iload rfl rfl ?_
  obtain ⟨v10, s11, hm, hF⟩ := zf_b hF
  refine zi_callV rfl rfl rfl (zh_D _) rfl (zk_C.to (zk_C.up (by decide) (zF_D_tellAccessor hm)) (fun o ho => zk_K.okn ho ?_))
  refine zi_aload_n rfl rfl ?_
  refine zi_getfield rfl rfl (zh_X _) rfl ?_
  refine zi_iload rfl rfl ?_
  refine zi_lload_n rfl rfl ?_
  refine zi_aload_n rfl rfl ?_
  refine zi_getfield rfl rfl (zh_X _) rfl ?_
  obtain ⟨v12, s13, hm, hF⟩ := zf_b hF
  refine zi_callV rfl rfl rfl (zh_O _) rfl (zk_C.to (zk_C.up (by decide) (zF_O_defineProperty hm)) (fun o ho => zk_K.okv ho ?_))
  cases hF
  exact zi_ireturn rfl rfl rfl
theorem zJ_X_define_86 {X : zkX} (x2 : Int64) (x4 : Int32) (x5 : Int32) (x7 : Int32) (x8 : Int32) (y0 : Int32) (s : zSt) (r) (hF : F_X_define_86   x2 x4 x5 x7 x8 y0 s = some r) : zk_W X 9 m_X_define (86, [(0, .ref 1), (2, .long x2), (4, .int x4), (5, .int x5), (7, .int x7), (8, .int x8)], [.int y0], zHp s) (fun o => o = ztI r) := by
  unfold F_X_define_86 at hF
  refine zi_istore rfl rfl rfl ?_
  refine zi_iload rfl rfl ?_
  refine zi_bipush (v := (8 : Int32)) rfl rfl ?_
  refine zi_iand rfl ?_
  refine zi_ifeq rfl (fun hc => ?_) (fun hc => ?_)
  · have hF := zf_p hc hF
    refine zi_iconst (v := (0 : Int32)) rfl rfl ?_
    exact zk_sb (zJ_X_define_106   _ _ _ _ _ _ _ _ hF) rfl ⟨rfl, rfl, rfl, rfl, rfl, rfl, trivial⟩
  · have hF := zf_n hc hF
    refine zi_aload_n rfl rfl ?_
    refine zi_iload rfl rfl ?_
    rcases zf_t hF with ⟨v14, s15, hm, hF⟩ | ⟨x16, s15, hm, hF⟩
    rotate_left
    · subst hF
      exact zi_callV rfl rfl rfl (zh_X _) rfl (zk_C.to (zk_C.up (by decide) (zF_X_heldOrNone hm)) (fun o ho => zk_K.thr (x := x16) (h2 := zHp s15) ho rfl rfl))
    refine zi_callV rfl rfl rfl (zh_X _) rfl (zk_C.to (zk_C.up (by decide) (zF_X_heldOrNone hm)) (fun o ho => zk_K.okv ho ?_))
    refine zi_goto rfl ?_
    exact zk_sb (zJ_X_define_106   _ _ _ _ _ _ _ _ hF) rfl ⟨rfl, rfl, rfl, rfl, rfl, rfl, trivial⟩
theorem zJ_X_define_69 {X : zkX} (x2 : Int64) (x4 : Int32) (x5 : Int32) (x6 : Int32) (x7 : Int32) (x8 : Int32) (s : zSt) (r) (hF : F_X_define_69   x2 x4 x5 x6 x7 x8 s = some r) : zk_W X 9 m_X_define (69, [(0, .ref 1), (2, .long x2), (4, .int x4), (5, .int x5), (6, .int x6), (7, .int x7), (8, .int x8)], [], zHp s) (fun o => o = ztI r) := by
  unfold F_X_define_69 at hF
  refine zi_iload rfl rfl ?_
  refine zi_iconst (v := (4 : Int32)) rfl rfl ?_
  refine zi_iand rfl ?_
  refine zi_ifeq rfl (fun hc => ?_) (fun hc => ?_)
  · have hF := zf_p hc hF
    refine zi_iconst (v := (0 : Int32)) rfl rfl ?_
    exact zk_sb (zJ_X_define_86   _ _ _ _ _ _ _ _ hF) rfl ⟨rfl, rfl, rfl, rfl, rfl, rfl, trivial⟩
  · have hF := zf_n hc hF
    refine zi_aload_n rfl rfl ?_
    refine zi_iload rfl rfl ?_
    rcases zf_t hF with ⟨v17, s18, hm, hF⟩ | ⟨x19, s18, hm, hF⟩
    rotate_left
    · subst hF
      exact zi_callV rfl rfl rfl (zh_X _) rfl (zk_C.to (zk_C.up (by decide) (zF_X_heldOrNone hm)) (fun o ho => zk_K.thr (x := x19) (h2 := zHp s18) ho rfl rfl))
    refine zi_callV rfl rfl rfl (zh_X _) rfl (zk_C.to (zk_C.up (by decide) (zF_X_heldOrNone hm)) (fun o ho => zk_K.okv ho ?_))
    refine zi_goto rfl ?_
    exact zk_sb (zJ_X_define_86   _ _ _ _ _ _ _ _ hF) rfl ⟨rfl, rfl, rfl, rfl, rfl, rfl, trivial⟩
theorem zJ_X_define_35 {X : zkX} (x2 : Int64) (x4 : Int32) (x5 : Int32) (x6 : Int32) (x7 : Int32) (x8 : Int32) (x9 : Int32) (y0 : Int32) (s : zSt) (r) (hF : F_X_define_35   x2 x4 x5 x6 x7 x8 x9 y0 s = some r) : zk_W X 9 m_X_define (35, [(0, .ref 1), (2, .long x2), (4, .int x4), (5, .int x5), (6, .int x6), (7, .int x7), (8, .int x8), (9, .int x9)], [.int y0], zHp s) (fun o => o = ztI r) := by
  unfold F_X_define_35 at hF
  refine zi_istore rfl rfl rfl ?_
  refine zi_iload rfl rfl ?_
  refine zi_iflt rfl (fun hc => ?_) (fun hc => ?_)
  · have hF := zf_p hc hF
    exact zk_sb (zJ_X_define_59    _ _ hF) rfl trivial
  · have hF := zf_n hc hF
    refine zi_iload rfl rfl ?_
    refine zi_bipush (v := (63 : Int32)) rfl rfl ?_
    refine zi_icgt rfl (fun hc => ?_) (fun hc => ?_)
    · have hF := zf_p hc hF
      exact zk_sb (zJ_X_define_59    _ _ hF) rfl trivial
    · have hF := zf_n hc hF
      refine zi_iload rfl rfl ?_
      refine zi_ifeq rfl (fun hc => ?_) (fun hc => ?_)
      · have hF := zf_p hc hF
        exact zk_sb (zJ_X_define_69   _ _ _ _ _ _ _ _ hF) rfl ⟨rfl, rfl, rfl, rfl, rfl, rfl, rfl, trivial⟩
      · have hF := zf_n hc hF
        refine zi_iload rfl rfl ?_
        refine zi_ifeq rfl (fun hc => ?_) (fun hc => ?_)
        · have hF := zf_p hc hF
          exact zk_sb (zJ_X_define_69   _ _ _ _ _ _ _ _ hF) rfl ⟨rfl, rfl, rfl, rfl, rfl, rfl, rfl, trivial⟩
        · have hF := zf_n hc hF
          exact zk_sb (zJ_X_define_59    _ _ hF) rfl trivial
theorem zJ_X_define_20 {X : zkX} (x2 : Int64) (x4 : Int32) (x5 : Int32) (x6 : Int32) (x7 : Int32) (x8 : Int32) (y0 : Int32) (s : zSt) (r) (hF : F_X_define_20   x2 x4 x5 x6 x7 x8 y0 s = some r) : zk_W X 9 m_X_define (20, [(0, .ref 1), (2, .long x2), (4, .int x4), (5, .int x5), (6, .int x6), (7, .int x7), (8, .int x8)], [.int y0], zHp s) (fun o => o = ztI r) := by
  unfold F_X_define_20 at hF
  refine zi_istore rfl rfl rfl ?_
  refine zi_iload rfl rfl ?_
  refine zi_bipush (v := (12 : Int32)) rfl rfl ?_
  refine zi_iand rfl ?_
  refine zi_ifeq rfl (fun hc => ?_) (fun hc => ?_)
  · have hF := zf_p hc hF
    refine zi_iconst (v := (0 : Int32)) rfl rfl ?_
    exact zk_sb (zJ_X_define_35   _ _ _ _ _ _ _ _ _ _ hF) rfl ⟨rfl, rfl, rfl, rfl, rfl, rfl, rfl, rfl, trivial⟩
  · have hF := zf_n hc hF
    refine zi_iconst (v := (1 : Int32)) rfl rfl ?_
    refine zi_goto rfl ?_
    exact zk_sb (zJ_X_define_35   _ _ _ _ _ _ _ _ _ _ hF) rfl ⟨rfl, rfl, rfl, rfl, rfl, rfl, rfl, rfl, trivial⟩
theorem zF_X_define {X : zkX} {p1 : Int32} {p2 : Int64} {p4 : Int32} {p5 : Int32} {p6 : Int32} {p7 : Int32} {s : zSt} {r} (hF : F_X_define p1 p2 p4 p5 p6 p7 s = some r) : zk_C X 10 m_X_define [.ref 1, .int p1, .long p2, .int p4, .int p5, .int p6, .int p7] (zHp s) (fun o => o = ztI r) := by
  unfold F_X_define at hF
  refine zk_enter (lv := [(0, .ref 1), (1, .int p1), (2, .long p2), (4, .int p4), (5, .int p5), (6, .int p6), (7, .int p7)]) rfl rfl ?_
  refine zi_aload_n rfl rfl ?_
  refine zi_iload_n rfl rfl ?_
  refine zi_lload_n rfl rfl ?_
  rcases zf_t hF with ⟨v1, s2, hm, hF⟩ | ⟨x3, s2, hm, hF⟩
  rotate_left
  · subst hF
    exact zi_callV rfl rfl rfl (zh_X _) rfl (zk_C.to (zk_C.up (by decide) (zF_X_heldWithKey hm)) (fun o ho => zk_K.thr (x := x3) (h2 := zHp s2) ho rfl rfl))
  refine zi_callV rfl rfl rfl (zh_X _) rfl (zk_C.to (zk_C.up (by decide) (zF_X_heldWithKey hm)) (fun o ho => zk_K.okv ho ?_))
  refine zi_istore rfl rfl rfl ?_
  refine zi_iload rfl rfl ?_
  refine zi_iconst (v := (3 : Int32)) rfl rfl ?_
  refine zi_iand rfl ?_
  refine zi_ifeq rfl (fun hc => ?_) (fun hc => ?_)
  · have hF := zf_p hc hF
    refine zi_iconst (v := (0 : Int32)) rfl rfl ?_
    exact zk_sb (zJ_X_define_20   _ _ _ _ _ _ _ _ _ hF) rfl ⟨rfl, rfl, rfl, rfl, rfl, rfl, rfl, trivial⟩
  · have hF := zf_n hc hF
    refine zi_iconst (v := (1 : Int32)) rfl rfl ?_
    refine zi_goto rfl ?_
    exact zk_sb (zJ_X_define_20   _ _ _ _ _ _ _ _ _ hF) rfl ⟨rfl, rfl, rfl, rfl, rfl, rfl, rfl, trivial⟩

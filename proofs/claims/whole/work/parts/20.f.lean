/-! m_R_asLength -/
def F_R_asLength_34 (y0 : Int64) (s : zSt) : Option (Int64 × zSt) := some (y0, s)
def F_R_asLength (p0 : Int32) (p1 : Int64) (s : zSt) : Option (Int64 × zSt) := (if p0 = (4 : Int32) then (zb (F_R_wholeOf (p1) s) (fun v3 s4 => F_R_asLength_34    (v3) s4)) else (zb (F_R_in ((p0).toInt64) ((1 : Int64)) ((3 : Int64)) s) (fun v1 s2 => (if v1 = 0 then F_R_asLength_34    ((-1 : Int64)) s2 else F_R_asLength_34    (((p0 / (3 : Int32))).toInt64) s2))))
theorem zJ_R_asLength_34 {X : zkX} (y0 : Int64) (s : zSt) (r) (hF : F_R_asLength_34   y0 s = some r) : zk_W X 1 m_R_asLength (34, [], [.long y0], zHp s) (fun o => o = zoL r) := by
  unfold F_R_asLength_34 at hF
  cases hF
  exact zi_lreturn rfl rfl rfl
theorem zF_R_asLength {X : zkX} {p0 : Int32} {p1 : Int64} {s : zSt} {r} (hF : F_R_asLength p0 p1 s = some r) : zk_C X 2 m_R_asLength [.int p0, .long p1] (zHp s) (fun o => o = zoL r) := by
  unfold F_R_asLength at hF
  refine zk_enter (lv := [(0, .int p0), (1, .long p1)]) rfl rfl ?_
  refine zi_iload_n rfl rfl ?_
  refine zi_iconst (v := (4 : Int32)) rfl rfl ?_
  refine zi_icne rfl (fun hc => ?_) (fun hc => ?_)
  · have hF := zf_n hc hF
    refine zi_iload_n rfl rfl ?_
    refine zi_i2l rfl ?_
    refine zi_lconst (v := (1 : Int64)) rfl rfl ?_
    refine zi_ldc2_w (v := (3 : Int64)) rfl rfl ?_
    obtain ⟨v1, s2, hm, hF⟩ := zf_b hF
    refine zi_callS rfl rfl rfl rfl (zk_C.to (zk_C.up (by decide) (zF_R_in hm)) (fun o ho => zk_K.okv ho ?_))
    refine zi_ifeq rfl (fun hc => ?_) (fun hc => ?_)
    · have hF := zf_p hc hF
      refine zi_ldc2_w (v := (-1 : Int64)) rfl rfl ?_
      exact zk_sb (zJ_R_asLength_34   _ _ _ hF) rfl trivial
    · have hF := zf_n hc hF
      refine zi_iload_n rfl rfl ?_
      refine zi_iconst (v := (3 : Int32)) rfl rfl ?_
      refine zi_idiv rfl (by decide) ?_
      refine zi_i2l rfl ?_
      refine zi_goto rfl ?_
      exact zk_sb (zJ_R_asLength_34   _ _ _ hF) rfl trivial
  · have hF := zf_p hc hF
    refine zi_lload_n rfl rfl ?_
    obtain ⟨v3, s4, hm, hF⟩ := zf_b hF
    refine zi_callS rfl rfl rfl rfl (zk_C.to (zk_C.up (by decide) (zF_R_wholeOf hm)) (fun o ho => zk_K.okv ho ?_))
    refine zi_goto rfl ?_
    exact zk_sb (zJ_R_asLength_34   _ _ _ hF) rfl trivial
/-! m_R_find -/
def F_R_find_38 (K3 : Int32 → Int64 → Int32 → zSt → Option (Int32 × zSt)) (x1 : Int32) (x2 : Int64) (x4 : Int32) (s : zSt) : Option (Int32 × zSt) := K3 (x1) (x2) ((x4 + (1 : Int32))) s
def F_R_find_3  : Nat → Int32 → Int64 → Int32 → zSt → Option (Int32 × zSt)
  | 0, _, _, _, _ => none
  | n + 1, x1, x2, x4, s => (if (gI s 15) ≤ x4 then some ((-1 : Int32), s) else (if zin x4 8400 then (if (gA s 5 (x4).toNatClampNeg) = x1 then (if zin x4 8400 then (if (lg_cmp (gB s 1 (x4).toNatClampNeg) x2) = 0 then some (x4, s) else F_R_find_38  (F_R_find_3  n)  (x1) (x2) (x4) s) else none) else F_R_find_38  (F_R_find_3  n)  (x1) (x2) (x4) s) else none))
def F_R_find (p1 : Int32) (p2 : Int64) (s : zSt) : Option (Int32 × zSt) := F_R_find_3   zFuel (p1) (p2) ((0 : Int32)) s
theorem zJ_R_find_38 {X : zkX} (K3 : Int32 → Int64 → Int32 → zSt → Option (Int32 × zSt)) (hK3 : ∀ (x1 : Int32) (x2 : Int64) (x4 : Int32) (s : zSt) r, K3 x1 x2 x4 s = some r → zk_W X 0 m_R_find (3, [(0, .ref 7), (1, .int x1), (2, .long x2), (4, .int x4)], [], zHp s) (fun o => o = zoI r)) (x1 : Int32) (x2 : Int64) (x4 : Int32) (s : zSt) (r) (hF : F_R_find_38  K3 x1 x2 x4 s = some r) : zk_W X 0 m_R_find (38, [(0, .ref 7), (1, .int x1), (2, .long x2), (4, .int x4)], [], zHp s) (fun o => o = zoI r) := by
  unfold F_R_find_38 at hF
  refine zi_iinc (y := (x4 + (1 : Int32))) rfl rfl rfl rfl rfl ?_
  refine zi_goto rfl ?_
  exact zk_sb (hK3 _ _ _ _ _ hF) rfl ⟨rfl, rfl, rfl, rfl, trivial⟩
theorem zJ_R_find_3 {X : zkX} : ∀ (n : Nat) (x1 : Int32) (x2 : Int64) (x4 : Int32) (s : zSt) (r), F_R_find_3   n x1 x2 x4 s = some r → zk_W X 0 m_R_find (3, [(0, .ref 7), (1, .int x1), (2, .long x2), (4, .int x4)], [], zHp s) (fun o => o = zoI r) := by
  intro n
  induction n with
  | zero => intro x1 x2 x4 s r hF; cases hF
  | succ n ih =>
    intro x1 x2 x4 s r hF
    rw [F_R_find_3] at hF
    refine zi_iload rfl rfl ?_
    refine zi_aload_n rfl rfl ?_
    refine zi_getfield rfl rfl (zh_R _) rfl ?_
    refine zi_icge rfl (fun hc => ?_) (fun hc => ?_)
    · have hF := zf_p hc hF
      refine zi_iconst (v := (-1 : Int32)) rfl rfl ?_
      cases hF
      exact zi_ireturn rfl rfl rfl
    · have hF := zf_n hc hF
      refine zi_aload_n rfl rfl ?_
      refine zi_getfield rfl rfl (zh_R _) rfl ?_
      refine zi_iload rfl rfl ?_
      obtain ⟨hb, hF⟩ := zf_g hF
      refine zi_iaload rfl (zr_A5 _ _) (zin_ok hb) ?_
      refine zi_iload_n rfl rfl ?_
      refine zi_icne rfl (fun hc => ?_) (fun hc => ?_)
      · have hF := zf_n hc hF
        exact zk_sb (zJ_R_find_38 (F_R_find_3  n) ih  _ _ _ _ _ hF) rfl ⟨rfl, rfl, rfl, rfl, trivial⟩
      · have hF := zf_p hc hF
        refine zi_aload_n rfl rfl ?_
        refine zi_getfield rfl rfl (zh_R _) rfl ?_
        refine zi_iload rfl rfl ?_
        obtain ⟨hb, hF⟩ := zf_g hF
        refine zi_laload rfl (zh_B1 _) (zin_ok hb) ?_
        refine zi_lload_n rfl rfl ?_
        refine zi_lcmp rfl ?_
        refine zi_ifne rfl (fun hc => ?_) (fun hc => ?_)
        · have hF := zf_n hc hF
          exact zk_sb (zJ_R_find_38 (F_R_find_3  n) ih  _ _ _ _ _ hF) rfl ⟨rfl, rfl, rfl, rfl, trivial⟩
        · have hF := zf_p hc hF
          refine zi_iload rfl rfl ?_
          cases hF
          exact zi_ireturn rfl rfl rfl
theorem zF_R_find {X : zkX} {p1 : Int32} {p2 : Int64} {s : zSt} {r} (hF : F_R_find p1 p2 s = some r) : zk_C X 1 m_R_find [.ref 7, .int p1, .long p2] (zHp s) (fun o => o = zoI r) := by
  unfold F_R_find at hF
  refine zk_enter (lv := [(0, .ref 7), (1, .int p1), (2, .long p2)]) rfl rfl ?_
  refine zi_iconst (v := (0 : Int32)) rfl rfl ?_
  refine zi_istore rfl rfl rfl ?_
  exact zk_sb (zJ_R_find_3  zFuel _ _ _ _ _ hF) rfl ⟨rfl, rfl, rfl, rfl, trivial⟩
/-! m_R_lengthOf -/
def F_R_lengthOf (p1 : Int32) (s : zSt) : Option (Int64 × zSt) := (zb (F_R_find (p1) ((-1 : Int64)) s) (fun v1 s2 => (if zin v1 8400 then (zb (F_R_wholeOf ((gB s2 2 (v1).toNatClampNeg)) s2) (fun v3 s4 => some (v3, s4))) else none)))
theorem zF_R_lengthOf {X : zkX} {p1 : Int32} {s : zSt} {r} (hF : F_R_lengthOf p1 s = some r) : zk_C X 2 m_R_lengthOf [.ref 7, .int p1] (zHp s) (fun o => o = zoL r) := by
  unfold F_R_lengthOf at hF
  refine zk_enter (lv := [(0, .ref 7), (1, .int p1)]) rfl rfl ?_
  refine zi_aload_n rfl rfl ?_
  refine zi_getfield rfl rfl (zh_R _) rfl ?_
  refine zi_aload_n rfl rfl ?_
  refine zi_iload_n rfl rfl ?_
  refine zi_ldc2_w (v := (-1 : Int64)) rfl rfl ?_
  obtain ⟨v1, s2, hm, hF⟩ := zf_b hF
  refine zi_callV rfl rfl rfl (zh_R _) rfl (zk_C.to (zk_C.up (by decide) (zF_R_find hm)) (fun o ho => zk_K.okv ho ?_))
  obtain ⟨hb, hF⟩ := zf_g hF
  refine zi_laload rfl (zh_B2 _) (zin_ok hb) ?_
  obtain ⟨v3, s4, hm, hF⟩ := zf_b hF
  refine zi_callS rfl rfl rfl rfl (zk_C.to (zk_C.up (by decide) (zF_R_wholeOf hm)) (fun o ho => zk_K.okv ho ?_))
  cases hF
  exact zi_lreturn rfl rfl rfl
/-! m_R_bitsOf -/
def F_R_bitsOf_46 (y0 : Int64) (s : zSt) : Option (Int64 × zSt) := some (y0, s)
def F_R_bitsOf_2  : Nat → Int64 → Int32 → zSt → Option (Int64 × zSt)
  | 0, _, _, _ => none
  | n + 1, x0, x2, s => (if (lg_cmp (x0 >>> ((x2).toInt64 &&& 63)) (1 : Int64)) ≤ 0 then (if (lg_cmp x0 (0 : Int64)) = 0 then F_R_bitsOf_46    ((0 : Int64)) s else F_R_bitsOf_46    (((((x2 + (1023 : Int32))).toInt64 <<< (((52 : Int32)).toInt64 &&& 63)) ||| ((x0 <<< ((((52 : Int32) - x2)).toInt64 &&& 63)) &&& (4503599627370495 : Int64)))) s) else F_R_bitsOf_2  n (x0) ((x2 + (1 : Int32))) s)
def F_R_bitsOf (p0 : Int64) (s : zSt) : Option (Int64 × zSt) := F_R_bitsOf_2   zFuel (p0) ((0 : Int32)) s
theorem zJ_R_bitsOf_46 {X : zkX} (y0 : Int64) (s : zSt) (r) (hF : F_R_bitsOf_46   y0 s = some r) : zk_W X 0 m_R_bitsOf (46, [], [.long y0], zHp s) (fun o => o = zoL r) := by
  unfold F_R_bitsOf_46 at hF
  cases hF
  exact zi_lreturn rfl rfl rfl
theorem zJ_R_bitsOf_2 {X : zkX} : ∀ (n : Nat) (x0 : Int64) (x2 : Int32) (s : zSt) (r), F_R_bitsOf_2   n x0 x2 s = some r → zk_W X 0 m_R_bitsOf (2, [(0, .long x0), (2, .int x2)], [], zHp s) (fun o => o = zoL r) := by
  intro n
  induction n with
  | zero => intro x0 x2 s r hF; cases hF
  | succ n ih =>
    intro x0 x2 s r hF
    rw [F_R_bitsOf_2] at hF
    refine zi_lload_n rfl rfl ?_
    refine zi_iload_n rfl rfl ?_
    refine zi_lshr rfl ?_
    refine zi_lconst (v := (1 : Int64)) rfl rfl ?_
    refine zi_lcmp rfl ?_
    refine zi_ifle rfl (fun hc => ?_) (fun hc => ?_)
    · have hF := zf_p hc hF
      refine zi_lload_n rfl rfl ?_
      refine zi_lconst (v := (0 : Int64)) rfl rfl ?_
      refine zi_lcmp rfl ?_
      refine zi_ifne rfl (fun hc => ?_) (fun hc => ?_)
      · have hF := zf_n hc hF
        refine zi_iload_n rfl rfl ?_
        refine zi_sipush (v := (1023 : Int32)) rfl rfl ?_
        refine zi_iadd rfl ?_
        refine zi_i2l rfl ?_
        refine zi_bipush (v := (52 : Int32)) rfl rfl ?_
        refine zi_lshl rfl ?_
        refine zi_lload_n rfl rfl ?_
        refine zi_bipush (v := (52 : Int32)) rfl rfl ?_
        refine zi_iload_n rfl rfl ?_
        refine zi_isub rfl ?_
        refine zi_lshl rfl ?_
        refine zi_ldc2_w (v := (4503599627370495 : Int64)) rfl rfl ?_
        refine zi_land rfl ?_
        refine zi_lor rfl ?_
        exact zk_sb (zJ_R_bitsOf_46   _ _ _ hF) rfl trivial
      · have hF := zf_p hc hF
        refine zi_lconst (v := (0 : Int64)) rfl rfl ?_
        refine zi_goto rfl ?_
        exact zk_sb (zJ_R_bitsOf_46   _ _ _ hF) rfl trivial
    · have hF := zf_n hc hF
      refine zi_iinc (y := (x2 + (1 : Int32))) rfl rfl rfl rfl rfl ?_
      refine zi_goto rfl ?_
      exact zk_sb (ih _ _ _ _ hF) rfl ⟨rfl, rfl, trivial⟩
theorem zF_R_bitsOf {X : zkX} {p0 : Int64} {s : zSt} {r} (hF : F_R_bitsOf p0 s = some r) : zk_C X 1 m_R_bitsOf [.long p0] (zHp s) (fun o => o = zoL r) := by
  unfold F_R_bitsOf at hF
  refine zk_enter (lv := [(0, .long p0)]) rfl rfl ?_
  refine zi_iconst (v := (0 : Int32)) rfl rfl ?_
  refine zi_istore_n rfl rfl rfl ?_
  exact zk_sb (zJ_R_bitsOf_2  zFuel _ _ _ _ hF) rfl ⟨rfl, rfl, trivial⟩
/-! m_R_has_0 -/
def F_R_has_0_17 (y0 : Int32) (s : zSt) : Option (Int32 × zSt) := (if vp_nar .boolean y0 = y0 then some (y0, s) else none)
def F_R_has_0 (p1 : Int32) (p2 : Int32) (s : zSt) : Option (Int32 × zSt) := (if zin p1 8400 then (if ((gA s 7 (p1).toNatClampNeg) &&& p2) = p2 then F_R_has_0_17    ((1 : Int32)) s else F_R_has_0_17    ((0 : Int32)) s) else none)
theorem zJ_R_has_0_17 {X : zkX} (y0 : Int32) (s : zSt) (r) (hF : F_R_has_0_17   y0 s = some r) : zk_W X 0 m_R_has_0 (17, [], [.int y0], zHp s) (fun o => o = zoI r) := by
  unfold F_R_has_0_17 at hF
  obtain ⟨hz, hF⟩ := zf_g hF
  cases hF
  exact zi_zreturn rfl rfl hz rfl
theorem zF_R_has_0 {X : zkX} {p1 : Int32} {p2 : Int32} {s : zSt} {r} (hF : F_R_has_0 p1 p2 s = some r) : zk_C X 1 m_R_has_0 [.ref 7, .int p1, .int p2] (zHp s) (fun o => o = zoI r) := by
  unfold F_R_has_0 at hF
  refine zk_enter (lv := [(0, .ref 7), (1, .int p1), (2, .int p2)]) rfl rfl ?_
  refine zi_aload_n rfl rfl ?_
  refine zi_getfield rfl rfl (zh_R _) rfl ?_
  refine zi_iload_n rfl rfl ?_
  obtain ⟨hb, hF⟩ := zf_g hF
  refine zi_iaload rfl (zr_A7 _ _) (zin_ok hb) ?_
  refine zi_iload_n rfl rfl ?_
  refine zi_iand rfl ?_
  refine zi_iload_n rfl rfl ?_
  refine zi_icne rfl (fun hc => ?_) (fun hc => ?_)
  · have hF := zf_n hc hF
    refine zi_iconst (v := (0 : Int32)) rfl rfl ?_
    exact zk_sb (zJ_R_has_0_17   _ _ _ hF) rfl trivial
  · have hF := zf_p hc hF
    refine zi_iconst (v := (1 : Int32)) rfl rfl ?_
    refine zi_goto rfl ?_
    exact zk_sb (zJ_R_has_0_17   _ _ _ hF) rfl trivial
/-! m_R_isSame -/
def F_R_isSame_26 (y0 : Int32) (s : zSt) : Option (Int32 × zSt) := (if vp_nar .boolean y0 = y0 then some (y0, s) else none)
def F_R_isSame_25  (s : zSt) : Option (Int32 × zSt) := F_R_isSame_26    ((0 : Int32)) s
def F_R_isSame (p1 : Int32) (p2 : Int32) (p3 : Int64) (s : zSt) : Option (Int32 × zSt) := (if zin p1 8400 then (if (gA s 8 (p1).toNatClampNeg) = p2 then (if zin p1 8400 then (if (lg_cmp (gB s 2 (p1).toNatClampNeg) p3) = 0 then F_R_isSame_26    ((1 : Int32)) s else F_R_isSame_25     s) else none) else F_R_isSame_25     s) else none)
theorem zJ_R_isSame_26 {X : zkX} (y0 : Int32) (s : zSt) (r) (hF : F_R_isSame_26   y0 s = some r) : zk_W X 0 m_R_isSame (26, [], [.int y0], zHp s) (fun o => o = zoI r) := by
  unfold F_R_isSame_26 at hF
  obtain ⟨hz, hF⟩ := zf_g hF
  cases hF
  exact zi_zreturn rfl rfl hz rfl
theorem zJ_R_isSame_25 {X : zkX}  (s : zSt) (r) (hF : F_R_isSame_25    s = some r) : zk_W X 0 m_R_isSame (25, [], [], zHp s) (fun o => o = zoI r) := by
  unfold F_R_isSame_25 at hF
  refine zi_iconst (v := (0 : Int32)) rfl rfl ?_
  exact zk_sb (zJ_R_isSame_26   _ _ _ hF) rfl trivial
theorem zF_R_isSame {X : zkX} {p1 : Int32} {p2 : Int32} {p3 : Int64} {s : zSt} {r} (hF : F_R_isSame p1 p2 p3 s = some r) : zk_C X 1 m_R_isSame [.ref 7, .int p1, .int p2, .long p3] (zHp s) (fun o => o = zoI r) := by
  unfold F_R_isSame at hF
  refine zk_enter (lv := [(0, .ref 7), (1, .int p1), (2, .int p2), (3, .long p3)]) rfl rfl ?_
  refine zi_aload_n rfl rfl ?_
  refine zi_getfield rfl rfl (zh_R _) rfl ?_
  refine zi_iload_n rfl rfl ?_
  obtain ⟨hb, hF⟩ := zf_g hF
  refine zi_iaload rfl (zr_A8 _ _) (zin_ok hb) ?_
  refine zi_iload_n rfl rfl ?_
  refine zi_icne rfl (fun hc => ?_) (fun hc => ?_)
  · have hF := zf_n hc hF
    exact zk_sb (zJ_R_isSame_25    _ _ hF) rfl trivial
  · have hF := zf_p hc hF
    refine zi_aload_n rfl rfl ?_
    refine zi_getfield rfl rfl (zh_R _) rfl ?_
    refine zi_iload_n rfl rfl ?_
    obtain ⟨hb, hF⟩ := zf_g hF
    refine zi_laload rfl (zh_B2 _) (zin_ok hb) ?_
    refine zi_lload_n rfl rfl ?_
    refine zi_lcmp rfl ?_
    refine zi_ifne rfl (fun hc => ?_) (fun hc => ?_)
    · have hF := zf_n hc hF
      exact zk_sb (zJ_R_isSame_25    _ _ hF) rfl trivial
    · have hF := zf_p hc hF
      refine zi_iconst (v := (1 : Int32)) rfl rfl ?_
      refine zi_goto rfl ?_
      exact zk_sb (zJ_R_isSame_26   _ _ _ hF) rfl trivial
/-! m_R_isSo -/
def F_R_isSo_123 (y0 : Int32) (s : zSt) : Option (Int32 × zSt) := (if vp_nar .boolean y0 = y0 then some (y0, s) else none)
def F_R_isSo_118  (s : zSt) : Option (Int32 × zSt) := F_R_isSo_123    ((1 : Int32)) s
def F_R_isSo_122  (s : zSt) : Option (Int32 × zSt) := F_R_isSo_123    ((0 : Int32)) s
def F_R_isSo_98 (x1 : Int32) (x2 : Int32) (x8 : Int32) (s : zSt) : Option (Int32 × zSt) := (zb (F_R_isTold (x2) ((8 : Int32)) s) (fun v5 s6 => (if v5 = 0 then F_R_isSo_118     s6 else (if zin x1 8400 then (if (gA s6 10 (x1).toNatClampNeg) = x8 then F_R_isSo_118     s6 else F_R_isSo_122     s6) else none))))
def F_R_isSo_79 (x1 : Int32) (x2 : Int32) (x7 : Int32) (x8 : Int32) (s : zSt) : Option (Int32 × zSt) := (zb (F_R_isTold (x2) ((4 : Int32)) s) (fun v3 s4 => (if v3 = 0 then F_R_isSo_98    (x1) (x2) (x8) s4 else (if zin x1 8400 then (if (gA s4 9 (x1).toNatClampNeg) = x7 then F_R_isSo_98    (x1) (x2) (x8) s4 else F_R_isSo_122     s4) else none))))
def F_R_isSo_57 (x1 : Int32) (x2 : Int32) (x4 : Int32) (x5 : Int64) (x7 : Int32) (x8 : Int32) (s : zSt) : Option (Int32 × zSt) := (zb (F_R_isTold (x2) ((1 : Int32)) s) (fun v1 s2 => (if v1 = 0 then F_R_isSo_79    (x1) (x2) (x7) (x8) s2 else (zb (F_R_isSame (x1) (x4) (x5) s2) (fun v7 s8 => (if v7 = 0 then some ((0 : Int32), s8) else F_R_isSo_79    (x1) (x2) (x7) (x8) s8))))))
def F_R_isSo_55  (s : zSt) : Option (Int32 × zSt) := some ((0 : Int32), s)
def F_R_isSo_38 (x1 : Int32) (x2 : Int32) (x4 : Int32) (x5 : Int64) (x7 : Int32) (x8 : Int32) (s : zSt) : Option (Int32 × zSt) := (if (x2 &&& (12 : Int32)) ≤ 0 then F_R_isSo_57    (x1) (x2) (x4) (x5) (x7) (x8) s else (zb (F_R_has_0 (x1) ((64 : Int32)) s) (fun v9 s10 => (if v9 = 0 then F_R_isSo_55     s10 else F_R_isSo_57    (x1) (x2) (x4) (x5) (x7) (x8) s10))))
def F_R_isSo (p1 : Int32) (p2 : Int32) (p3 : Int32) (p4 : Int32) (p5 : Int64) (p7 : Int32) (p8 : Int32) (s : zSt) : Option (Int32 × zSt) := (if zin p1 8400 then (if (((gA s 7 (p1).toNatClampNeg) ^^^ p3) &&& (p2 &&& (50 : Int32))) = 0 then (if (p2 &&& (3 : Int32)) ≤ 0 then F_R_isSo_38    (p1) (p2) (p4) (p5) (p7) (p8) s else (zb (F_R_has_0 (p1) ((64 : Int32)) s) (fun v11 s12 => (if v11 = 0 then F_R_isSo_38    (p1) (p2) (p4) (p5) (p7) (p8) s12 else F_R_isSo_55     s12)))) else some ((0 : Int32), s)) else none)
theorem zJ_R_isSo_123 {X : zkX} (y0 : Int32) (s : zSt) (r) (hF : F_R_isSo_123   y0 s = some r) : zk_W X 1 m_R_isSo (123, [], [.int y0], zHp s) (fun o => o = zoI r) := by
  unfold F_R_isSo_123 at hF
  obtain ⟨hz, hF⟩ := zf_g hF
  cases hF
  exact zi_zreturn rfl rfl hz rfl
theorem zJ_R_isSo_118 {X : zkX}  (s : zSt) (r) (hF : F_R_isSo_118    s = some r) : zk_W X 1 m_R_isSo (118, [], [], zHp s) (fun o => o = zoI r) := by
  unfold F_R_isSo_118 at hF
  refine zi_iconst (v := (1 : Int32)) rfl rfl ?_
  refine zi_goto rfl ?_
  exact zk_sb (zJ_R_isSo_123   _ _ _ hF) rfl trivial
theorem zJ_R_isSo_122 {X : zkX}  (s : zSt) (r) (hF : F_R_isSo_122    s = some r) : zk_W X 1 m_R_isSo (122, [], [], zHp s) (fun o => o = zoI r) := by
  unfold F_R_isSo_122 at hF
  refine zi_iconst (v := (0 : Int32)) rfl rfl ?_
  exact zk_sb (zJ_R_isSo_123   _ _ _ hF) rfl trivial
theorem zJ_R_isSo_98 {X : zkX} (x1 : Int32) (x2 : Int32) (x8 : Int32) (s : zSt) (r) (hF : F_R_isSo_98   x1 x2 x8 s = some r) : zk_W X 1 m_R_isSo (98, [(0, .ref 7), (1, .int x1), (2, .int x2), (8, .int x8)], [], zHp s) (fun o => o = zoI r) := by
  unfold F_R_isSo_98 at hF
  refine zi_iload_n rfl rfl ?_
  refine zi_bipush (v := (8 : Int32)) rfl rfl ?_
  obtain ⟨v5, s6, hm, hF⟩ := zf_b hF
  refine zi_callS rfl rfl rfl rfl (zk_C.to (zk_C.up (by decide) (zF_R_isTold hm)) (fun o ho => zk_K.okv ho ?_))
  refine zi_ifeq rfl (fun hc => ?_) (fun hc => ?_)
  · have hF := zf_p hc hF
    exact zk_sb (zJ_R_isSo_118    _ _ hF) rfl trivial
  · have hF := zf_n hc hF
    refine zi_aload_n rfl rfl ?_
    refine zi_getfield rfl rfl (zh_R _) rfl ?_
    refine zi_iload_n rfl rfl ?_
    obtain ⟨hb, hF⟩ := zf_g hF
    refine zi_iaload rfl (zr_A10 _ _) (zin_ok hb) ?_
    refine zi_iload rfl rfl ?_
    refine zi_icne rfl (fun hc => ?_) (fun hc => ?_)
    · have hF := zf_n hc hF
      exact zk_sb (zJ_R_isSo_122    _ _ hF) rfl trivial
    · have hF := zf_p hc hF
      exact zk_sb (zJ_R_isSo_118    _ _ hF) rfl trivial
theorem zJ_R_isSo_79 {X : zkX} (x1 : Int32) (x2 : Int32) (x7 : Int32) (x8 : Int32) (s : zSt) (r) (hF : F_R_isSo_79   x1 x2 x7 x8 s = some r) : zk_W X 1 m_R_isSo (79, [(0, .ref 7), (1, .int x1), (2, .int x2), (7, .int x7), (8, .int x8)], [], zHp s) (fun o => o = zoI r) := by
  unfold F_R_isSo_79 at hF
  refine zi_iload_n rfl rfl ?_
  refine zi_iconst (v := (4 : Int32)) rfl rfl ?_
  obtain ⟨v3, s4, hm, hF⟩ := zf_b hF
  refine zi_callS rfl rfl rfl rfl (zk_C.to (zk_C.up (by decide) (zF_R_isTold hm)) (fun o ho => zk_K.okv ho ?_))
  refine zi_ifeq rfl (fun hc => ?_) (fun hc => ?_)
  · have hF := zf_p hc hF
    exact zk_sb (zJ_R_isSo_98   _ _ _ _ _ hF) rfl ⟨rfl, rfl, rfl, rfl, trivial⟩
  · have hF := zf_n hc hF
    refine zi_aload_n rfl rfl ?_
    refine zi_getfield rfl rfl (zh_R _) rfl ?_
    refine zi_iload_n rfl rfl ?_
    obtain ⟨hb, hF⟩ := zf_g hF
    refine zi_iaload rfl (zr_A9 _ _) (zin_ok hb) ?_
    refine zi_iload rfl rfl ?_
    refine zi_icne rfl (fun hc => ?_) (fun hc => ?_)
    · have hF := zf_n hc hF
      exact zk_sb (zJ_R_isSo_122    _ _ hF) rfl trivial
    · have hF := zf_p hc hF
      exact zk_sb (zJ_R_isSo_98   _ _ _ _ _ hF) rfl ⟨rfl, rfl, rfl, rfl, trivial⟩
theorem zJ_R_isSo_57 {X : zkX} (x1 : Int32) (x2 : Int32) (x4 : Int32) (x5 : Int64) (x7 : Int32) (x8 : Int32) (s : zSt) (r) (hF : F_R_isSo_57   x1 x2 x4 x5 x7 x8 s = some r) : zk_W X 1 m_R_isSo (57, [(0, .ref 7), (1, .int x1), (2, .int x2), (4, .int x4), (5, .long x5), (7, .int x7), (8, .int x8)], [], zHp s) (fun o => o = zoI r) := by
  unfold F_R_isSo_57 at hF
  refine zi_iload_n rfl rfl ?_
  refine zi_iconst (v := (1 : Int32)) rfl rfl ?_
  obtain ⟨v1, s2, hm, hF⟩ := zf_b hF
  refine zi_callS rfl rfl rfl rfl (zk_C.to (zk_C.up (by decide) (zF_R_isTold hm)) (fun o ho => zk_K.okv ho ?_))
  refine zi_ifeq rfl (fun hc => ?_) (fun hc => ?_)
  · have hF := zf_p hc hF
    exact zk_sb (zJ_R_isSo_79   _ _ _ _ _ _ hF) rfl ⟨rfl, rfl, rfl, rfl, rfl, trivial⟩
  · have hF := zf_n hc hF
    refine zi_aload_n rfl rfl ?_
    refine zi_iload_n rfl rfl ?_
    refine zi_iload rfl rfl ?_
    refine zi_lload rfl rfl ?_
    obtain ⟨v7, s8, hm, hF⟩ := zf_b hF
    refine zi_callV rfl rfl rfl (zh_R _) rfl (zk_C.to (zk_C.up (by decide) (zF_R_isSame hm)) (fun o ho => zk_K.okv ho ?_))
    refine zi_ifne rfl (fun hc => ?_) (fun hc => ?_)
    · have hF := zf_n hc hF
      exact zk_sb (zJ_R_isSo_79   _ _ _ _ _ _ hF) rfl ⟨rfl, rfl, rfl, rfl, rfl, trivial⟩
    · have hF := zf_p hc hF
      refine zi_iconst (v := (0 : Int32)) rfl rfl ?_
      cases hF
      exact zi_zreturn rfl rfl rfl rfl
theorem zJ_R_isSo_55 {X : zkX}  (s : zSt) (r) (hF : F_R_isSo_55    s = some r) : zk_W X 1 m_R_isSo (55, [], [], zHp s) (fun o => o = zoI r) := by
  unfold F_R_isSo_55 at hF
  refine zi_iconst (v := (0 : Int32)) rfl rfl ?_
  cases hF
  exact zi_zreturn rfl rfl rfl rfl
theorem zJ_R_isSo_38 {X : zkX} (x1 : Int32) (x2 : Int32) (x4 : Int32) (x5 : Int64) (x7 : Int32) (x8 : Int32) (s : zSt) (r) (hF : F_R_isSo_38   x1 x2 x4 x5 x7 x8 s = some r) : zk_W X 1 m_R_isSo (38, [(0, .ref 7), (1, .int x1), (2, .int x2), (4, .int x4), (5, .long x5), (7, .int x7), (8, .int x8)], [], zHp s) (fun o => o = zoI r) := by
  unfold F_R_isSo_38 at hF
  refine zi_iload_n rfl rfl ?_
  refine zi_bipush (v := (12 : Int32)) rfl rfl ?_
  refine zi_iand rfl ?_
  refine zi_ifle rfl (fun hc => ?_) (fun hc => ?_)
  · have hF := zf_p hc hF
    exact zk_sb (zJ_R_isSo_57   _ _ _ _ _ _ _ _ hF) rfl ⟨rfl, rfl, rfl, rfl, rfl, rfl, rfl, trivial⟩
  · have hF := zf_n hc hF
    refine zi_aload_n rfl rfl ?_
    refine zi_iload_n rfl rfl ?_
    refine zi_bipush (v := (64 : Int32)) rfl rfl ?_
    obtain ⟨v9, s10, hm, hF⟩ := zf_b hF
    refine zi_callV rfl rfl rfl (zh_R _) rfl (zk_C.to (zk_C.up (by decide) (zF_R_has_0 hm)) (fun o ho => zk_K.okv ho ?_))
    refine zi_ifne rfl (fun hc => ?_) (fun hc => ?_)
    · have hF := zf_n hc hF
      exact zk_sb (zJ_R_isSo_57   _ _ _ _ _ _ _ _ hF) rfl ⟨rfl, rfl, rfl, rfl, rfl, rfl, rfl, trivial⟩
    · have hF := zf_p hc hF
      exact zk_sb (zJ_R_isSo_55    _ _ hF) rfl trivial
theorem zF_R_isSo {X : zkX} {p1 : Int32} {p2 : Int32} {p3 : Int32} {p4 : Int32} {p5 : Int64} {p7 : Int32} {p8 : Int32} {s : zSt} {r} (hF : F_R_isSo p1 p2 p3 p4 p5 p7 p8 s = some r) : zk_C X 2 m_R_isSo [.ref 7, .int p1, .int p2, .int p3, .int p4, .long p5, .int p7, .int p8] (zHp s) (fun o => o = zoI r) := by
  unfold F_R_isSo at hF
  refine zk_enter (lv := [(0, .ref 7), (1, .int p1), (2, .int p2), (3, .int p3), (4, .int p4), (5, .long p5), (7, .int p7), (8, .int p8)]) rfl rfl ?_
  refine zi_iload_n rfl rfl ?_
  refine zi_bipush (v := (50 : Int32)) rfl rfl ?_
  refine zi_iand rfl ?_
  refine zi_istore rfl rfl rfl ?_
  refine zi_aload_n rfl rfl ?_
  refine zi_getfield rfl rfl (zh_R _) rfl ?_
  refine zi_iload_n rfl rfl ?_
  obtain ⟨hb, hF⟩ := zf_g hF
  refine zi_iaload rfl (zr_A7 _ _) (zin_ok hb) ?_
  refine zi_iload_n rfl rfl ?_
  refine zi_ixor rfl ?_
  refine zi_iload rfl rfl ?_
  refine zi_iand rfl ?_
  refine zi_ifeq rfl (fun hc => ?_) (fun hc => ?_)
  · have hF := zf_p hc hF
    refine zi_iload_n rfl rfl ?_
    refine zi_iconst (v := (3 : Int32)) rfl rfl ?_
    refine zi_iand rfl ?_
    refine zi_ifle rfl (fun hc => ?_) (fun hc => ?_)
    · have hF := zf_p hc hF
      exact zk_sb (zJ_R_isSo_38   _ _ _ _ _ _ _ _ hF) rfl ⟨rfl, rfl, rfl, rfl, rfl, rfl, rfl, trivial⟩
    · have hF := zf_n hc hF
      refine zi_aload_n rfl rfl ?_
      refine zi_iload_n rfl rfl ?_
      refine zi_bipush (v := (64 : Int32)) rfl rfl ?_
      obtain ⟨v11, s12, hm, hF⟩ := zf_b hF
      refine zi_callV rfl rfl rfl (zh_R _) rfl (zk_C.to (zk_C.up (by decide) (zF_R_has_0 hm)) (fun o ho => zk_K.okv ho ?_))
      refine zi_ifne rfl (fun hc => ?_) (fun hc => ?_)
      · have hF := zf_n hc hF
        exact zk_sb (zJ_R_isSo_55    _ _ hF) rfl trivial
      · have hF := zf_p hc hF
        exact zk_sb (zJ_R_isSo_38   _ _ _ _ _ _ _ _ hF) rfl ⟨rfl, rfl, rfl, rfl, rfl, rfl, rfl, trivial⟩
  · have hF := zf_n hc hF
    refine zi_iconst (v := (0 : Int32)) rfl rfl ?_
    cases hF
    exact zi_zreturn rfl rfl rfl rfl
/-! m_R_resists -/
def F_R_resists_183 (y0 : Int32) (s : zSt) : Option (Int32 × zSt) := (if vp_nar .boolean y0 = y0 then some (y0, s) else none)
def F_R_resists_182  (s : zSt) : Option (Int32 × zSt) := F_R_resists_183    ((0 : Int32)) s
def F_R_resists_178  (s : zSt) : Option (Int32 × zSt) := F_R_resists_183    ((1 : Int32)) s
def F_R_resists_158 (x1 : Int32) (x2 : Int32) (x4 : Int32) (x5 : Int64) (s : zSt) : Option (Int32 × zSt) := (zb (F_R_isTold (x2) ((1 : Int32)) s) (fun v11 s12 => (if v11 = 0 then F_R_resists_182     s12 else (zb (F_R_isSame (x1) (x4) (x5) s12) (fun v13 s14 => (if v13 = 0 then F_R_resists_178     s14 else F_R_resists_182     s14))))))
def F_R_resists_130 (y0 : Int32) (s : zSt) : Option (Int32 × zSt) := (if vp_nar .boolean y0 = y0 then some (y0, s) else none)
def F_R_resists_129  (s : zSt) : Option (Int32 × zSt) := F_R_resists_130    ((0 : Int32)) s
def F_R_resists_125  (s : zSt) : Option (Int32 × zSt) := F_R_resists_130    ((1 : Int32)) s
def F_R_resists_105 (x1 : Int32) (x2 : Int32) (x8 : Int32) (s : zSt) : Option (Int32 × zSt) := (zb (F_R_isTold (x2) ((8 : Int32)) s) (fun v19 s20 => (if v19 = 0 then F_R_resists_129     s20 else (if zin x1 8400 then (if (gA s20 10 (x1).toNatClampNeg) = x8 then F_R_resists_129     s20 else F_R_resists_125     s20) else none))))
def F_R_resists_81 (x1 : Int32) (x2 : Int32) (x3 : Int32) (x4 : Int32) (x5 : Int64) (x7 : Int32) (x8 : Int32) (x9 : Int32) (s : zSt) : Option (Int32 × zSt) := (if x9 = 0 then (zb (F_R_has_0 (x1) ((2 : Int32)) s) (fun v7 s8 => (if v7 = 0 then (zb (F_R_isTold (x2) ((2 : Int32)) s8) (fun v9 s10 => (if v9 = 0 then F_R_resists_158    (x1) (x2) (x4) (x5) s10 else (zb (F_R_isTold (x3) ((2 : Int32)) s10) (fun v15 s16 => (if v15 = 0 then F_R_resists_158    (x1) (x2) (x4) (x5) s16 else F_R_resists_178     s16)))))) else some ((0 : Int32), s8)))) else (zb (F_R_isTold (x2) ((4 : Int32)) s) (fun v17 s18 => (if v17 = 0 then F_R_resists_105    (x1) (x2) (x8) s18 else (if zin x1 8400 then (if (gA s18 9 (x1).toNatClampNeg) = x7 then F_R_resists_105    (x1) (x2) (x8) s18 else F_R_resists_125     s18) else none)))))
def F_R_resists_79  (s : zSt) : Option (Int32 × zSt) := some ((1 : Int32), s)
def F_R_resists_67 (x1 : Int32) (x2 : Int32) (x3 : Int32) (x4 : Int32) (x5 : Int64) (x7 : Int32) (x8 : Int32) (x9 : Int32) (s : zSt) : Option (Int32 × zSt) := (if (x2 &&& (12 : Int32)) ≤ 0 then F_R_resists_81    (x1) (x2) (x3) (x4) (x5) (x7) (x8) (x9) s else (if x9 = 0 then F_R_resists_79     s else F_R_resists_81    (x1) (x2) (x3) (x4) (x5) (x7) (x8) (x9) s))
def F_R_resists_47 (x1 : Int32) (x2 : Int32) (x3 : Int32) (x4 : Int32) (x5 : Int64) (x7 : Int32) (x8 : Int32) (s : zSt) : Option (Int32 × zSt) := (zb (F_R_has_0 (x1) ((64 : Int32)) s) (fun v5 s6 => (if (x2 &&& (3 : Int32)) ≤ 0 then F_R_resists_67    (x1) (x2) (x3) (x4) (x5) (x7) (x8) (v5) s6 else (if v5 = 0 then F_R_resists_67    (x1) (x2) (x3) (x4) (x5) (x7) (x8) (v5) s6 else F_R_resists_79     s6))))
def F_R_resists_20 (x1 : Int32) (x2 : Int32) (x3 : Int32) (x4 : Int32) (x5 : Int64) (x7 : Int32) (x8 : Int32) (s : zSt) : Option (Int32 × zSt) := (zb (F_R_isTold (x2) ((16 : Int32)) s) (fun v3 s4 => (if v3 = 0 then F_R_resists_47    (x1) (x2) (x3) (x4) (x5) (x7) (x8) s4 else (zb (F_R_isTold (x3) ((16 : Int32)) s4) (fun v21 s22 => (zb (F_R_has_0 (x1) ((16 : Int32)) s22) (fun v23 s24 => (if v21 = v23 then F_R_resists_47    (x1) (x2) (x3) (x4) (x5) (x7) (x8) s24 else some ((1 : Int32), s24)))))))))
def F_R_resists (p1 : Int32) (p2 : Int32) (p3 : Int32) (p4 : Int32) (p5 : Int64) (p7 : Int32) (p8 : Int32) (s : zSt) : Option (Int32 × zSt) := (zb (F_R_isTold (p2) ((32 : Int32)) s) (fun v1 s2 => (if v1 = 0 then F_R_resists_20    (p1) (p2) (p3) (p4) (p5) (p7) (p8) s2 else (zb (F_R_isTold (p3) ((32 : Int32)) s2) (fun v25 s26 => (if v25 = 0 then F_R_resists_20    (p1) (p2) (p3) (p4) (p5) (p7) (p8) s26 else some ((1 : Int32), s26)))))))
theorem zJ_R_resists_183 {X : zkX} (y0 : Int32) (s : zSt) (r) (hF : F_R_resists_183   y0 s = some r) : zk_W X 1 m_R_resists (183, [], [.int y0], zHp s) (fun o => o = zoI r) := by
  unfold F_R_resists_183 at hF
  obtain ⟨hz, hF⟩ := zf_g hF
  cases hF
  exact zi_zreturn rfl rfl hz rfl
theorem zJ_R_resists_182 {X : zkX}  (s : zSt) (r) (hF : F_R_resists_182    s = some r) : zk_W X 1 m_R_resists (182, [], [], zHp s) (fun o => o = zoI r) := by
  unfold F_R_resists_182 at hF
  refine zi_iconst (v := (0 : Int32)) rfl rfl ?_
  exact zk_sb (zJ_R_resists_183   _ _ _ hF) rfl trivial
theorem zJ_R_resists_178 {X : zkX}  (s : zSt) (r) (hF : F_R_resists_178    s = some r) : zk_W X 1 m_R_resists (178, [], [], zHp s) (fun o => o = zoI r) := by
  unfold F_R_resists_178 at hF
  refine zi_iconst (v := (1 : Int32)) rfl rfl ?_
  refine zi_goto rfl ?_
  exact zk_sb (zJ_R_resists_183   _ _ _ hF) rfl trivial
theorem zJ_R_resists_158 {X : zkX} (x1 : Int32) (x2 : Int32) (x4 : Int32) (x5 : Int64) (s : zSt) (r) (hF : F_R_resists_158   x1 x2 x4 x5 s = some r) : zk_W X 1 m_R_resists (158, [(0, .ref 7), (1, .int x1), (2, .int x2), (4, .int x4), (5, .long x5)], [], zHp s) (fun o => o = zoI r) := by
  unfold F_R_resists_158 at hF
  refine zi_iload_n rfl rfl ?_
  refine zi_iconst (v := (1 : Int32)) rfl rfl ?_
  obtain ⟨v11, s12, hm, hF⟩ := zf_b hF
  refine zi_callS rfl rfl rfl rfl (zk_C.to (zk_C.up (by decide) (zF_R_isTold hm)) (fun o ho => zk_K.okv ho ?_))
  refine zi_ifeq rfl (fun hc => ?_) (fun hc => ?_)
  · have hF := zf_p hc hF
    exact zk_sb (zJ_R_resists_182    _ _ hF) rfl trivial
  · have hF := zf_n hc hF
    refine zi_aload_n rfl rfl ?_
    refine zi_iload_n rfl rfl ?_
    refine zi_iload rfl rfl ?_
    refine zi_lload rfl rfl ?_
    obtain ⟨v13, s14, hm, hF⟩ := zf_b hF
    refine zi_callV rfl rfl rfl (zh_R _) rfl (zk_C.to (zk_C.up (by decide) (zF_R_isSame hm)) (fun o ho => zk_K.okv ho ?_))
    refine zi_ifne rfl (fun hc => ?_) (fun hc => ?_)
    · have hF := zf_n hc hF
      exact zk_sb (zJ_R_resists_182    _ _ hF) rfl trivial
    · have hF := zf_p hc hF
      exact zk_sb (zJ_R_resists_178    _ _ hF) rfl trivial
theorem zJ_R_resists_130 {X : zkX} (y0 : Int32) (s : zSt) (r) (hF : F_R_resists_130   y0 s = some r) : zk_W X 1 m_R_resists (130, [], [.int y0], zHp s) (fun o => o = zoI r) := by
  unfold F_R_resists_130 at hF
  obtain ⟨hz, hF⟩ := zf_g hF
  cases hF
  exact zi_zreturn rfl rfl hz rfl
theorem zJ_R_resists_129 {X : zkX}  (s : zSt) (r) (hF : F_R_resists_129    s = some r) : zk_W X 1 m_R_resists (129, [], [], zHp s) (fun o => o = zoI r) := by
  unfold F_R_resists_129 at hF
  refine zi_iconst (v := (0 : Int32)) rfl rfl ?_
  exact zk_sb (zJ_R_resists_130   _ _ _ hF) rfl trivial
theorem zJ_R_resists_125 {X : zkX}  (s : zSt) (r) (hF : F_R_resists_125    s = some r) : zk_W X 1 m_R_resists (125, [], [], zHp s) (fun o => o = zoI r) := by
  unfold F_R_resists_125 at hF
  refine zi_iconst (v := (1 : Int32)) rfl rfl ?_
  refine zi_goto rfl ?_
  exact zk_sb (zJ_R_resists_130   _ _ _ hF) rfl trivial
theorem zJ_R_resists_105 {X : zkX} (x1 : Int32) (x2 : Int32) (x8 : Int32) (s : zSt) (r) (hF : F_R_resists_105   x1 x2 x8 s = some r) : zk_W X 1 m_R_resists (105, [(0, .ref 7), (1, .int x1), (2, .int x2), (8, .int x8)], [], zHp s) (fun o => o = zoI r) := by
  unfold F_R_resists_105 at hF
  refine zi_iload_n rfl rfl ?_
  refine zi_bipush (v := (8 : Int32)) rfl rfl ?_
  obtain ⟨v19, s20, hm, hF⟩ := zf_b hF
  refine zi_callS rfl rfl rfl rfl (zk_C.to (zk_C.up (by decide) (zF_R_isTold hm)) (fun o ho => zk_K.okv ho ?_))
  refine zi_ifeq rfl (fun hc => ?_) (fun hc => ?_)
  · have hF := zf_p hc hF
    exact zk_sb (zJ_R_resists_129    _ _ hF) rfl trivial
  · have hF := zf_n hc hF
    refine zi_aload_n rfl rfl ?_
    refine zi_getfield rfl rfl (zh_R _) rfl ?_
    refine zi_iload_n rfl rfl ?_
    obtain ⟨hb, hF⟩ := zf_g hF
    refine zi_iaload rfl (zr_A10 _ _) (zin_ok hb) ?_
    refine zi_iload rfl rfl ?_
    refine zi_iceq rfl (fun hc => ?_) (fun hc => ?_)
    · have hF := zf_p hc hF
      exact zk_sb (zJ_R_resists_129    _ _ hF) rfl trivial
    · have hF := zf_n hc hF
      exact zk_sb (zJ_R_resists_125    _ _ hF) rfl trivial
theorem zJ_R_resists_81 {X : zkX} (x1 : Int32) (x2 : Int32) (x3 : Int32) (x4 : Int32) (x5 : Int64) (x7 : Int32) (x8 : Int32) (x9 : Int32) (s : zSt) (r) (hF : F_R_resists_81   x1 x2 x3 x4 x5 x7 x8 x9 s = some r) : zk_W X 1 m_R_resists (81, [(0, .ref 7), (1, .int x1), (2, .int x2), (3, .int x3), (4, .int x4), (5, .long x5), (7, .int x7), (8, .int x8), (9, .int x9)], [], zHp s) (fun o => o = zoI r) := by
  unfold F_R_resists_81 at hF
  refine zi_iload rfl rfl ?_
  refine zi_ifeq rfl (fun hc => ?_) (fun hc => ?_)
  · have hF := zf_p hc hF
    refine zi_aload_n rfl rfl ?_
    refine zi_iload_n rfl rfl ?_
    refine zi_iconst (v := (2 : Int32)) rfl rfl ?_
    obtain ⟨v7, s8, hm, hF⟩ := zf_b hF
    refine zi_callV rfl rfl rfl (zh_R _) rfl (zk_C.to (zk_C.up (by decide) (zF_R_has_0 hm)) (fun o ho => zk_K.okv ho ?_))
    refine zi_ifeq rfl (fun hc => ?_) (fun hc => ?_)
    · have hF := zf_p hc hF
      refine zi_iload_n rfl rfl ?_
      refine zi_iconst (v := (2 : Int32)) rfl rfl ?_
      obtain ⟨v9, s10, hm, hF⟩ := zf_b hF
      refine zi_callS rfl rfl rfl rfl (zk_C.to (zk_C.up (by decide) (zF_R_isTold hm)) (fun o ho => zk_K.okv ho ?_))
      refine zi_ifeq rfl (fun hc => ?_) (fun hc => ?_)
      · have hF := zf_p hc hF
        exact zk_sb (zJ_R_resists_158   _ _ _ _ _ _ hF) rfl ⟨rfl, rfl, rfl, rfl, rfl, trivial⟩
      · have hF := zf_n hc hF
        refine zi_iload_n rfl rfl ?_
        refine zi_iconst (v := (2 : Int32)) rfl rfl ?_
        obtain ⟨v15, s16, hm, hF⟩ := zf_b hF
        refine zi_callS rfl rfl rfl rfl (zk_C.to (zk_C.up (by decide) (zF_R_isTold hm)) (fun o ho => zk_K.okv ho ?_))
        refine zi_ifne rfl (fun hc => ?_) (fun hc => ?_)
        · have hF := zf_n hc hF
          exact zk_sb (zJ_R_resists_178    _ _ hF) rfl trivial
        · have hF := zf_p hc hF
          exact zk_sb (zJ_R_resists_158   _ _ _ _ _ _ hF) rfl ⟨rfl, rfl, rfl, rfl, rfl, trivial⟩
    · have hF := zf_n hc hF
      refine zi_iconst (v := (0 : Int32)) rfl rfl ?_
      cases hF
      exact zi_zreturn rfl rfl rfl rfl
  · have hF := zf_n hc hF
    refine zi_iload_n rfl rfl ?_
    refine zi_iconst (v := (4 : Int32)) rfl rfl ?_
    obtain ⟨v17, s18, hm, hF⟩ := zf_b hF
    refine zi_callS rfl rfl rfl rfl (zk_C.to (zk_C.up (by decide) (zF_R_isTold hm)) (fun o ho => zk_K.okv ho ?_))
    refine zi_ifeq rfl (fun hc => ?_) (fun hc => ?_)
    · have hF := zf_p hc hF
      exact zk_sb (zJ_R_resists_105   _ _ _ _ _ hF) rfl ⟨rfl, rfl, rfl, rfl, trivial⟩
    · have hF := zf_n hc hF
      refine zi_aload_n rfl rfl ?_
      refine zi_getfield rfl rfl (zh_R _) rfl ?_
      refine zi_iload_n rfl rfl ?_
      obtain ⟨hb, hF⟩ := zf_g hF
      refine zi_iaload rfl (zr_A9 _ _) (zin_ok hb) ?_
      refine zi_iload rfl rfl ?_
      refine zi_icne rfl (fun hc => ?_) (fun hc => ?_)
      · have hF := zf_n hc hF
        exact zk_sb (zJ_R_resists_125    _ _ hF) rfl trivial
      · have hF := zf_p hc hF
        exact zk_sb (zJ_R_resists_105   _ _ _ _ _ hF) rfl ⟨rfl, rfl, rfl, rfl, trivial⟩
theorem zJ_R_resists_79 {X : zkX}  (s : zSt) (r) (hF : F_R_resists_79    s = some r) : zk_W X 1 m_R_resists (79, [], [], zHp s) (fun o => o = zoI r) := by
  unfold F_R_resists_79 at hF
  refine zi_iconst (v := (1 : Int32)) rfl rfl ?_
  cases hF
  exact zi_zreturn rfl rfl rfl rfl
theorem zJ_R_resists_67 {X : zkX} (x1 : Int32) (x2 : Int32) (x3 : Int32) (x4 : Int32) (x5 : Int64) (x7 : Int32) (x8 : Int32) (x9 : Int32) (s : zSt) (r) (hF : F_R_resists_67   x1 x2 x3 x4 x5 x7 x8 x9 s = some r) : zk_W X 1 m_R_resists (67, [(0, .ref 7), (1, .int x1), (2, .int x2), (3, .int x3), (4, .int x4), (5, .long x5), (7, .int x7), (8, .int x8), (9, .int x9)], [], zHp s) (fun o => o = zoI r) := by
  unfold F_R_resists_67 at hF
  refine zi_iload_n rfl rfl ?_
  refine zi_bipush (v := (12 : Int32)) rfl rfl ?_
  refine zi_iand rfl ?_
  refine zi_ifle rfl (fun hc => ?_) (fun hc => ?_)
  · have hF := zf_p hc hF
    exact zk_sb (zJ_R_resists_81   _ _ _ _ _ _ _ _ _ _ hF) rfl ⟨rfl, rfl, rfl, rfl, rfl, rfl, rfl, rfl, rfl, trivial⟩
  · have hF := zf_n hc hF
    refine zi_iload rfl rfl ?_
    refine zi_ifne rfl (fun hc => ?_) (fun hc => ?_)
    · have hF := zf_n hc hF
      exact zk_sb (zJ_R_resists_81   _ _ _ _ _ _ _ _ _ _ hF) rfl ⟨rfl, rfl, rfl, rfl, rfl, rfl, rfl, rfl, rfl, trivial⟩
    · have hF := zf_p hc hF
      exact zk_sb (zJ_R_resists_79    _ _ hF) rfl trivial
theorem zJ_R_resists_47 {X : zkX} (x1 : Int32) (x2 : Int32) (x3 : Int32) (x4 : Int32) (x5 : Int64) (x7 : Int32) (x8 : Int32) (s : zSt) (r) (hF : F_R_resists_47   x1 x2 x3 x4 x5 x7 x8 s = some r) : zk_W X 1 m_R_resists (47, [(0, .ref 7), (1, .int x1), (2, .int x2), (3, .int x3), (4, .int x4), (5, .long x5), (7, .int x7), (8, .int x8)], [], zHp s) (fun o => o = zoI r) := by
  unfold F_R_resists_47 at hF
  refine zi_aload_n rfl rfl ?_
  refine zi_iload_n rfl rfl ?_
  refine zi_bipush (v := (64 : Int32)) rfl rfl ?_
  obtain ⟨v5, s6, hm, hF⟩ := zf_b hF
  refine zi_callV rfl rfl rfl (zh_R _) rfl (zk_C.to (zk_C.up (by decide) (zF_R_has_0 hm)) (fun o ho => zk_K.okv ho ?_))
  refine zi_istore rfl rfl rfl ?_
  refine zi_iload_n rfl rfl ?_
  refine zi_iconst (v := (3 : Int32)) rfl rfl ?_
  refine zi_iand rfl ?_
  refine zi_ifle rfl (fun hc => ?_) (fun hc => ?_)
  · have hF := zf_p hc hF
    exact zk_sb (zJ_R_resists_67   _ _ _ _ _ _ _ _ _ _ hF) rfl ⟨rfl, rfl, rfl, rfl, rfl, rfl, rfl, rfl, rfl, trivial⟩
  · have hF := zf_n hc hF
    refine zi_iload rfl rfl ?_
    refine zi_ifne rfl (fun hc => ?_) (fun hc => ?_)
    · have hF := zf_n hc hF
      exact zk_sb (zJ_R_resists_79    _ _ hF) rfl trivial
    · have hF := zf_p hc hF
      exact zk_sb (zJ_R_resists_67   _ _ _ _ _ _ _ _ _ _ hF) rfl ⟨rfl, rfl, rfl, rfl, rfl, rfl, rfl, rfl, rfl, trivial⟩
theorem zJ_R_resists_20 {X : zkX} (x1 : Int32) (x2 : Int32) (x3 : Int32) (x4 : Int32) (x5 : Int64) (x7 : Int32) (x8 : Int32) (s : zSt) (r) (hF : F_R_resists_20   x1 x2 x3 x4 x5 x7 x8 s = some r) : zk_W X 1 m_R_resists (20, [(0, .ref 7), (1, .int x1), (2, .int x2), (3, .int x3), (4, .int x4), (5, .long x5), (7, .int x7), (8, .int x8)], [], zHp s) (fun o => o = zoI r) := by
  unfold F_R_resists_20 at hF
  refine zi_iload_n rfl rfl ?_
  refine zi_bipush (v := (16 : Int32)) rfl rfl ?_
  obtain ⟨v3, s4, hm, hF⟩ := zf_b hF
  refine zi_callS rfl rfl rfl rfl (zk_C.to (zk_C.up (by decide) (zF_R_isTold hm)) (fun o ho => zk_K.okv ho ?_))
  refine zi_ifeq rfl (fun hc => ?_) (fun hc => ?_)
  · have hF := zf_p hc hF
    exact zk_sb (zJ_R_resists_47   _ _ _ _ _ _ _ _ _ hF) rfl ⟨rfl, rfl, rfl, rfl, rfl, rfl, rfl, rfl, trivial⟩
  · have hF := zf_n hc hF
    refine zi_iload_n rfl rfl ?_
    refine zi_bipush (v := (16 : Int32)) rfl rfl ?_
    obtain ⟨v21, s22, hm, hF⟩ := zf_b hF
    refine zi_callS rfl rfl rfl rfl (zk_C.to (zk_C.up (by decide) (zF_R_isTold hm)) (fun o ho => zk_K.okv ho ?_))
    refine zi_aload_n rfl rfl ?_
    refine zi_iload_n rfl rfl ?_
    refine zi_bipush (v := (16 : Int32)) rfl rfl ?_
    obtain ⟨v23, s24, hm, hF⟩ := zf_b hF
    refine zi_callV rfl rfl rfl (zh_R _) rfl (zk_C.to (zk_C.up (by decide) (zF_R_has_0 hm)) (fun o ho => zk_K.okv ho ?_))
    refine zi_iceq rfl (fun hc => ?_) (fun hc => ?_)
    · have hF := zf_p hc hF
      exact zk_sb (zJ_R_resists_47   _ _ _ _ _ _ _ _ _ hF) rfl ⟨rfl, rfl, rfl, rfl, rfl, rfl, rfl, rfl, trivial⟩
    · have hF := zf_n hc hF
      refine zi_iconst (v := (1 : Int32)) rfl rfl ?_
      cases hF
      exact zi_zreturn rfl rfl rfl rfl
theorem zF_R_resists {X : zkX} {p1 : Int32} {p2 : Int32} {p3 : Int32} {p4 : Int32} {p5 : Int64} {p7 : Int32} {p8 : Int32} {s : zSt} {r} (hF : F_R_resists p1 p2 p3 p4 p5 p7 p8 s = some r) : zk_C X 2 m_R_resists [.ref 7, .int p1, .int p2, .int p3, .int p4, .long p5, .int p7, .int p8] (zHp s) (fun o => o = zoI r) := by
  unfold F_R_resists at hF
  refine zk_enter (lv := [(0, .ref 7), (1, .int p1), (2, .int p2), (3, .int p3), (4, .int p4), (5, .long p5), (7, .int p7), (8, .int p8)]) rfl rfl ?_
  refine zi_iload_n rfl rfl ?_
  refine zi_bipush (v := (32 : Int32)) rfl rfl ?_
  obtain ⟨v1, s2, hm, hF⟩ := zf_b hF
  refine zi_callS rfl rfl rfl rfl (zk_C.to (zk_C.up (by decide) (zF_R_isTold hm)) (fun o ho => zk_K.okv ho ?_))
  refine zi_ifeq rfl (fun hc => ?_) (fun hc => ?_)
  · have hF := zf_p hc hF
    exact zk_sb (zJ_R_resists_20   _ _ _ _ _ _ _ _ _ hF) rfl ⟨rfl, rfl, rfl, rfl, rfl, rfl, rfl, rfl, trivial⟩
  · have hF := zf_n hc hF
    refine zi_iload_n rfl rfl ?_
    refine zi_bipush (v := (32 : Int32)) rfl rfl ?_
    obtain ⟨v25, s26, hm, hF⟩ := zf_b hF
    refine zi_callS rfl rfl rfl rfl (zk_C.to (zk_C.up (by decide) (zF_R_isTold hm)) (fun o ho => zk_K.okv ho ?_))
    refine zi_ifeq rfl (fun hc => ?_) (fun hc => ?_)
    · have hF := zf_p hc hF
      exact zk_sb (zJ_R_resists_20   _ _ _ _ _ _ _ _ _ hF) rfl ⟨rfl, rfl, rfl, rfl, rfl, rfl, rfl, rfl, trivial⟩
    · have hF := zf_n hc hF
      refine zi_iconst (v := (1 : Int32)) rfl rfl ?_
      cases hF
      exact zi_zreturn rfl rfl rfl rfl
/-! m_R_put_0 -/
def F_R_put_0_30 (y0 : Int32) (y1 : Int32) (s : zSt) : Option (Unit × zSt) := (if zin y1 8400 then some ((), (sA s 7 (upd (gA s 7) (y1).toNatClampNeg y0))) else none)
def F_R_put_0 (p1 : Int32) (p2 : Int32) (p3 : Int32) (s : zSt) : Option (Unit × zSt) := (if p3 = 0 then (if zin p1 8400 then F_R_put_0_30    (((gA s 7 (p1).toNatClampNeg) &&& (p2 ^^^ (-1 : Int32)))) (p1) s else none) else (if zin p1 8400 then F_R_put_0_30    (((gA s 7 (p1).toNatClampNeg) ||| p2)) (p1) s else none))
theorem zJ_R_put_0_30 {X : zkX} (y0 : Int32) (y1 : Int32) (s : zSt) (r) (hF : F_R_put_0_30   y0 y1 s = some r) : zk_W X 0 m_R_put_0 (30, [], [.int y0, .int y1, .ref 15], zHp s) (fun o => o = zoU r) := by
  unfold F_R_put_0_30 at hF
  obtain ⟨hb, hF⟩ := zf_g hF
  refine zi_iastore rfl (zh_A7 _) (zin_ok hb) (zs_A7 _ _) ?_
  cases hF
  exact zi_return rfl rfl rfl
theorem zF_R_put_0 {X : zkX} {p1 : Int32} {p2 : Int32} {p3 : Int32} {s : zSt} {r} (hF : F_R_put_0 p1 p2 p3 s = some r) : zk_C X 1 m_R_put_0 [.ref 7, .int p1, .int p2, .int p3] (zHp s) (fun o => o = zoU r) := by
  unfold F_R_put_0 at hF
  refine zk_enter (lv := [(0, .ref 7), (1, .int p1), (2, .int p2), (3, .int p3)]) rfl rfl ?_
  refine zi_aload_n rfl rfl ?_
  refine zi_getfield rfl rfl (zh_R _) rfl ?_
  refine zi_iload_n rfl rfl ?_
  refine zi_iload_n rfl rfl ?_
  refine zi_ifeq rfl (fun hc => ?_) (fun hc => ?_)
  · have hF := zf_p hc hF
    refine zi_aload_n rfl rfl ?_
    refine zi_getfield rfl rfl (zh_R _) rfl ?_
    refine zi_iload_n rfl rfl ?_
    obtain ⟨hb, hF⟩ := zf_g hF
    refine zi_iaload rfl (zr_A7 _ _) (zin_ok hb) ?_
    refine zi_iload_n rfl rfl ?_
    refine zi_iconst (v := (-1 : Int32)) rfl rfl ?_
    refine zi_ixor rfl ?_
    refine zi_iand rfl ?_
    exact zk_sb (zJ_R_put_0_30   _ _ _ _ hF) rfl trivial
  · have hF := zf_n hc hF
    refine zi_aload_n rfl rfl ?_
    refine zi_getfield rfl rfl (zh_R _) rfl ?_
    refine zi_iload_n rfl rfl ?_
    obtain ⟨hb, hF⟩ := zf_g hF
    refine zi_iaload rfl (zr_A7 _ _) (zin_ok hb) ?_
    refine zi_iload_n rfl rfl ?_
    refine zi_ior rfl ?_
    refine zi_goto rfl ?_
    exact zk_sb (zJ_R_put_0_30   _ _ _ _ hF) rfl trivial
/-! m_R_defineAny -/
def F_R_defineAny_382  (s : zSt) : Option (Int32 × zSt) := some ((0 : Int32), s)
def F_R_defineAny_363 (x4 : Int32) (x11 : Int32) (x12 : Int32) (s : zSt) : Option (Int32 × zSt) := (zb (F_R_isTold (x4) ((8 : Int32)) s) (fun v19 s20 => (if v19 = 0 then F_R_defineAny_382     s20 else (if zin x12 8400 then F_R_defineAny_382     (sA s20 10 (upd (gA s20 10) (x12).toNatClampNeg x11)) else none))))
def F_R_defineAny_345 (x4 : Int32) (x10 : Int32) (x11 : Int32) (x12 : Int32) (s : zSt) : Option (Int32 × zSt) := (zb (F_R_isTold (x4) ((4 : Int32)) s) (fun v17 s18 => (if v17 = 0 then F_R_defineAny_363    (x4) (x11) (x12) s18 else (if zin x12 8400 then F_R_defineAny_363    (x4) (x11) (x12) (sA s18 9 (upd (gA s18 9) (x12).toNatClampNeg x10)) else none))))
def F_R_defineAny_320 (x4 : Int32) (x5 : Int32) (x10 : Int32) (x11 : Int32) (x12 : Int32) (s : zSt) : Option (Int32 × zSt) := (zb (F_R_isTold (x4) ((32 : Int32)) s) (fun v15 s16 => (if v15 = 0 then F_R_defineAny_345    (x4) (x10) (x11) (x12) s16 else (zb (F_R_isTold (x5) ((32 : Int32)) s16) (fun v21 s22 => (zb (F_R_put_0 (x12) ((32 : Int32)) (v21) s22) (fun v23 s24 => F_R_defineAny_345    (x4) (x10) (x11) (x12) s24)))))))
def F_R_defineAny_295 (x4 : Int32) (x5 : Int32) (x10 : Int32) (x11 : Int32) (x12 : Int32) (s : zSt) : Option (Int32 × zSt) := (zb (F_R_isTold (x4) ((16 : Int32)) s) (fun v13 s14 => (if v13 = 0 then F_R_defineAny_320    (x4) (x5) (x10) (x11) (x12) s14 else (zb (F_R_isTold (x5) ((16 : Int32)) s14) (fun v25 s26 => (zb (F_R_put_0 (x12) ((16 : Int32)) (v25) s26) (fun v27 s28 => F_R_defineAny_320    (x4) (x5) (x10) (x11) (x12) s28)))))))
def F_R_defineAny_273 (x4 : Int32) (x5 : Int32) (x10 : Int32) (x11 : Int32) (x12 : Int32) (s : zSt) : Option (Int32 × zSt) := (zb (F_R_isTold (x4) ((2 : Int32)) s) (fun v11 s12 => (if v11 = 0 then F_R_defineAny_295    (x4) (x5) (x10) (x11) (x12) s12 else (zb (F_R_isTold (x5) ((2 : Int32)) s12) (fun v29 s30 => (zb (F_R_put_0 (x12) ((2 : Int32)) (v29) s30) (fun v31 s32 => F_R_defineAny_295    (x4) (x5) (x10) (x11) (x12) s32)))))))
def F_R_defineAny_255 (x4 : Int32) (x5 : Int32) (x7 : Int64) (x10 : Int32) (x11 : Int32) (x12 : Int32) (s : zSt) : Option (Int32 × zSt) := (zb (F_R_isTold (x4) ((1 : Int32)) s) (fun v9 s10 => (if v9 = 0 then F_R_defineAny_273    (x4) (x5) (x10) (x11) (x12) s10 else (if zin x12 8400 then F_R_defineAny_273    (x4) (x5) (x10) (x11) (x12) (sB s10 2 (vp_updL (gB s10 2) (x12).toNatClampNeg x7)) else none))))
def F_R_defineAny_237 (x4 : Int32) (x5 : Int32) (x6 : Int32) (x7 : Int64) (x10 : Int32) (x11 : Int32) (x12 : Int32) (s : zSt) : Option (Int32 × zSt) := (zb (F_R_isTold (x4) ((1 : Int32)) s) (fun v7 s8 => (if v7 = 0 then F_R_defineAny_255    (x4) (x5) (x7) (x10) (x11) (x12) s8 else (if zin x12 8400 then F_R_defineAny_255    (x4) (x5) (x7) (x10) (x11) (x12) (sA s8 8 (upd (gA s8 8) (x12).toNatClampNeg x6)) else none))))
def F_R_defineAny_194 (x4 : Int32) (x5 : Int32) (x6 : Int32) (x7 : Int64) (x10 : Int32) (x11 : Int32) (x12 : Int32) (y0 : Int32) (y1 : Int32) (y2 : Int32) (s : zSt) : Option (Int32 × zSt) := (zb (F_R_put_0 (y2) (y1) (y0) s) (fun v35 s36 => (zb (F_R_put_0 (x12) ((2 : Int32)) ((0 : Int32)) s36) (fun v37 s38 => (if zin x12 8400 then (if zin x12 8400 then (if zin x12 8400 then (if zin x12 8400 then F_R_defineAny_237    (x4) (x5) (x6) (x7) (x10) (x11) (x12) (sA (sA (sB (sA s38 8 (upd (gA s38 8) (x12).toNatClampNeg (0 : Int32))) 2 (vp_updL (gB (sA s38 8 (upd (gA s38 8) (x12).toNatClampNeg (0 : Int32))) 2) (x12).toNatClampNeg (0 : Int64))) 9 (upd (gA (sB (sA s38 8 (upd (gA s38 8) (x12).toNatClampNeg (0 : Int32))) 2 (vp_updL (gB (sA s38 8 (upd (gA s38 8) (x12).toNatClampNeg (0 : Int32))) 2) (x12).toNatClampNeg (0 : Int64))) 9) (x12).toNatClampNeg (0 : Int32))) 10 (upd (gA (sA (sB (sA s38 8 (upd (gA s38 8) (x12).toNatClampNeg (0 : Int32))) 2 (vp_updL (gB (sA s38 8 (upd (gA s38 8) (x12).toNatClampNeg (0 : Int32))) 2) (x12).toNatClampNeg (0 : Int64))) 9 (upd (gA (sB (sA s38 8 (upd (gA s38 8) (x12).toNatClampNeg (0 : Int32))) 2 (vp_updL (gB (sA s38 8 (upd (gA s38 8) (x12).toNatClampNeg (0 : Int32))) 2) (x12).toNatClampNeg (0 : Int64))) 9) (x12).toNatClampNeg (0 : Int32))) 10) (x12).toNatClampNeg (0 : Int32))) else none) else none) else none) else none)))))
def F_R_defineAny_166 (x4 : Int32) (x5 : Int32) (x6 : Int32) (x7 : Int64) (x10 : Int32) (x11 : Int32) (x12 : Int32) (y0 : Int32) (s : zSt) : Option (Int32 × zSt) := (if y0 = 0 then F_R_defineAny_237    (x4) (x5) (x6) (x7) (x10) (x11) (x12) s else (zb (F_R_has_0 (x12) ((64 : Int32)) s) (fun v33 s34 => (if v33 = 0 then F_R_defineAny_194    (x4) (x5) (x6) (x7) (x10) (x11) (x12) ((1 : Int32)) ((64 : Int32)) (x12) s34 else F_R_defineAny_194    (x4) (x5) (x6) (x7) (x10) (x11) (x12) ((0 : Int32)) ((64 : Int32)) (x12) s34))))
def F_R_defineAny_165 (x4 : Int32) (x5 : Int32) (x6 : Int32) (x7 : Int64) (x10 : Int32) (x11 : Int32) (x12 : Int32) (s : zSt) : Option (Int32 × zSt) := F_R_defineAny_166    (x4) (x5) (x6) (x7) (x10) (x11) (x12) ((0 : Int32)) s
def F_R_defineAny_161 (x4 : Int32) (x5 : Int32) (x6 : Int32) (x7 : Int64) (x10 : Int32) (x11 : Int32) (x12 : Int32) (s : zSt) : Option (Int32 × zSt) := F_R_defineAny_166    (x4) (x5) (x6) (x7) (x10) (x11) (x12) ((1 : Int32)) s
def F_R_defineAny_142 (x4 : Int32) (x5 : Int32) (x6 : Int32) (x7 : Int64) (x10 : Int32) (x11 : Int32) (x12 : Int32) (s : zSt) : Option (Int32 × zSt) := (if (x4 &&& (12 : Int32)) ≤ 0 then F_R_defineAny_165    (x4) (x5) (x6) (x7) (x10) (x11) (x12) s else (zb (F_R_has_0 (x12) ((64 : Int32)) s) (fun v39 s40 => (if v39 = 0 then F_R_defineAny_161    (x4) (x5) (x6) (x7) (x10) (x11) (x12) s40 else F_R_defineAny_165    (x4) (x5) (x6) (x7) (x10) (x11) (x12) s40))))
def F_R_defineAny_124 (x4 : Int32) (x5 : Int32) (x6 : Int32) (x7 : Int64) (x10 : Int32) (x11 : Int32) (x12 : Int32) (s : zSt) : Option (Int32 × zSt) := (if (x4 &&& (3 : Int32)) ≤ 0 then F_R_defineAny_142    (x4) (x5) (x6) (x7) (x10) (x11) (x12) s else (zb (F_R_has_0 (x12) ((64 : Int32)) s) (fun v41 s42 => (if v41 = 0 then F_R_defineAny_142    (x4) (x5) (x6) (x7) (x10) (x11) (x12) s42 else F_R_defineAny_161    (x4) (x5) (x6) (x7) (x10) (x11) (x12) s42))))
def F_R_defineAny_57 (x4 : Int32) (x5 : Int32) (x6 : Int32) (x7 : Int64) (x10 : Int32) (x11 : Int32) (y0 : Int32) (y1 : Int64) (y2 : Int32) (s : zSt) : Option (Int32 × zSt) := (zb (F_R_add (y2) (y1) (y0) ((0 : Int32)) ((0 : Int64)) s) (fun v45 s46 => F_R_defineAny_237    (x4) (x5) (x6) (x7) (x10) (x11) (v45) s46))
def F_R_defineAny (p1 : Int32) (p2 : Int64) (p4 : Int32) (p5 : Int32) (p6 : Int32) (p7 : Int64) (p9 : Int32) (s : zSt) : Option (Int32 × zSt) := (zb (F_R_find (p1) (p2) s) (fun v1 s2 => (if 0 ≤ v1 then (zb (F_R_isSo (v1) (p4) (p5) (p6) (p7) ((p9 / (4200 : Int32))) ((p9 - p9 / (4200 : Int32) * (4200 : Int32))) s2) (fun v3 s4 => (if v3 = 0 then (zb (F_R_has_0 (v1) ((32 : Int32)) s4) (fun v5 s6 => (if v5 = 0 then (zb (F_R_resists (v1) (p4) (p5) (p6) (p7) ((p9 / (4200 : Int32))) ((p9 - p9 / (4200 : Int32) * (4200 : Int32))) s6) (fun v43 s44 => (if v43 = 0 then F_R_defineAny_124    (p4) (p5) (p6) (p7) ((p9 / (4200 : Int32))) ((p9 - p9 / (4200 : Int32) * (4200 : Int32))) (v1) s44 else some ((2 : Int32), s44)))) else F_R_defineAny_124    (p4) (p5) (p6) (p7) ((p9 / (4200 : Int32))) ((p9 - p9 / (4200 : Int32) * (4200 : Int32))) (v1) s6))) else some ((0 : Int32), s4)))) else (if zin p1 4200 then (if (gA s2 4 (p1).toNatClampNeg) = 0 then (if (p4 &&& (12 : Int32)) ≤ 0 then F_R_defineAny_57    (p4) (p5) (p6) (p7) ((p9 / (4200 : Int32))) ((p9 - p9 / (4200 : Int32) * (4200 : Int32))) ((0 : Int32)) (p2) (p1) s2 else F_R_defineAny_57    (p4) (p5) (p6) (p7) ((p9 / (4200 : Int32))) ((p9 - p9 / (4200 : Int32) * (4200 : Int32))) ((64 : Int32)) (p2) (p1) s2) else some ((2 : Int32), s2)) else none))))
theorem zJ_R_defineAny_382 {X : zkX}  (s : zSt) (r) (hF : F_R_defineAny_382    s = some r) : zk_W X 2 m_R_defineAny (382, [], [], zHp s) (fun o => o = zoI r) := by
  unfold F_R_defineAny_382 at hF
  refine zi_iconst (v := (0 : Int32)) rfl rfl ?_
  cases hF
  exact zi_ireturn rfl rfl rfl
theorem zJ_R_defineAny_363 {X : zkX} (x4 : Int32) (x11 : Int32) (x12 : Int32) (s : zSt) (r) (hF : F_R_defineAny_363   x4 x11 x12 s = some r) : zk_W X 2 m_R_defineAny (363, [(0, .ref 7), (4, .int x4), (11, .int x11), (12, .int x12)], [], zHp s) (fun o => o = zoI r) := by
  unfold F_R_defineAny_363 at hF
  refine zi_iload rfl rfl ?_
  refine zi_bipush (v := (8 : Int32)) rfl rfl ?_
  obtain ⟨v19, s20, hm, hF⟩ := zf_b hF
  refine zi_callS rfl rfl rfl rfl (zk_C.to (zk_C.up (by decide) (zF_R_isTold hm)) (fun o ho => zk_K.okv ho ?_))
  refine zi_ifeq rfl (fun hc => ?_) (fun hc => ?_)
  · have hF := zf_p hc hF
    exact zk_sb (zJ_R_defineAny_382    _ _ hF) rfl trivial
  · have hF := zf_n hc hF
    refine zi_aload_n rfl rfl ?_
    refine zi_getfield rfl rfl (zh_R _) rfl ?_
    refine zi_iload rfl rfl ?_
    refine zi_iload rfl rfl ?_
    obtain ⟨hb, hF⟩ := zf_g hF
    refine zi_iastore rfl (zh_A10 _) (zin_ok hb) (zs_A10 _ _) ?_
    exact zk_sb (zJ_R_defineAny_382    _ _ hF) rfl trivial
theorem zJ_R_defineAny_345 {X : zkX} (x4 : Int32) (x10 : Int32) (x11 : Int32) (x12 : Int32) (s : zSt) (r) (hF : F_R_defineAny_345   x4 x10 x11 x12 s = some r) : zk_W X 2 m_R_defineAny (345, [(0, .ref 7), (4, .int x4), (10, .int x10), (11, .int x11), (12, .int x12)], [], zHp s) (fun o => o = zoI r) := by
  unfold F_R_defineAny_345 at hF
  refine zi_iload rfl rfl ?_
  refine zi_iconst (v := (4 : Int32)) rfl rfl ?_
  obtain ⟨v17, s18, hm, hF⟩ := zf_b hF
  refine zi_callS rfl rfl rfl rfl (zk_C.to (zk_C.up (by decide) (zF_R_isTold hm)) (fun o ho => zk_K.okv ho ?_))
  refine zi_ifeq rfl (fun hc => ?_) (fun hc => ?_)
  · have hF := zf_p hc hF
    exact zk_sb (zJ_R_defineAny_363   _ _ _ _ _ hF) rfl ⟨rfl, rfl, rfl, rfl, trivial⟩
  · have hF := zf_n hc hF
    refine zi_aload_n rfl rfl ?_
    refine zi_getfield rfl rfl (zh_R _) rfl ?_
    refine zi_iload rfl rfl ?_
    refine zi_iload rfl rfl ?_
    obtain ⟨hb, hF⟩ := zf_g hF
    refine zi_iastore rfl (zh_A9 _) (zin_ok hb) (zs_A9 _ _) ?_
    exact zk_sb (zJ_R_defineAny_363   _ _ _ _ _ hF) rfl ⟨rfl, rfl, rfl, rfl, trivial⟩
theorem zJ_R_defineAny_320 {X : zkX} (x4 : Int32) (x5 : Int32) (x10 : Int32) (x11 : Int32) (x12 : Int32) (s : zSt) (r) (hF : F_R_defineAny_320   x4 x5 x10 x11 x12 s = some r) : zk_W X 2 m_R_defineAny (320, [(0, .ref 7), (4, .int x4), (5, .int x5), (10, .int x10), (11, .int x11), (12, .int x12)], [], zHp s) (fun o => o = zoI r) := by
  unfold F_R_defineAny_320 at hF
  refine zi_iload rfl rfl ?_
  refine zi_bipush (v := (32 : Int32)) rfl rfl ?_
  obtain ⟨v15, s16, hm, hF⟩ := zf_b hF
  refine zi_callS rfl rfl rfl rfl (zk_C.to (zk_C.up (by decide) (zF_R_isTold hm)) (fun o ho => zk_K.okv ho ?_))
  refine zi_ifeq rfl (fun hc => ?_) (fun hc => ?_)
  · have hF := zf_p hc hF
    exact zk_sb (zJ_R_defineAny_345   _ _ _ _ _ _ hF) rfl ⟨rfl, rfl, rfl, rfl, rfl, trivial⟩
  · have hF := zf_n hc hF
    refine zi_aload_n rfl rfl ?_
    refine zi_iload rfl rfl ?_
    refine zi_bipush (v := (32 : Int32)) rfl rfl ?_
    refine zi_iload rfl rfl ?_
    refine zi_bipush (v := (32 : Int32)) rfl rfl ?_
    obtain ⟨v21, s22, hm, hF⟩ := zf_b hF
    refine zi_callS rfl rfl rfl rfl (zk_C.to (zk_C.up (by decide) (zF_R_isTold hm)) (fun o ho => zk_K.okv ho ?_))
    obtain ⟨v23, s24, hm, hF⟩ := zf_b hF
    refine zi_callV rfl rfl rfl (zh_R _) rfl (zk_C.to (zk_C.up (by decide) (zF_R_put_0 hm)) (fun o ho => zk_K.okn ho ?_))
    exact zk_sb (zJ_R_defineAny_345   _ _ _ _ _ _ hF) rfl ⟨rfl, rfl, rfl, rfl, rfl, trivial⟩
theorem zJ_R_defineAny_295 {X : zkX} (x4 : Int32) (x5 : Int32) (x10 : Int32) (x11 : Int32) (x12 : Int32) (s : zSt) (r) (hF : F_R_defineAny_295   x4 x5 x10 x11 x12 s = some r) : zk_W X 2 m_R_defineAny (295, [(0, .ref 7), (4, .int x4), (5, .int x5), (10, .int x10), (11, .int x11), (12, .int x12)], [], zHp s) (fun o => o = zoI r) := by
  unfold F_R_defineAny_295 at hF
  refine zi_iload rfl rfl ?_
  refine zi_bipush (v := (16 : Int32)) rfl rfl ?_
  obtain ⟨v13, s14, hm, hF⟩ := zf_b hF
  refine zi_callS rfl rfl rfl rfl (zk_C.to (zk_C.up (by decide) (zF_R_isTold hm)) (fun o ho => zk_K.okv ho ?_))
  refine zi_ifeq rfl (fun hc => ?_) (fun hc => ?_)
  · have hF := zf_p hc hF
    exact zk_sb (zJ_R_defineAny_320   _ _ _ _ _ _ _ hF) rfl ⟨rfl, rfl, rfl, rfl, rfl, rfl, trivial⟩
  · have hF := zf_n hc hF
    refine zi_aload_n rfl rfl ?_
    refine zi_iload rfl rfl ?_
    refine zi_bipush (v := (16 : Int32)) rfl rfl ?_
    refine zi_iload rfl rfl ?_
    refine zi_bipush (v := (16 : Int32)) rfl rfl ?_
    obtain ⟨v25, s26, hm, hF⟩ := zf_b hF
    refine zi_callS rfl rfl rfl rfl (zk_C.to (zk_C.up (by decide) (zF_R_isTold hm)) (fun o ho => zk_K.okv ho ?_))
    obtain ⟨v27, s28, hm, hF⟩ := zf_b hF
    refine zi_callV rfl rfl rfl (zh_R _) rfl (zk_C.to (zk_C.up (by decide) (zF_R_put_0 hm)) (fun o ho => zk_K.okn ho ?_))
    exact zk_sb (zJ_R_defineAny_320   _ _ _ _ _ _ _ hF) rfl ⟨rfl, rfl, rfl, rfl, rfl, rfl, trivial⟩
theorem zJ_R_defineAny_273 {X : zkX} (x4 : Int32) (x5 : Int32) (x10 : Int32) (x11 : Int32) (x12 : Int32) (s : zSt) (r) (hF : F_R_defineAny_273   x4 x5 x10 x11 x12 s = some r) : zk_W X 2 m_R_defineAny (273, [(0, .ref 7), (4, .int x4), (5, .int x5), (10, .int x10), (11, .int x11), (12, .int x12)], [], zHp s) (fun o => o = zoI r) := by
  unfold F_R_defineAny_273 at hF
  refine zi_iload rfl rfl ?_
  refine zi_iconst (v := (2 : Int32)) rfl rfl ?_
  obtain ⟨v11, s12, hm, hF⟩ := zf_b hF
  refine zi_callS rfl rfl rfl rfl (zk_C.to (zk_C.up (by decide) (zF_R_isTold hm)) (fun o ho => zk_K.okv ho ?_))
  refine zi_ifeq rfl (fun hc => ?_) (fun hc => ?_)
  · have hF := zf_p hc hF
    exact zk_sb (zJ_R_defineAny_295   _ _ _ _ _ _ _ hF) rfl ⟨rfl, rfl, rfl, rfl, rfl, rfl, trivial⟩
  · have hF := zf_n hc hF
    refine zi_aload_n rfl rfl ?_
    refine zi_iload rfl rfl ?_
    refine zi_iconst (v := (2 : Int32)) rfl rfl ?_
    refine zi_iload rfl rfl ?_
    refine zi_iconst (v := (2 : Int32)) rfl rfl ?_
    obtain ⟨v29, s30, hm, hF⟩ := zf_b hF
    refine zi_callS rfl rfl rfl rfl (zk_C.to (zk_C.up (by decide) (zF_R_isTold hm)) (fun o ho => zk_K.okv ho ?_))
    obtain ⟨v31, s32, hm, hF⟩ := zf_b hF
    refine zi_callV rfl rfl rfl (zh_R _) rfl (zk_C.to (zk_C.up (by decide) (zF_R_put_0 hm)) (fun o ho => zk_K.okn ho ?_))
    exact zk_sb (zJ_R_defineAny_295   _ _ _ _ _ _ _ hF) rfl ⟨rfl, rfl, rfl, rfl, rfl, rfl, trivial⟩
theorem zJ_R_defineAny_255 {X : zkX} (x4 : Int32) (x5 : Int32) (x7 : Int64) (x10 : Int32) (x11 : Int32) (x12 : Int32) (s : zSt) (r) (hF : F_R_defineAny_255   x4 x5 x7 x10 x11 x12 s = some r) : zk_W X 2 m_R_defineAny (255, [(0, .ref 7), (4, .int x4), (5, .int x5), (7, .long x7), (10, .int x10), (11, .int x11), (12, .int x12)], [], zHp s) (fun o => o = zoI r) := by
  unfold F_R_defineAny_255 at hF
  refine zi_iload rfl rfl ?_
  refine zi_iconst (v := (1 : Int32)) rfl rfl ?_
  obtain ⟨v9, s10, hm, hF⟩ := zf_b hF
  refine zi_callS rfl rfl rfl rfl (zk_C.to (zk_C.up (by decide) (zF_R_isTold hm)) (fun o ho => zk_K.okv ho ?_))
  refine zi_ifeq rfl (fun hc => ?_) (fun hc => ?_)
  · have hF := zf_p hc hF
    exact zk_sb (zJ_R_defineAny_273   _ _ _ _ _ _ _ hF) rfl ⟨rfl, rfl, rfl, rfl, rfl, rfl, trivial⟩
  · have hF := zf_n hc hF
    refine zi_aload_n rfl rfl ?_
    refine zi_getfield rfl rfl (zh_R _) rfl ?_
    refine zi_iload rfl rfl ?_
    refine zi_lload rfl rfl ?_
    obtain ⟨hb, hF⟩ := zf_g hF
    refine zi_lastore rfl (zh_B2 _) (zin_ok hb) (zs_B2 _ _) ?_
    exact zk_sb (zJ_R_defineAny_273   _ _ _ _ _ _ _ hF) rfl ⟨rfl, rfl, rfl, rfl, rfl, rfl, trivial⟩
theorem zJ_R_defineAny_237 {X : zkX} (x4 : Int32) (x5 : Int32) (x6 : Int32) (x7 : Int64) (x10 : Int32) (x11 : Int32) (x12 : Int32) (s : zSt) (r) (hF : F_R_defineAny_237   x4 x5 x6 x7 x10 x11 x12 s = some r) : zk_W X 2 m_R_defineAny (237, [(0, .ref 7), (4, .int x4), (5, .int x5), (6, .int x6), (7, .long x7), (10, .int x10), (11, .int x11), (12, .int x12)], [], zHp s) (fun o => o = zoI r) := by
  unfold F_R_defineAny_237 at hF
  refine zi_iload rfl rfl ?_
  refine zi_iconst (v := (1 : Int32)) rfl rfl ?_
  obtain ⟨v7, s8, hm, hF⟩ := zf_b hF
  refine zi_callS rfl rfl rfl rfl (zk_C.to (zk_C.up (by decide) (zF_R_isTold hm)) (fun o ho => zk_K.okv ho ?_))
  refine zi_ifeq rfl (fun hc => ?_) (fun hc => ?_)
  · have hF := zf_p hc hF
    exact zk_sb (zJ_R_defineAny_255   _ _ _ _ _ _ _ _ hF) rfl ⟨rfl, rfl, rfl, rfl, rfl, rfl, rfl, trivial⟩
  · have hF := zf_n hc hF
    refine zi_aload_n rfl rfl ?_
    refine zi_getfield rfl rfl (zh_R _) rfl ?_
    refine zi_iload rfl rfl ?_
    refine zi_iload rfl rfl ?_
    obtain ⟨hb, hF⟩ := zf_g hF
    refine zi_iastore rfl (zh_A8 _) (zin_ok hb) (zs_A8 _ _) ?_
    exact zk_sb (zJ_R_defineAny_255   _ _ _ _ _ _ _ _ hF) rfl ⟨rfl, rfl, rfl, rfl, rfl, rfl, rfl, trivial⟩
theorem zJ_R_defineAny_194 {X : zkX} (x4 : Int32) (x5 : Int32) (x6 : Int32) (x7 : Int64) (x10 : Int32) (x11 : Int32) (x12 : Int32) (y0 : Int32) (y1 : Int32) (y2 : Int32) (s : zSt) (r) (hF : F_R_defineAny_194   x4 x5 x6 x7 x10 x11 x12 y0 y1 y2 s = some r) : zk_W X 2 m_R_defineAny (194, [(0, .ref 7), (4, .int x4), (5, .int x5), (6, .int x6), (7, .long x7), (10, .int x10), (11, .int x11), (12, .int x12)], [.int y0, .int y1, .int y2, .ref 7], zHp s) (fun o => o = zoI r) := by
  unfold F_R_defineAny_194 at hF
  obtain ⟨v35, s36, hm, hF⟩ := zf_b hF
  refine zi_callV rfl rfl rfl (zh_R _) rfl (zk_C.to (zk_C.up (by decide) (zF_R_put_0 hm)) (fun o ho => zk_K.okn ho ?_))
  refine zi_aload_n rfl rfl ?_
  refine zi_iload rfl rfl ?_
  refine zi_iconst (v := (2 : Int32)) rfl rfl ?_
  refine zi_iconst (v := (0 : Int32)) rfl rfl ?_
  obtain ⟨v37, s38, hm, hF⟩ := zf_b hF
  refine zi_callV rfl rfl rfl (zh_R _) rfl (zk_C.to (zk_C.up (by decide) (zF_R_put_0 hm)) (fun o ho => zk_K.okn ho ?_))
  refine zi_aload_n rfl rfl ?_
  refine zi_getfield rfl rfl (zh_R _) rfl ?_
  refine zi_iload rfl rfl ?_
  refine zi_iconst (v := (0 : Int32)) rfl rfl ?_
  obtain ⟨hb, hF⟩ := zf_g hF
  refine zi_iastore rfl (zh_A8 _) (zin_ok hb) (zs_A8 _ _) ?_
  refine zi_aload_n rfl rfl ?_
  refine zi_getfield rfl rfl (zh_R _) rfl ?_
  refine zi_iload rfl rfl ?_
  refine zi_lconst (v := (0 : Int64)) rfl rfl ?_
  obtain ⟨hb, hF⟩ := zf_g hF
  refine zi_lastore rfl (zh_B2 _) (zin_ok hb) (zs_B2 _ _) ?_
  refine zi_aload_n rfl rfl ?_
  refine zi_getfield rfl rfl (zh_R _) rfl ?_
  refine zi_iload rfl rfl ?_
  refine zi_iconst (v := (0 : Int32)) rfl rfl ?_
  obtain ⟨hb, hF⟩ := zf_g hF
  refine zi_iastore rfl (zh_A9 _) (zin_ok hb) (zs_A9 _ _) ?_
  refine zi_aload_n rfl rfl ?_
  refine zi_getfield rfl rfl (zh_R _) rfl ?_
  refine zi_iload rfl rfl ?_
  refine zi_iconst (v := (0 : Int32)) rfl rfl ?_
  obtain ⟨hb, hF⟩ := zf_g hF
  refine zi_iastore rfl (zh_A10 _) (zin_ok hb) (zs_A10 _ _) ?_
  exact zk_sb (zJ_R_defineAny_237   _ _ _ _ _ _ _ _ _ hF) rfl ⟨rfl, rfl, rfl, rfl, rfl, rfl, rfl, rfl, trivial⟩
theorem zJ_R_defineAny_166 {X : zkX} (x4 : Int32) (x5 : Int32) (x6 : Int32) (x7 : Int64) (x10 : Int32) (x11 : Int32) (x12 : Int32) (y0 : Int32) (s : zSt) (r) (hF : F_R_defineAny_166   x4 x5 x6 x7 x10 x11 x12 y0 s = some r) : zk_W X 2 m_R_defineAny (166, [(0, .ref 7), (4, .int x4), (5, .int x5), (6, .int x6), (7, .long x7), (10, .int x10), (11, .int x11), (12, .int x12)], [.int y0], zHp s) (fun o => o = zoI r) := by
  unfold F_R_defineAny_166 at hF
  refine zi_istore rfl rfl rfl ?_
  refine zi_iload rfl rfl ?_
  refine zi_ifeq rfl (fun hc => ?_) (fun hc => ?_)
  · have hF := zf_p hc hF
    exact zk_sb (zJ_R_defineAny_237   _ _ _ _ _ _ _ _ _ hF) rfl ⟨rfl, rfl, rfl, rfl, rfl, rfl, rfl, rfl, trivial⟩
  · have hF := zf_n hc hF
    refine zi_aload_n rfl rfl ?_
    refine zi_iload rfl rfl ?_
    refine zi_bipush (v := (64 : Int32)) rfl rfl ?_
    refine zi_aload_n rfl rfl ?_
    refine zi_iload rfl rfl ?_
    refine zi_bipush (v := (64 : Int32)) rfl rfl ?_
    obtain ⟨v33, s34, hm, hF⟩ := zf_b hF
    refine zi_callV rfl rfl rfl (zh_R _) rfl (zk_C.to (zk_C.up (by decide) (zF_R_has_0 hm)) (fun o ho => zk_K.okv ho ?_))
    refine zi_ifne rfl (fun hc => ?_) (fun hc => ?_)
    · have hF := zf_n hc hF
      refine zi_iconst (v := (0 : Int32)) rfl rfl ?_
      exact zk_sb (zJ_R_defineAny_194   _ _ _ _ _ _ _ _ _ _ _ _ hF) rfl ⟨rfl, rfl, rfl, rfl, rfl, rfl, rfl, rfl, trivial⟩
    · have hF := zf_p hc hF
      refine zi_iconst (v := (1 : Int32)) rfl rfl ?_
      refine zi_goto rfl ?_
      exact zk_sb (zJ_R_defineAny_194   _ _ _ _ _ _ _ _ _ _ _ _ hF) rfl ⟨rfl, rfl, rfl, rfl, rfl, rfl, rfl, rfl, trivial⟩
theorem zJ_R_defineAny_165 {X : zkX} (x4 : Int32) (x5 : Int32) (x6 : Int32) (x7 : Int64) (x10 : Int32) (x11 : Int32) (x12 : Int32) (s : zSt) (r) (hF : F_R_defineAny_165   x4 x5 x6 x7 x10 x11 x12 s = some r) : zk_W X 2 m_R_defineAny (165, [(0, .ref 7), (4, .int x4), (5, .int x5), (6, .int x6), (7, .long x7), (10, .int x10), (11, .int x11), (12, .int x12)], [], zHp s) (fun o => o = zoI r) := by
  unfold F_R_defineAny_165 at hF
  refine zi_iconst (v := (0 : Int32)) rfl rfl ?_
  exact zk_sb (zJ_R_defineAny_166   _ _ _ _ _ _ _ _ _ _ hF) rfl ⟨rfl, rfl, rfl, rfl, rfl, rfl, rfl, rfl, trivial⟩
theorem zJ_R_defineAny_161 {X : zkX} (x4 : Int32) (x5 : Int32) (x6 : Int32) (x7 : Int64) (x10 : Int32) (x11 : Int32) (x12 : Int32) (s : zSt) (r) (hF : F_R_defineAny_161   x4 x5 x6 x7 x10 x11 x12 s = some r) : zk_W X 2 m_R_defineAny (161, [(0, .ref 7), (4, .int x4), (5, .int x5), (6, .int x6), (7, .long x7), (10, .int x10), (11, .int x11), (12, .int x12)], [], zHp s) (fun o => o = zoI r) := by
  unfold F_R_defineAny_161 at hF
  refine zi_iconst (v := (1 : Int32)) rfl rfl ?_
  refine zi_goto rfl ?_
  exact zk_sb (zJ_R_defineAny_166   _ _ _ _ _ _ _ _ _ _ hF) rfl ⟨rfl, rfl, rfl, rfl, rfl, rfl, rfl, rfl, trivial⟩
theorem zJ_R_defineAny_142 {X : zkX} (x4 : Int32) (x5 : Int32) (x6 : Int32) (x7 : Int64) (x10 : Int32) (x11 : Int32) (x12 : Int32) (s : zSt) (r) (hF : F_R_defineAny_142   x4 x5 x6 x7 x10 x11 x12 s = some r) : zk_W X 2 m_R_defineAny (142, [(0, .ref 7), (4, .int x4), (5, .int x5), (6, .int x6), (7, .long x7), (10, .int x10), (11, .int x11), (12, .int x12)], [], zHp s) (fun o => o = zoI r) := by
  unfold F_R_defineAny_142 at hF
  refine zi_iload rfl rfl ?_
  refine zi_bipush (v := (12 : Int32)) rfl rfl ?_
  refine zi_iand rfl ?_
  refine zi_ifle rfl (fun hc => ?_) (fun hc => ?_)
  · have hF := zf_p hc hF
    exact zk_sb (zJ_R_defineAny_165   _ _ _ _ _ _ _ _ _ hF) rfl ⟨rfl, rfl, rfl, rfl, rfl, rfl, rfl, rfl, trivial⟩
  · have hF := zf_n hc hF
    refine zi_aload_n rfl rfl ?_
    refine zi_iload rfl rfl ?_
    refine zi_bipush (v := (64 : Int32)) rfl rfl ?_
    obtain ⟨v39, s40, hm, hF⟩ := zf_b hF
    refine zi_callV rfl rfl rfl (zh_R _) rfl (zk_C.to (zk_C.up (by decide) (zF_R_has_0 hm)) (fun o ho => zk_K.okv ho ?_))
    refine zi_ifne rfl (fun hc => ?_) (fun hc => ?_)
    · have hF := zf_n hc hF
      exact zk_sb (zJ_R_defineAny_165   _ _ _ _ _ _ _ _ _ hF) rfl ⟨rfl, rfl, rfl, rfl, rfl, rfl, rfl, rfl, trivial⟩
    · have hF := zf_p hc hF
      exact zk_sb (zJ_R_defineAny_161   _ _ _ _ _ _ _ _ _ hF) rfl ⟨rfl, rfl, rfl, rfl, rfl, rfl, rfl, rfl, trivial⟩
theorem zJ_R_defineAny_124 {X : zkX} (x4 : Int32) (x5 : Int32) (x6 : Int32) (x7 : Int64) (x10 : Int32) (x11 : Int32) (x12 : Int32) (s : zSt) (r) (hF : F_R_defineAny_124   x4 x5 x6 x7 x10 x11 x12 s = some r) : zk_W X 2 m_R_defineAny (124, [(0, .ref 7), (4, .int x4), (5, .int x5), (6, .int x6), (7, .long x7), (10, .int x10), (11, .int x11), (12, .int x12)], [], zHp s) (fun o => o = zoI r) := by
  unfold F_R_defineAny_124 at hF
  refine zi_iload rfl rfl ?_
  refine zi_iconst (v := (3 : Int32)) rfl rfl ?_
  refine zi_iand rfl ?_
  refine zi_ifle rfl (fun hc => ?_) (fun hc => ?_)
  · have hF := zf_p hc hF
    exact zk_sb (zJ_R_defineAny_142   _ _ _ _ _ _ _ _ _ hF) rfl ⟨rfl, rfl, rfl, rfl, rfl, rfl, rfl, rfl, trivial⟩
  · have hF := zf_n hc hF
    refine zi_aload_n rfl rfl ?_
    refine zi_iload rfl rfl ?_
    refine zi_bipush (v := (64 : Int32)) rfl rfl ?_
    obtain ⟨v41, s42, hm, hF⟩ := zf_b hF
    refine zi_callV rfl rfl rfl (zh_R _) rfl (zk_C.to (zk_C.up (by decide) (zF_R_has_0 hm)) (fun o ho => zk_K.okv ho ?_))
    refine zi_ifne rfl (fun hc => ?_) (fun hc => ?_)
    · have hF := zf_n hc hF
      exact zk_sb (zJ_R_defineAny_161   _ _ _ _ _ _ _ _ _ hF) rfl ⟨rfl, rfl, rfl, rfl, rfl, rfl, rfl, rfl, trivial⟩
    · have hF := zf_p hc hF
      exact zk_sb (zJ_R_defineAny_142   _ _ _ _ _ _ _ _ _ hF) rfl ⟨rfl, rfl, rfl, rfl, rfl, rfl, rfl, rfl, trivial⟩
theorem zJ_R_defineAny_57 {X : zkX} (x4 : Int32) (x5 : Int32) (x6 : Int32) (x7 : Int64) (x10 : Int32) (x11 : Int32) (y0 : Int32) (y1 : Int64) (y2 : Int32) (s : zSt) (r) (hF : F_R_defineAny_57   x4 x5 x6 x7 x10 x11 y0 y1 y2 s = some r) : zk_W X 2 m_R_defineAny (57, [(0, .ref 7), (4, .int x4), (5, .int x5), (6, .int x6), (7, .long x7), (10, .int x10), (11, .int x11)], [.int y0, .long y1, .int y2, .ref 7], zHp s) (fun o => o = zoI r) := by
  unfold F_R_defineAny_57 at hF
  refine zi_iconst (v := (0 : Int32)) rfl rfl ?_
  refine zi_lconst (v := (0 : Int64)) rfl rfl ?_
  obtain ⟨v45, s46, hm, hF⟩ := zf_b hF
  refine zi_callV rfl rfl rfl (zh_R _) rfl (zk_C.to (zk_C.up (by decide) (zF_R_add hm)) (fun o ho => zk_K.okv ho ?_))
  refine zi_istore rfl rfl rfl ?_
  refine zi_goto rfl ?_
  exact zk_sb (zJ_R_defineAny_237   _ _ _ _ _ _ _ _ _ hF) rfl ⟨rfl, rfl, rfl, rfl, rfl, rfl, rfl, rfl, trivial⟩
theorem zF_R_defineAny {X : zkX} {p1 : Int32} {p2 : Int64} {p4 : Int32} {p5 : Int32} {p6 : Int32} {p7 : Int64} {p9 : Int32} {s : zSt} {r} (hF : F_R_defineAny p1 p2 p4 p5 p6 p7 p9 s = some r) : zk_C X 3 m_R_defineAny [.ref 7, .int p1, .long p2, .int p4, .int p5, .int p6, .long p7, .int p9] (zHp s) (fun o => o = zoI r) := by
  unfold F_R_defineAny at hF
  refine zk_enter (lv := [(0, .ref 7), (1, .int p1), (2, .long p2), (4, .int p4), (5, .int p5), (6, .int p6), (7, .long p7), (9, .int p9)]) rfl rfl ?_
  refine zi_iload rfl rfl ?_
  refine zi_sipush (v := (4200 : Int32)) rfl rfl ?_
  refine zi_idiv rfl (by decide) ?_
  refine zi_istore rfl rfl rfl ?_
  refine zi_iload rfl rfl ?_
  refine zi_sipush (v := (4200 : Int32)) rfl rfl ?_
  refine zi_irem rfl (by decide) ?_
  refine zi_istore rfl rfl rfl ?_
  refine zi_aload_n rfl rfl ?_
  refine zi_iload_n rfl rfl ?_
  refine zi_lload_n rfl rfl ?_
  obtain ⟨v1, s2, hm, hF⟩ := zf_b hF
  refine zi_callV rfl rfl rfl (zh_R _) rfl (zk_C.to (zk_C.up (by decide) (zF_R_find hm)) (fun o ho => zk_K.okv ho ?_))
  refine zi_istore rfl rfl rfl ?_
  refine zi_iload rfl rfl ?_
  refine zi_ifge rfl (fun hc => ?_) (fun hc => ?_)
  · have hF := zf_p hc hF
    refine zi_aload_n rfl rfl ?_
    refine zi_iload rfl rfl ?_
    refine zi_iload rfl rfl ?_
    refine zi_iload rfl rfl ?_
    refine zi_iload rfl rfl ?_
    refine zi_lload rfl rfl ?_
    refine zi_iload rfl rfl ?_
    refine zi_iload rfl rfl ?_
    obtain ⟨v3, s4, hm, hF⟩ := zf_b hF
    refine zi_callV rfl rfl rfl (zh_R _) rfl (zk_C.to (zk_C.up (by decide) (zF_R_isSo hm)) (fun o ho => zk_K.okv ho ?_))
    refine zi_ifeq rfl (fun hc => ?_) (fun hc => ?_)
    · have hF := zf_p hc hF
      refine zi_aload_n rfl rfl ?_
      refine zi_iload rfl rfl ?_
      refine zi_bipush (v := (32 : Int32)) rfl rfl ?_
      obtain ⟨v5, s6, hm, hF⟩ := zf_b hF
      refine zi_callV rfl rfl rfl (zh_R _) rfl (zk_C.to (zk_C.up (by decide) (zF_R_has_0 hm)) (fun o ho => zk_K.okv ho ?_))
      refine zi_ifne rfl (fun hc => ?_) (fun hc => ?_)
      · have hF := zf_n hc hF
        exact zk_sb (zJ_R_defineAny_124   _ _ _ _ _ _ _ _ _ hF) rfl ⟨rfl, rfl, rfl, rfl, rfl, rfl, rfl, rfl, trivial⟩
      · have hF := zf_p hc hF
        refine zi_aload_n rfl rfl ?_
        refine zi_iload rfl rfl ?_
        refine zi_iload rfl rfl ?_
        refine zi_iload rfl rfl ?_
        refine zi_iload rfl rfl ?_
        refine zi_lload rfl rfl ?_
        refine zi_iload rfl rfl ?_
        refine zi_iload rfl rfl ?_
        obtain ⟨v43, s44, hm, hF⟩ := zf_b hF
        refine zi_callV rfl rfl rfl (zh_R _) rfl (zk_C.to (zk_C.up (by decide) (zF_R_resists hm)) (fun o ho => zk_K.okv ho ?_))
        refine zi_ifeq rfl (fun hc => ?_) (fun hc => ?_)
        · have hF := zf_p hc hF
          exact zk_sb (zJ_R_defineAny_124   _ _ _ _ _ _ _ _ _ hF) rfl ⟨rfl, rfl, rfl, rfl, rfl, rfl, rfl, rfl, trivial⟩
        · have hF := zf_n hc hF
          refine zi_iconst (v := (2 : Int32)) rfl rfl ?_
          cases hF
          exact zi_ireturn rfl rfl rfl
    · have hF := zf_n hc hF
      refine zi_iconst (v := (0 : Int32)) rfl rfl ?_
      cases hF
      exact zi_ireturn rfl rfl rfl
  · have hF := zf_n hc hF
    refine zi_aload_n rfl rfl ?_
    refine zi_getfield rfl rfl (zh_R _) rfl ?_
    refine zi_iload_n rfl rfl ?_
    obtain ⟨hb, hF⟩ := zf_g hF
    refine zi_baload rfl (zh_A4 _) (zin_ok hb) ?_
    refine zi_ifeq rfl (fun hc => ?_) (fun hc => ?_)
    · have hF := zf_p hc hF
      refine zi_aload_n rfl rfl ?_
      refine zi_iload_n rfl rfl ?_
      refine zi_lload_n rfl rfl ?_
      refine zi_iload rfl rfl ?_
      refine zi_bipush (v := (12 : Int32)) rfl rfl ?_
      refine zi_iand rfl ?_
      refine zi_ifle rfl (fun hc => ?_) (fun hc => ?_)
      · have hF := zf_p hc hF
        refine zi_iconst (v := (0 : Int32)) rfl rfl ?_
        exact zk_sb (zJ_R_defineAny_57   _ _ _ _ _ _ _ _ _ _ _ hF) rfl ⟨rfl, rfl, rfl, rfl, rfl, rfl, rfl, trivial⟩
      · have hF := zf_n hc hF
        refine zi_bipush (v := (64 : Int32)) rfl rfl ?_
        refine zi_goto rfl ?_
        exact zk_sb (zJ_R_defineAny_57   _ _ _ _ _ _ _ _ _ _ _ hF) rfl ⟨rfl, rfl, rfl, rfl, rfl, rfl, rfl, trivial⟩
    · have hF := zf_n hc hF
      refine zi_iconst (v := (2 : Int32)) rfl rfl ?_
      cases hF
      exact zi_ireturn rfl rfl rfl

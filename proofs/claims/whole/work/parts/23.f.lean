/-! m_R_prototype -/
def F_R_prototype_44  (s : zSt) : Option (Unit × zSt) := some ((), s)
def F_R_prototype_21 (x1 : Int32) (x2 : Int32) (y0 : Int32) (s : zSt) : Option (Unit × zSt) := (zb (F_R_says (y0) s) (fun v3 s4 => (if v3 = 0 then F_R_prototype_44     s4 else (if zin x1 24 then (if zin (gA s4 1 (x1).toNatClampNeg) 4200 then (if zin x2 24 then F_R_prototype_44     (sA s4 1 (upd (gA s4 1) (x2).toNatClampNeg (gA s4 2 ((gA s4 1 (x1).toNatClampNeg)).toNatClampNeg))) else none) else none) else none))))
def F_R_prototype_20 (x1 : Int32) (x2 : Int32) (s : zSt) : Option (Unit × zSt) := F_R_prototype_21    (x1) (x2) ((0 : Int32)) s
def F_R_prototype (p1 : Int32) (p2 : Int32) (s : zSt) : Option (Unit × zSt) := (zb (F_R_holds (p1) s) (fun v1 s2 => (if v1 = 0 then F_R_prototype_20    (p1) (p2) s2 else (zb (F_R_isRoot (p2) s2) (fun v5 s6 => (if v5 = 0 then F_R_prototype_20    (p1) (p2) s6 else F_R_prototype_21    (p1) (p2) ((1 : Int32)) s6))))))
theorem zJ_R_prototype_44 {X : zkX}  (s : zSt) (r) (hF : F_R_prototype_44    s = some r) : zk_W X 3 m_R_prototype (44, [], [], zHp s) (fun o => o = zoU r) := by
  unfold F_R_prototype_44 at hF
  cases hF
  exact zi_return rfl rfl rfl
theorem zJ_R_prototype_21 {X : zkX} (x1 : Int32) (x2 : Int32) (y0 : Int32) (s : zSt) (r) (hF : F_R_prototype_21   x1 x2 y0 s = some r) : zk_W X 3 m_R_prototype (21, [(0, .ref 7), (1, .int x1), (2, .int x2)], [.int y0, .ref 7], zHp s) (fun o => o = zoU r) := by
  unfold F_R_prototype_21 at hF
  obtain ⟨v3, s4, hm, hF⟩ := zf_b hF
  refine zi_callV rfl rfl rfl (zh_R _) rfl (zk_C.to (zk_C.up (by decide) (zF_R_says hm)) (fun o ho => zk_K.okv ho ?_))
  refine zi_ifeq rfl (fun hc => ?_) (fun hc => ?_)
  · have hF := zf_p hc hF
    exact zk_sb (zJ_R_prototype_44    _ _ hF) rfl trivial
  · have hF := zf_n hc hF
    refine zi_aload_n rfl rfl ?_
    refine zi_getfield rfl rfl (zh_R _) rfl ?_
    refine zi_iload_n rfl rfl ?_
    refine zi_aload_n rfl rfl ?_
    refine zi_getfield rfl rfl (zh_R _) rfl ?_
    refine zi_aload_n rfl rfl ?_
    refine zi_getfield rfl rfl (zh_R _) rfl ?_
    refine zi_iload_n rfl rfl ?_
    obtain ⟨hb, hF⟩ := zf_g hF
    refine zi_iaload rfl (zr_A1 _ _) (zin_ok hb) ?_
    obtain ⟨hb, hF⟩ := zf_g hF
    refine zi_iaload rfl (zr_A2 _ _) (zin_ok hb) ?_
    obtain ⟨hb, hF⟩ := zf_g hF
    refine zi_iastore rfl (zh_A1 _) (zin_ok hb) (zs_A1 _ _) ?_
    exact zk_sb (zJ_R_prototype_44    _ _ hF) rfl trivial
theorem zJ_R_prototype_20 {X : zkX} (x1 : Int32) (x2 : Int32) (s : zSt) (r) (hF : F_R_prototype_20   x1 x2 s = some r) : zk_W X 3 m_R_prototype (20, [(0, .ref 7), (1, .int x1), (2, .int x2)], [.ref 7], zHp s) (fun o => o = zoU r) := by
  unfold F_R_prototype_20 at hF
  refine zi_iconst (v := (0 : Int32)) rfl rfl ?_
  exact zk_sb (zJ_R_prototype_21   _ _ _ _ _ hF) rfl ⟨rfl, rfl, rfl, trivial⟩
theorem zF_R_prototype {X : zkX} {p1 : Int32} {p2 : Int32} {s : zSt} {r} (hF : F_R_prototype p1 p2 s = some r) : zk_C X 4 m_R_prototype [.ref 7, .int p1, .int p2] (zHp s) (fun o => o = zoU r) := by
  unfold F_R_prototype at hF
  refine zk_enter (lv := [(0, .ref 7), (1, .int p1), (2, .int p2)]) rfl rfl ?_
  refine zi_aload_n rfl rfl ?_
  refine zi_aload_n rfl rfl ?_
  refine zi_iload_n rfl rfl ?_
  obtain ⟨v1, s2, hm, hF⟩ := zf_b hF
  refine zi_callV rfl rfl rfl (zh_R _) rfl (zk_C.to (zk_C.up (by decide) (zF_R_holds hm)) (fun o ho => zk_K.okv ho ?_))
  refine zi_ifeq rfl (fun hc => ?_) (fun hc => ?_)
  · have hF := zf_p hc hF
    exact zk_sb (zJ_R_prototype_20   _ _ _ _ hF) rfl ⟨rfl, rfl, rfl, trivial⟩
  · have hF := zf_n hc hF
    refine zi_iload_n rfl rfl ?_
    obtain ⟨v5, s6, hm, hF⟩ := zf_b hF
    refine zi_callS rfl rfl rfl rfl (zk_C.to (zk_C.up (by decide) (zF_R_isRoot hm)) (fun o ho => zk_K.okv ho ?_))
    refine zi_ifeq rfl (fun hc => ?_) (fun hc => ?_)
    · have hF := zf_p hc hF
      exact zk_sb (zJ_R_prototype_20   _ _ _ _ hF) rfl ⟨rfl, rfl, rfl, trivial⟩
    · have hF := zf_n hc hF
      refine zi_iconst (v := (1 : Int32)) rfl rfl ?_
      refine zi_goto rfl ?_
      exact zk_sb (zJ_R_prototype_21   _ _ _ _ _ hF) rfl ⟨rfl, rfl, rfl, trivial⟩
/-! m_R_stress -/
def F_R_stress_10 (y0 : Int32) (s : zSt) : Option (Unit × zSt) := some ((), (sI s 13 y0))
def F_R_stress (p1 : Int32) (s : zSt) : Option (Unit × zSt) := (if p1 < 0 then F_R_stress_10    ((1 : Int32)) s else F_R_stress_10    ((0 : Int32)) s)
theorem zJ_R_stress_10 {X : zkX} (y0 : Int32) (s : zSt) (r) (hF : F_R_stress_10   y0 s = some r) : zk_W X 0 m_R_stress (10, [], [.int y0, .ref 7], zHp s) (fun o => o = zoU r) := by
  unfold F_R_stress_10 at hF
  refine zi_putfield rfl rfl (zh_R _) rfl rfl (zs_I13 _ _) ?_
  cases hF
  exact zi_return rfl rfl rfl
theorem zF_R_stress {X : zkX} {p1 : Int32} {s : zSt} {r} (hF : F_R_stress p1 s = some r) : zk_C X 1 m_R_stress [.ref 7, .int p1] (zHp s) (fun o => o = zoU r) := by
  unfold F_R_stress at hF
  refine zk_enter (lv := [(0, .ref 7), (1, .int p1)]) rfl rfl ?_
  refine zi_aload_n rfl rfl ?_
  refine zi_iload_n rfl rfl ?_
  refine zi_iflt rfl (fun hc => ?_) (fun hc => ?_)
  · have hF := zf_p hc hF
    refine zi_iconst (v := (1 : Int32)) rfl rfl ?_
    exact zk_sb (zJ_R_stress_10   _ _ _ hF) rfl trivial
  · have hF := zf_n hc hF
    refine zi_iconst (v := (0 : Int32)) rfl rfl ?_
    refine zi_goto rfl ?_
    exact zk_sb (zJ_R_stress_10   _ _ _ hF) rfl trivial
/-! m_L_law -/
def F_L_law_1622 (X : zkX) (K23 : Int32 → zSt → Option (Int32 × zSt)) (x4 : Int32) (s : zSt) : Option (Int32 × zSt) := K23 ((x4 + (8 : Int32))) s
def F_L_law_195 (X : zkX) (K23 : Int32 → zSt → Option (Int32 × zSt)) (x4 : Int32) (x5 : Int32) (y0 : Int32) (y1 : Int32) (y2 : Int32) (s : zSt) : Option (Int32 × zSt) := (zb (F_R_object (y2) (y1) (y0) s) (fun v3 s4 => (zb (F_R_thrown  s4) (fun v5 s6 => (if v5 = x5 then F_L_law_1622 X K23  (x4) s6 else some ((0 : Int32), s6))))))
def F_L_law_163 (X : zkX) (K23 : Int32 → zSt → Option (Int32 × zSt)) (x4 : Int32) (y0 : Int32) (y1 : Int32) (y2 : Int32) (s : zSt) : Option (Int32 × zSt) := (zb (F_L_object (y2) (y1) (y0) s) (fun v1 s2 => (if zin (x4 + (1 : Int32)) X.1 then (if zin (x4 + (2 : Int32)) X.1 then (if zin (x4 + (3 : Int32)) X.1 then (if (X.2 ((x4 + (3 : Int32))).toNatClampNeg) = 0 then F_L_law_195 X K23  (x4) (v1) ((0 : Int32)) ((X.2 ((x4 + (2 : Int32))).toNatClampNeg)) ((X.2 ((x4 + (1 : Int32))).toNatClampNeg)) s2 else F_L_law_195 X K23  (x4) (v1) ((1 : Int32)) ((X.2 ((x4 + (2 : Int32))).toNatClampNeg)) ((X.2 ((x4 + (1 : Int32))).toNatClampNeg)) s2) else none) else none) else none)))
def F_L_law_332 (X : zkX) (K23 : Int32 → zSt → Option (Int32 × zSt)) (x4 : Int32) (s : zSt) : Option (Int32 × zSt) := F_L_law_1622 X K23  (x4) s
def F_L_law_326 (X : zkX) (K23 : Int32 → zSt → Option (Int32 × zSt)) (x4 : Int32) (y0 : Int64) (y1 : Int64) (s : zSt) : Option (Int32 × zSt) := (if (lg_cmp y1 y0) = 0 then F_L_law_332 X K23  (x4) s else some ((0 : Int32), s))
def F_L_law_468 (X : zkX) (K23 : Int32 → zSt → Option (Int32 × zSt)) (x4 : Int32) (s : zSt) : Option (Int32 × zSt) := F_L_law_1622 X K23  (x4) s
def F_L_law_604 (X : zkX) (K23 : Int32 → zSt → Option (Int32 × zSt)) (x4 : Int32) (s : zSt) : Option (Int32 × zSt) := F_L_law_1622 X K23  (x4) s
def F_L_law_704 (X : zkX) (K23 : Int32 → zSt → Option (Int32 × zSt)) (x4 : Int32) (s : zSt) : Option (Int32 × zSt) := F_L_law_1622 X K23  (x4) s
def F_L_law_856 (X : zkX) (K23 : Int32 → zSt → Option (Int32 × zSt)) (x4 : Int32) (s : zSt) : Option (Int32 × zSt) := F_L_law_1622 X K23  (x4) s
def F_L_law_956 (X : zkX) (K23 : Int32 → zSt → Option (Int32 × zSt)) (x4 : Int32) (s : zSt) : Option (Int32 × zSt) := F_L_law_1622 X K23  (x4) s
def F_L_law_1075 (X : zkX) (K23 : Int32 → zSt → Option (Int32 × zSt)) (x4 : Int32) (s : zSt) : Option (Int32 × zSt) := F_L_law_1622 X K23  (x4) s
def F_L_law_1069 (X : zkX) (K23 : Int32 → zSt → Option (Int32 × zSt)) (x4 : Int32) (y0 : Int64) (y1 : Int64) (s : zSt) : Option (Int32 × zSt) := (if (lg_cmp y1 y0) = 0 then F_L_law_1075 X K23  (x4) s else some ((0 : Int32), s))
def F_L_law_1182 (X : zkX) (K23 : Int32 → zSt → Option (Int32 × zSt)) (x4 : Int32) (s : zSt) : Option (Int32 × zSt) := F_L_law_1622 X K23  (x4) s
def F_L_law_1176 (X : zkX) (K23 : Int32 → zSt → Option (Int32 × zSt)) (x4 : Int32) (y0 : Int64) (y1 : Int64) (s : zSt) : Option (Int32 × zSt) := (if (lg_cmp y1 y0) = 0 then F_L_law_1182 X K23  (x4) s else some ((0 : Int32), s))
def F_L_law_1289 (X : zkX) (K23 : Int32 → zSt → Option (Int32 × zSt)) (x4 : Int32) (s : zSt) : Option (Int32 × zSt) := F_L_law_1622 X K23  (x4) s
def F_L_law_1283 (X : zkX) (K23 : Int32 → zSt → Option (Int32 × zSt)) (x4 : Int32) (y0 : Int64) (y1 : Int64) (s : zSt) : Option (Int32 × zSt) := (if (lg_cmp y1 y0) = 0 then F_L_law_1289 X K23  (x4) s else some ((0 : Int32), s))
def F_L_law_1345 (X : zkX) (K23 : Int32 → zSt → Option (Int32 × zSt)) (x4 : Int32) (s : zSt) : Option (Int32 × zSt) := F_L_law_1622 X K23  (x4) s
def F_L_law_1412 (X : zkX) (K23 : Int32 → zSt → Option (Int32 × zSt)) (x4 : Int32) (s : zSt) : Option (Int32 × zSt) := F_L_law_1622 X K23  (x4) s
def F_L_law_1535 (X : zkX) (K23 : Int32 → zSt → Option (Int32 × zSt)) (x4 : Int32) (s : zSt) : Option (Int32 × zSt) := F_L_law_1622 X K23  (x4) s
def F_L_law_1529 (X : zkX) (K23 : Int32 → zSt → Option (Int32 × zSt)) (x4 : Int32) (y0 : Int64) (y1 : Int64) (s : zSt) : Option (Int32 × zSt) := (if (lg_cmp y1 y0) = 0 then F_L_law_1535 X K23  (x4) s else some ((0 : Int32), s))
def F_L_law_23 (X : zkX)  : Nat → Int32 → zSt → Option (Int32 × zSt)
  | 0, _, _ => none
  | n + 1, x4, s => (if ((Int32.ofNat X.1) - (8 : Int32)) < x4 then some ((1 : Int32), s) else (if zin x4 X.1 then (if ((X.2 (x4).toNatClampNeg) &&& (31 : Int32)) = (0 : Int32) then (if zin (x4 + (1 : Int32)) X.1 then (if zin (x4 + (2 : Int32)) X.1 then (if zin (x4 + (3 : Int32)) X.1 then (if (X.2 ((x4 + (3 : Int32))).toNatClampNeg) = 0 then F_L_law_163 X (F_L_law_23 X  n)  (x4) ((0 : Int32)) ((X.2 ((x4 + (2 : Int32))).toNatClampNeg)) ((X.2 ((x4 + (1 : Int32))).toNatClampNeg)) s else F_L_law_163 X (F_L_law_23 X  n)  (x4) ((1 : Int32)) ((X.2 ((x4 + (2 : Int32))).toNatClampNeg)) ((X.2 ((x4 + (1 : Int32))).toNatClampNeg)) s) else none) else none) else none) else (if ((X.2 (x4).toNatClampNeg) &&& (31 : Int32)) = (1 : Int32) then (if zin (x4 + (1 : Int32)) X.1 then (if zin (x4 + (2 : Int32)) X.1 then (zb (F_L_copy ((X.2 ((x4 + (1 : Int32))).toNatClampNeg)) ((X.2 ((x4 + (2 : Int32))).toNatClampNeg)) s) (fun v7 s8 => (if zin (x4 + (1 : Int32)) X.1 then (if zin (x4 + (2 : Int32)) X.1 then (zb (F_R_copy ((X.2 ((x4 + (1 : Int32))).toNatClampNeg)) ((X.2 ((x4 + (2 : Int32))).toNatClampNeg)) s8) (fun v9 s10 => (zb (F_R_thrown  s10) (fun v11 s12 => (if v11 = v7 then F_L_law_1622 X (F_L_law_23 X  n)  (x4) s12 else some ((0 : Int32), s12)))))) else none) else none))) else none) else none) else (if ((X.2 (x4).toNatClampNeg) &&& (31 : Int32)) = (2 : Int32) then (if zin (x4 + (1 : Int32)) X.1 then (if zin (x4 + (2 : Int32)) X.1 then (zb (F_L_same ((X.2 ((x4 + (1 : Int32))).toNatClampNeg)) ((X.2 ((x4 + (2 : Int32))).toNatClampNeg)) s) (fun v13 s14 => (if zin (x4 + (1 : Int32)) X.1 then (if zin (x4 + (2 : Int32)) X.1 then (zb (F_R_same ((X.2 ((x4 + (1 : Int32))).toNatClampNeg)) ((X.2 ((x4 + (2 : Int32))).toNatClampNeg)) s14) (fun v15 s16 => (zb (F_R_thrown  s16) (fun v17 s18 => (if v17 = v13 then (if v13 = 0 then (if zin (0 : Int32) 1 then (if v15 = 0 then F_L_law_326 X (F_L_law_23 X  n)  (x4) ((0 : Int64)) ((gB s18 3 ((0 : Int32)).toNatClampNeg)) s18 else F_L_law_326 X (F_L_law_23 X  n)  (x4) ((1 : Int64)) ((gB s18 3 ((0 : Int32)).toNatClampNeg)) s18) else none) else F_L_law_332 X (F_L_law_23 X  n)  (x4) s18) else some ((0 : Int32), s18)))))) else none) else none))) else none) else none) else (if ((X.2 (x4).toNatClampNeg) &&& (31 : Int32)) = (3 : Int32) then (if zin (x4 + (1 : Int32)) X.1 then (if zin (x4 + (2 : Int32)) X.1 then (if zin (x4 + (3 : Int32)) X.1 then (zb (F_L_operand ((X.2 ((x4 + (1 : Int32))).toNatClampNeg)) (((((X.2 ((x4 + (2 : Int32))).toNatClampNeg)).toInt64 <<< (((32 : Int32)).toInt64 &&& 63)) ||| (((X.2 ((x4 + (3 : Int32))).toNatClampNeg)).toInt64 &&& (4294967295 : Int64)))) s) (fun v19 s20 => (if zin (x4 + (1 : Int32)) X.1 then (if zin (x4 + (2 : Int32)) X.1 then (if zin (x4 + (3 : Int32)) X.1 then (zb (F_R_operand ((X.2 ((x4 + (1 : Int32))).toNatClampNeg)) (((((X.2 ((x4 + (2 : Int32))).toNatClampNeg)).toInt64 <<< (((32 : Int32)).toInt64 &&& 63)) ||| (((X.2 ((x4 + (3 : Int32))).toNatClampNeg)).toInt64 &&& (4294967295 : Int64)))) s20) (fun v21 s22 => (zb (F_R_thrown  s22) (fun v23 s24 => (if v23 = v19 then F_L_law_1622 X (F_L_law_23 X  n)  (x4) s24 else some ((0 : Int32), s24)))))) else none) else none) else none))) else none) else none) else none) else (if ((X.2 (x4).toNatClampNeg) &&& (31 : Int32)) = (4 : Int32) then (zb (F_X_kind  s) (fun v25 s26 => (zb (F_R_kind  s26) (fun v27 s28 => (if v25 = v27 then F_L_law_1622 X (F_L_law_23 X  n)  (x4) s28 else some ((0 : Int32), s28)))))) else (if ((X.2 (x4).toNatClampNeg) &&& (31 : Int32)) = (5 : Int32) then (zb (F_L_bits  s) (fun v29 s30 => (zb (F_R_bits  s30) (fun v31 s32 => (zb (F_R_thrown  s32) (fun v33 s34 => (if v33 = v29 then (if v29 = 0 then (if zin (0 : Int32) 1 then (if (lg_cmp (gB s34 3 ((0 : Int32)).toNatClampNeg) v31) = 0 then F_L_law_468 X (F_L_law_23 X  n)  (x4) s34 else some ((0 : Int32), s34)) else none) else F_L_law_468 X (F_L_law_23 X  n)  (x4) s34) else some ((0 : Int32), s34)))))))) else (if ((X.2 (x4).toNatClampNeg) &&& (31 : Int32)) = (6 : Int32) then (if zin (x4 + (1 : Int32)) X.1 then (zb (F_L_hold ((X.2 ((x4 + (1 : Int32))).toNatClampNeg)) s) (fun v35 s36 => (if zin (x4 + (1 : Int32)) X.1 then (zb (F_R_hold ((X.2 ((x4 + (1 : Int32))).toNatClampNeg)) s36) (fun v37 s38 => (zb (F_R_thrown  s38) (fun v39 s40 => (if v39 = v35 then F_L_law_1622 X (F_L_law_23 X  n)  (x4) s40 else some ((0 : Int32), s40)))))) else none))) else none) else (if ((X.2 (x4).toNatClampNeg) &&& (31 : Int32)) = (7 : Int32) then (if zin (x4 + (1 : Int32)) X.1 then (if zin (x4 + (2 : Int32)) X.1 then (if zin (x4 + (3 : Int32)) X.1 then (zb (F_L_get ((X.2 ((x4 + (1 : Int32))).toNatClampNeg)) (((((X.2 ((x4 + (2 : Int32))).toNatClampNeg)).toInt64 <<< (((32 : Int32)).toInt64 &&& 63)) ||| (((X.2 ((x4 + (3 : Int32))).toNatClampNeg)).toInt64 &&& (4294967295 : Int64)))) s) (fun v41 s42 => (if zin (x4 + (1 : Int32)) X.1 then (if zin (x4 + (2 : Int32)) X.1 then (if zin (x4 + (3 : Int32)) X.1 then (zb (F_R_get ((X.2 ((x4 + (1 : Int32))).toNatClampNeg)) (((((X.2 ((x4 + (2 : Int32))).toNatClampNeg)).toInt64 <<< (((32 : Int32)).toInt64 &&& 63)) ||| (((X.2 ((x4 + (3 : Int32))).toNatClampNeg)).toInt64 &&& (4294967295 : Int64)))) s42) (fun v43 s44 => (zb (F_R_thrown  s44) (fun v45 s46 => (if v45 = v41 then (if v41 = 0 then (if zin (0 : Int32) 1 then (if (lg_cmp (gB s46 3 ((0 : Int32)).toNatClampNeg) (v43).toInt64) = 0 then F_L_law_604 X (F_L_law_23 X  n)  (x4) s46 else some ((0 : Int32), s46)) else none) else F_L_law_604 X (F_L_law_23 X  n)  (x4) s46) else some ((0 : Int32), s46)))))) else none) else none) else none))) else none) else none) else none) else (if ((X.2 (x4).toNatClampNeg) &&& (31 : Int32)) = (8 : Int32) then (if zin (x4 + (1 : Int32)) X.1 then (if zin (x4 + (2 : Int32)) X.1 then (if zin (x4 + (3 : Int32)) X.1 then (zb (F_L_put ((X.2 ((x4 + (1 : Int32))).toNatClampNeg)) (((((X.2 ((x4 + (2 : Int32))).toNatClampNeg)).toInt64 <<< (((32 : Int32)).toInt64 &&& 63)) ||| (((X.2 ((x4 + (3 : Int32))).toNatClampNeg)).toInt64 &&& (4294967295 : Int64)))) s) (fun v47 s48 => (if zin (x4 + (1 : Int32)) X.1 then (if zin (x4 + (2 : Int32)) X.1 then (if zin (x4 + (3 : Int32)) X.1 then (zb (F_R_put_1 ((X.2 ((x4 + (1 : Int32))).toNatClampNeg)) (((((X.2 ((x4 + (2 : Int32))).toNatClampNeg)).toInt64 <<< (((32 : Int32)).toInt64 &&& 63)) ||| (((X.2 ((x4 + (3 : Int32))).toNatClampNeg)).toInt64 &&& (4294967295 : Int64)))) s48) (fun v49 s50 => (zb (F_R_thrown  s50) (fun v51 s52 => (if v51 = v47 then (if v47 = 0 then (if zin (0 : Int32) 1 then (if (lg_cmp (gB s52 3 ((0 : Int32)).toNatClampNeg) (v49).toInt64) = 0 then F_L_law_704 X (F_L_law_23 X  n)  (x4) s52 else some ((0 : Int32), s52)) else none) else F_L_law_704 X (F_L_law_23 X  n)  (x4) s52) else some ((0 : Int32), s52)))))) else none) else none) else none))) else none) else none) else none) else (if ((X.2 (x4).toNatClampNeg) &&& (31 : Int32)) = (9 : Int32) then (if zin (x4 + (1 : Int32)) X.1 then (if zin (x4 + (2 : Int32)) X.1 then (if zin (x4 + (3 : Int32)) X.1 then (if zin (x4 + (4 : Int32)) X.1 then (if zin (x4 + (5 : Int32)) X.1 then (if zin (x4 + (6 : Int32)) X.1 then (if zin (x4 + (7 : Int32)) X.1 then (zb (F_L_define ((X.2 ((x4 + (1 : Int32))).toNatClampNeg)) (((((X.2 ((x4 + (2 : Int32))).toNatClampNeg)).toInt64 <<< (((32 : Int32)).toInt64 &&& 63)) ||| (((X.2 ((x4 + (3 : Int32))).toNatClampNeg)).toInt64 &&& (4294967295 : Int64)))) ((X.2 ((x4 + (4 : Int32))).toNatClampNeg)) ((X.2 ((x4 + (5 : Int32))).toNatClampNeg)) ((X.2 ((x4 + (6 : Int32))).toNatClampNeg)) ((X.2 ((x4 + (7 : Int32))).toNatClampNeg)) s) (fun v53 s54 => (if zin (x4 + (1 : Int32)) X.1 then (if zin (x4 + (2 : Int32)) X.1 then (if zin (x4 + (3 : Int32)) X.1 then (if zin (x4 + (4 : Int32)) X.1 then (if zin (x4 + (5 : Int32)) X.1 then (if zin (x4 + (6 : Int32)) X.1 then (if zin (x4 + (7 : Int32)) X.1 then (zb (F_R_define ((X.2 ((x4 + (1 : Int32))).toNatClampNeg)) (((((X.2 ((x4 + (2 : Int32))).toNatClampNeg)).toInt64 <<< (((32 : Int32)).toInt64 &&& 63)) ||| (((X.2 ((x4 + (3 : Int32))).toNatClampNeg)).toInt64 &&& (4294967295 : Int64)))) ((X.2 ((x4 + (4 : Int32))).toNatClampNeg)) ((X.2 ((x4 + (5 : Int32))).toNatClampNeg)) ((X.2 ((x4 + (6 : Int32))).toNatClampNeg)) ((X.2 ((x4 + (7 : Int32))).toNatClampNeg)) s54) (fun v55 s56 => (zb (F_R_thrown  s56) (fun v57 s58 => (if v57 = v53 then (if v53 = 0 then (if zin (0 : Int32) 1 then (if (lg_cmp (gB s58 3 ((0 : Int32)).toNatClampNeg) (v55).toInt64) = 0 then F_L_law_856 X (F_L_law_23 X  n)  (x4) s58 else some ((0 : Int32), s58)) else none) else F_L_law_856 X (F_L_law_23 X  n)  (x4) s58) else some ((0 : Int32), s58)))))) else none) else none) else none) else none) else none) else none) else none))) else none) else none) else none) else none) else none) else none) else none) else (if ((X.2 (x4).toNatClampNeg) &&& (31 : Int32)) = (10 : Int32) then (if zin (x4 + (1 : Int32)) X.1 then (if zin (x4 + (2 : Int32)) X.1 then (if zin (x4 + (3 : Int32)) X.1 then (zb (F_L_own ((X.2 ((x4 + (1 : Int32))).toNatClampNeg)) (((((X.2 ((x4 + (2 : Int32))).toNatClampNeg)).toInt64 <<< (((32 : Int32)).toInt64 &&& 63)) ||| (((X.2 ((x4 + (3 : Int32))).toNatClampNeg)).toInt64 &&& (4294967295 : Int64)))) s) (fun v59 s60 => (if zin (x4 + (1 : Int32)) X.1 then (if zin (x4 + (2 : Int32)) X.1 then (if zin (x4 + (3 : Int32)) X.1 then (zb (F_R_own ((X.2 ((x4 + (1 : Int32))).toNatClampNeg)) (((((X.2 ((x4 + (2 : Int32))).toNatClampNeg)).toInt64 <<< (((32 : Int32)).toInt64 &&& 63)) ||| (((X.2 ((x4 + (3 : Int32))).toNatClampNeg)).toInt64 &&& (4294967295 : Int64)))) s60) (fun v61 s62 => (zb (F_R_thrown  s62) (fun v63 s64 => (if v63 = v59 then (if v59 = 0 then (if zin (0 : Int32) 1 then (if (lg_cmp (gB s64 3 ((0 : Int32)).toNatClampNeg) (v61).toInt64) = 0 then F_L_law_956 X (F_L_law_23 X  n)  (x4) s64 else some ((0 : Int32), s64)) else none) else F_L_law_956 X (F_L_law_23 X  n)  (x4) s64) else some ((0 : Int32), s64)))))) else none) else none) else none))) else none) else none) else none) else (if ((X.2 (x4).toNatClampNeg) &&& (31 : Int32)) = (11 : Int32) then (if zin (x4 + (1 : Int32)) X.1 then (if zin (x4 + (2 : Int32)) X.1 then (if zin (x4 + (3 : Int32)) X.1 then (if zin (x4 + (4 : Int32)) X.1 then (zb (F_L_setter ((X.2 ((x4 + (1 : Int32))).toNatClampNeg)) (((((X.2 ((x4 + (2 : Int32))).toNatClampNeg)).toInt64 <<< (((32 : Int32)).toInt64 &&& 63)) ||| (((X.2 ((x4 + (3 : Int32))).toNatClampNeg)).toInt64 &&& (4294967295 : Int64)))) ((X.2 ((x4 + (4 : Int32))).toNatClampNeg)) s) (fun v65 s66 => (if zin (x4 + (1 : Int32)) X.1 then (if zin (x4 + (2 : Int32)) X.1 then (if zin (x4 + (3 : Int32)) X.1 then (if zin (x4 + (4 : Int32)) X.1 then (zb (F_R_setter ((X.2 ((x4 + (1 : Int32))).toNatClampNeg)) (((((X.2 ((x4 + (2 : Int32))).toNatClampNeg)).toInt64 <<< (((32 : Int32)).toInt64 &&& 63)) ||| (((X.2 ((x4 + (3 : Int32))).toNatClampNeg)).toInt64 &&& (4294967295 : Int64)))) ((X.2 ((x4 + (4 : Int32))).toNatClampNeg)) s66) (fun v67 s68 => (zb (F_R_thrown  s68) (fun v69 s70 => (if v69 = v65 then (if v65 = 0 then (if zin (0 : Int32) 1 then (if v67 = 0 then F_L_law_1069 X (F_L_law_23 X  n)  (x4) ((0 : Int64)) ((gB s70 3 ((0 : Int32)).toNatClampNeg)) s70 else F_L_law_1069 X (F_L_law_23 X  n)  (x4) ((1 : Int64)) ((gB s70 3 ((0 : Int32)).toNatClampNeg)) s70) else none) else F_L_law_1075 X (F_L_law_23 X  n)  (x4) s70) else some ((0 : Int32), s70)))))) else none) else none) else none) else none))) else none) else none) else none) else none) else (if ((X.2 (x4).toNatClampNeg) &&& (31 : Int32)) = (12 : Int32) then (if zin (x4 + (1 : Int32)) X.1 then (if zin (x4 + (2 : Int32)) X.1 then (if zin (x4 + (3 : Int32)) X.1 then (zb (F_L_has ((X.2 ((x4 + (1 : Int32))).toNatClampNeg)) (((((X.2 ((x4 + (2 : Int32))).toNatClampNeg)).toInt64 <<< (((32 : Int32)).toInt64 &&& 63)) ||| (((X.2 ((x4 + (3 : Int32))).toNatClampNeg)).toInt64 &&& (4294967295 : Int64)))) s) (fun v71 s72 => (if zin (x4 + (1 : Int32)) X.1 then (if zin (x4 + (2 : Int32)) X.1 then (if zin (x4 + (3 : Int32)) X.1 then (zb (F_R_has_1 ((X.2 ((x4 + (1 : Int32))).toNatClampNeg)) (((((X.2 ((x4 + (2 : Int32))).toNatClampNeg)).toInt64 <<< (((32 : Int32)).toInt64 &&& 63)) ||| (((X.2 ((x4 + (3 : Int32))).toNatClampNeg)).toInt64 &&& (4294967295 : Int64)))) s72) (fun v73 s74 => (zb (F_R_thrown  s74) (fun v75 s76 => (if v75 = v71 then (if v71 = 0 then (if zin (0 : Int32) 1 then (if v73 = 0 then F_L_law_1176 X (F_L_law_23 X  n)  (x4) ((0 : Int64)) ((gB s76 3 ((0 : Int32)).toNatClampNeg)) s76 else F_L_law_1176 X (F_L_law_23 X  n)  (x4) ((1 : Int64)) ((gB s76 3 ((0 : Int32)).toNatClampNeg)) s76) else none) else F_L_law_1182 X (F_L_law_23 X  n)  (x4) s76) else some ((0 : Int32), s76)))))) else none) else none) else none))) else none) else none) else none) else (if ((X.2 (x4).toNatClampNeg) &&& (31 : Int32)) = (13 : Int32) then (if zin (x4 + (1 : Int32)) X.1 then (if zin (x4 + (2 : Int32)) X.1 then (if zin (x4 + (3 : Int32)) X.1 then (zb (F_L_delete ((X.2 ((x4 + (1 : Int32))).toNatClampNeg)) (((((X.2 ((x4 + (2 : Int32))).toNatClampNeg)).toInt64 <<< (((32 : Int32)).toInt64 &&& 63)) ||| (((X.2 ((x4 + (3 : Int32))).toNatClampNeg)).toInt64 &&& (4294967295 : Int64)))) s) (fun v77 s78 => (if zin (x4 + (1 : Int32)) X.1 then (if zin (x4 + (2 : Int32)) X.1 then (if zin (x4 + (3 : Int32)) X.1 then (zb (F_R_delete ((X.2 ((x4 + (1 : Int32))).toNatClampNeg)) (((((X.2 ((x4 + (2 : Int32))).toNatClampNeg)).toInt64 <<< (((32 : Int32)).toInt64 &&& 63)) ||| (((X.2 ((x4 + (3 : Int32))).toNatClampNeg)).toInt64 &&& (4294967295 : Int64)))) s78) (fun v79 s80 => (zb (F_R_thrown  s80) (fun v81 s82 => (if v81 = v77 then (if v77 = 0 then (if zin (0 : Int32) 1 then (if v79 = 0 then F_L_law_1283 X (F_L_law_23 X  n)  (x4) ((0 : Int64)) ((gB s82 3 ((0 : Int32)).toNatClampNeg)) s82 else F_L_law_1283 X (F_L_law_23 X  n)  (x4) ((1 : Int64)) ((gB s82 3 ((0 : Int32)).toNatClampNeg)) s82) else none) else F_L_law_1289 X (F_L_law_23 X  n)  (x4) s82) else some ((0 : Int32), s82)))))) else none) else none) else none))) else none) else none) else none) else (if ((X.2 (x4).toNatClampNeg) &&& (31 : Int32)) = (14 : Int32) then (if zin (x4 + (1 : Int32)) X.1 then (zb (F_L_keys ((X.2 ((x4 + (1 : Int32))).toNatClampNeg)) s) (fun v83 s84 => (if zin (x4 + (1 : Int32)) X.1 then (zb (F_R_keys ((X.2 ((x4 + (1 : Int32))).toNatClampNeg)) s84) (fun v85 s86 => (zb (F_R_thrown  s86) (fun v87 s88 => (if v87 = v83 then (if v83 = 0 then (if zin (0 : Int32) 1 then (if (lg_cmp (gB s88 3 ((0 : Int32)).toNatClampNeg) (v85).toInt64) = 0 then F_L_law_1345 X (F_L_law_23 X  n)  (x4) s88 else some ((0 : Int32), s88)) else none) else F_L_law_1345 X (F_L_law_23 X  n)  (x4) s88) else some ((0 : Int32), s88)))))) else none))) else none) else (if ((X.2 (x4).toNatClampNeg) &&& (31 : Int32)) = (15 : Int32) then (if zin (x4 + (1 : Int32)) X.1 then (if zin (x4 + (2 : Int32)) X.1 then (zb (F_L_key ((X.2 ((x4 + (1 : Int32))).toNatClampNeg)) ((X.2 ((x4 + (2 : Int32))).toNatClampNeg)) s) (fun v89 s90 => (if zin (x4 + (1 : Int32)) X.1 then (if zin (x4 + (2 : Int32)) X.1 then (zb (F_R_key ((X.2 ((x4 + (1 : Int32))).toNatClampNeg)) ((X.2 ((x4 + (2 : Int32))).toNatClampNeg)) s90) (fun v91 s92 => (zb (F_R_thrown  s92) (fun v93 s94 => (if v93 = v89 then (if v89 = 0 then (if zin (0 : Int32) 1 then (if (lg_cmp (gB s94 3 ((0 : Int32)).toNatClampNeg) v91) = 0 then F_L_law_1412 X (F_L_law_23 X  n)  (x4) s94 else some ((0 : Int32), s94)) else none) else F_L_law_1412 X (F_L_law_23 X  n)  (x4) s94) else some ((0 : Int32), s94)))))) else none) else none))) else none) else none) else (if ((X.2 (x4).toNatClampNeg) &&& (31 : Int32)) = (16 : Int32) then (if zin (x4 + (1 : Int32)) X.1 then (if zin (x4 + (2 : Int32)) X.1 then (zb (F_L_lock ((X.2 ((x4 + (1 : Int32))).toNatClampNeg)) ((X.2 ((x4 + (2 : Int32))).toNatClampNeg)) s) (fun v95 s96 => (if zin (x4 + (1 : Int32)) X.1 then (if zin (x4 + (2 : Int32)) X.1 then (zb (F_R_lock ((X.2 ((x4 + (1 : Int32))).toNatClampNeg)) ((X.2 ((x4 + (2 : Int32))).toNatClampNeg)) s96) (fun v97 s98 => (zb (F_R_thrown  s98) (fun v99 s100 => (if v99 = v95 then F_L_law_1622 X (F_L_law_23 X  n)  (x4) s100 else some ((0 : Int32), s100)))))) else none) else none))) else none) else none) else (if ((X.2 (x4).toNatClampNeg) &&& (31 : Int32)) = (17 : Int32) then (if zin (x4 + (1 : Int32)) X.1 then (if zin (x4 + (2 : Int32)) X.1 then (zb (F_L_locked ((X.2 ((x4 + (1 : Int32))).toNatClampNeg)) ((X.2 ((x4 + (2 : Int32))).toNatClampNeg)) s) (fun v101 s102 => (if zin (x4 + (1 : Int32)) X.1 then (if zin (x4 + (2 : Int32)) X.1 then (zb (F_R_locked ((X.2 ((x4 + (1 : Int32))).toNatClampNeg)) ((X.2 ((x4 + (2 : Int32))).toNatClampNeg)) s102) (fun v103 s104 => (zb (F_R_thrown  s104) (fun v105 s106 => (if v105 = v101 then (if v101 = 0 then (if zin (0 : Int32) 1 then (if v103 = 0 then F_L_law_1529 X (F_L_law_23 X  n)  (x4) ((0 : Int64)) ((gB s106 3 ((0 : Int32)).toNatClampNeg)) s106 else F_L_law_1529 X (F_L_law_23 X  n)  (x4) ((1 : Int64)) ((gB s106 3 ((0 : Int32)).toNatClampNeg)) s106) else none) else F_L_law_1535 X (F_L_law_23 X  n)  (x4) s106) else some ((0 : Int32), s106)))))) else none) else none))) else none) else none) else (if ((X.2 (x4).toNatClampNeg) &&& (31 : Int32)) = (18 : Int32) then (if zin (x4 + (1 : Int32)) X.1 then (if zin (x4 + (2 : Int32)) X.1 then (zb (F_L_prototype ((X.2 ((x4 + (1 : Int32))).toNatClampNeg)) ((X.2 ((x4 + (2 : Int32))).toNatClampNeg)) s) (fun v107 s108 => (if zin (x4 + (1 : Int32)) X.1 then (if zin (x4 + (2 : Int32)) X.1 then (zb (F_R_prototype ((X.2 ((x4 + (1 : Int32))).toNatClampNeg)) ((X.2 ((x4 + (2 : Int32))).toNatClampNeg)) s108) (fun v109 s110 => (zb (F_R_thrown  s110) (fun v111 s112 => (if v111 = v107 then F_L_law_1622 X (F_L_law_23 X  n)  (x4) s112 else some ((0 : Int32), s112)))))) else none) else none))) else none) else none) else (if ((X.2 (x4).toNatClampNeg) &&& (31 : Int32)) = (19 : Int32) then (if zin (x4 + (1 : Int32)) X.1 then (zb (F_L_stress ((X.2 ((x4 + (1 : Int32))).toNatClampNeg)) s) (fun v113 s114 => (if zin (x4 + (1 : Int32)) X.1 then (zb (F_R_stress ((X.2 ((x4 + (1 : Int32))).toNatClampNeg)) s114) (fun v115 s116 => (zb (F_R_thrown  s116) (fun v117 s118 => (if v117 = v113 then F_L_law_1622 X (F_L_law_23 X  n)  (x4) s118 else some ((0 : Int32), s118)))))) else none))) else none) else F_L_law_1622 X (F_L_law_23 X  n)  (x4) s)))))))))))))))))))) else none))
def F_L_law (X : zkX) (s : zSt) : Option (Int32 × zSt) := F_L_law_23 X  zFuel ((0 : Int32)) s
theorem zJ_L_law_1622 {X : zkX} (K23 : Int32 → zSt → Option (Int32 × zSt)) (hK23 : ∀ (x4 : Int32) (s : zSt) r, K23 x4 s = some r → zk_W X 11 m_L_law (23, [(0, .ref 0), (1, .ref 1), (2, .ref 7), (3, .ref 20), (4, .int x4)], [], zHp s) (fun o => o = zoI r)) (x4 : Int32) (s : zSt) (r) (hF : F_L_law_1622 X K23 x4 s = some r) : zk_W X 11 m_L_law (1622, [(0, .ref 0), (1, .ref 1), (2, .ref 7), (3, .ref 20), (4, .int x4)], [], zHp s) (fun o => o = zoI r) := by
  unfold F_L_law_1622 at hF
  refine zi_iinc (y := (x4 + (8 : Int32))) rfl rfl rfl rfl rfl ?_
  refine zi_goto rfl ?_
  exact zk_sb (hK23 _ _ _ hF) rfl ⟨rfl, rfl, rfl, rfl, rfl, trivial⟩
theorem zJ_L_law_195 {X : zkX} (K23 : Int32 → zSt → Option (Int32 × zSt)) (hK23 : ∀ (x4 : Int32) (s : zSt) r, K23 x4 s = some r → zk_W X 11 m_L_law (23, [(0, .ref 0), (1, .ref 1), (2, .ref 7), (3, .ref 20), (4, .int x4)], [], zHp s) (fun o => o = zoI r)) (x4 : Int32) (x5 : Int32) (y0 : Int32) (y1 : Int32) (y2 : Int32) (s : zSt) (r) (hF : F_L_law_195 X K23 x4 x5 y0 y1 y2 s = some r) : zk_W X 11 m_L_law (195, [(0, .ref 0), (1, .ref 1), (2, .ref 7), (3, .ref 20), (4, .int x4), (5, .int x5)], [.int y0, .int y1, .int y2, .ref 7], zHp s) (fun o => o = zoI r) := by
  unfold F_L_law_195 at hF
  obtain ⟨v3, s4, hm, hF⟩ := zf_b hF
  refine zi_callV rfl rfl rfl (zh_R _) rfl (zk_C.to (zk_C.up (by decide) (zF_R_object hm)) (fun o ho => zk_K.okn ho ?_))
  refine zi_aload_n rfl rfl ?_
  obtain ⟨v5, s6, hm, hF⟩ := zf_b hF
  refine zi_callV rfl rfl rfl (zh_R _) rfl (zk_C.to (zk_C.up (by decide) (zF_R_thrown hm)) (fun o ho => zk_K.okv ho ?_))
  refine zi_iload rfl rfl ?_
  refine zi_iceq rfl (fun hc => ?_) (fun hc => ?_)
  · have hF := zf_p hc hF
    refine zi_goto rfl ?_
    exact zk_sb (zJ_L_law_1622 K23 hK23  _ _ _ hF) rfl ⟨rfl, rfl, rfl, rfl, rfl, trivial⟩
  · have hF := zf_n hc hF
    refine zi_iconst (v := (0 : Int32)) rfl rfl ?_
    cases hF
    exact zi_zreturn rfl rfl rfl rfl
theorem zJ_L_law_163 {X : zkX} (K23 : Int32 → zSt → Option (Int32 × zSt)) (hK23 : ∀ (x4 : Int32) (s : zSt) r, K23 x4 s = some r → zk_W X 11 m_L_law (23, [(0, .ref 0), (1, .ref 1), (2, .ref 7), (3, .ref 20), (4, .int x4)], [], zHp s) (fun o => o = zoI r)) (x4 : Int32) (y0 : Int32) (y1 : Int32) (y2 : Int32) (s : zSt) (r) (hF : F_L_law_163 X K23 x4 y0 y1 y2 s = some r) : zk_W X 11 m_L_law (163, [(0, .ref 0), (1, .ref 1), (2, .ref 7), (3, .ref 20), (4, .int x4)], [.int y0, .int y1, .int y2, .ref 1], zHp s) (fun o => o = zoI r) := by
  unfold F_L_law_163 at hF
  obtain ⟨v1, s2, hm, hF⟩ := zf_b hF
  refine zi_callS rfl rfl rfl rfl (zk_C.to (zk_C.up (by decide) (zF_L_object hm)) (fun o ho => zk_K.okv ho ?_))
  refine zi_istore rfl rfl rfl ?_
  refine zi_aload_n rfl rfl ?_
  refine zi_aload_n rfl rfl ?_
  refine zi_iload rfl rfl ?_
  refine zi_iconst (v := (1 : Int32)) rfl rfl ?_
  refine zi_iadd rfl ?_
  obtain ⟨hb, hF⟩ := zf_g hF
  refine zi_iaload rfl rfl (zin_ok hb) ?_
  refine zi_aload_n rfl rfl ?_
  refine zi_iload rfl rfl ?_
  refine zi_iconst (v := (2 : Int32)) rfl rfl ?_
  refine zi_iadd rfl ?_
  obtain ⟨hb, hF⟩ := zf_g hF
  refine zi_iaload rfl rfl (zin_ok hb) ?_
  refine zi_aload_n rfl rfl ?_
  refine zi_iload rfl rfl ?_
  refine zi_iconst (v := (3 : Int32)) rfl rfl ?_
  refine zi_iadd rfl ?_
  obtain ⟨hb, hF⟩ := zf_g hF
  refine zi_iaload rfl rfl (zin_ok hb) ?_
  refine zi_ifeq rfl (fun hc => ?_) (fun hc => ?_)
  · have hF := zf_p hc hF
    refine zi_iconst (v := (0 : Int32)) rfl rfl ?_
    exact zk_sb (zJ_L_law_195 K23 hK23  _ _ _ _ _ _ _ hF) rfl ⟨rfl, rfl, rfl, rfl, rfl, rfl, trivial⟩
  · have hF := zf_n hc hF
    refine zi_iconst (v := (1 : Int32)) rfl rfl ?_
    refine zi_goto rfl ?_
    exact zk_sb (zJ_L_law_195 K23 hK23  _ _ _ _ _ _ _ hF) rfl ⟨rfl, rfl, rfl, rfl, rfl, rfl, trivial⟩
theorem zJ_L_law_332 {X : zkX} (K23 : Int32 → zSt → Option (Int32 × zSt)) (hK23 : ∀ (x4 : Int32) (s : zSt) r, K23 x4 s = some r → zk_W X 11 m_L_law (23, [(0, .ref 0), (1, .ref 1), (2, .ref 7), (3, .ref 20), (4, .int x4)], [], zHp s) (fun o => o = zoI r)) (x4 : Int32) (s : zSt) (r) (hF : F_L_law_332 X K23 x4 s = some r) : zk_W X 11 m_L_law (332, [(0, .ref 0), (1, .ref 1), (2, .ref 7), (3, .ref 20), (4, .int x4)], [], zHp s) (fun o => o = zoI r) := by
  unfold F_L_law_332 at hF
  refine zi_goto rfl ?_
  exact zk_sb (zJ_L_law_1622 K23 hK23  _ _ _ hF) rfl ⟨rfl, rfl, rfl, rfl, rfl, trivial⟩
theorem zJ_L_law_326 {X : zkX} (K23 : Int32 → zSt → Option (Int32 × zSt)) (hK23 : ∀ (x4 : Int32) (s : zSt) r, K23 x4 s = some r → zk_W X 11 m_L_law (23, [(0, .ref 0), (1, .ref 1), (2, .ref 7), (3, .ref 20), (4, .int x4)], [], zHp s) (fun o => o = zoI r)) (x4 : Int32) (y0 : Int64) (y1 : Int64) (s : zSt) (r) (hF : F_L_law_326 X K23 x4 y0 y1 s = some r) : zk_W X 11 m_L_law (326, [(0, .ref 0), (1, .ref 1), (2, .ref 7), (3, .ref 20), (4, .int x4)], [.long y0, .long y1], zHp s) (fun o => o = zoI r) := by
  unfold F_L_law_326 at hF
  refine zi_lcmp rfl ?_
  refine zi_ifeq rfl (fun hc => ?_) (fun hc => ?_)
  · have hF := zf_p hc hF
    exact zk_sb (zJ_L_law_332 K23 hK23  _ _ _ hF) rfl ⟨rfl, rfl, rfl, rfl, rfl, trivial⟩
  · have hF := zf_n hc hF
    refine zi_iconst (v := (0 : Int32)) rfl rfl ?_
    cases hF
    exact zi_zreturn rfl rfl rfl rfl
theorem zJ_L_law_468 {X : zkX} (K23 : Int32 → zSt → Option (Int32 × zSt)) (hK23 : ∀ (x4 : Int32) (s : zSt) r, K23 x4 s = some r → zk_W X 11 m_L_law (23, [(0, .ref 0), (1, .ref 1), (2, .ref 7), (3, .ref 20), (4, .int x4)], [], zHp s) (fun o => o = zoI r)) (x4 : Int32) (s : zSt) (r) (hF : F_L_law_468 X K23 x4 s = some r) : zk_W X 11 m_L_law (468, [(0, .ref 0), (1, .ref 1), (2, .ref 7), (3, .ref 20), (4, .int x4)], [], zHp s) (fun o => o = zoI r) := by
  unfold F_L_law_468 at hF
  refine zi_goto rfl ?_
  exact zk_sb (zJ_L_law_1622 K23 hK23  _ _ _ hF) rfl ⟨rfl, rfl, rfl, rfl, rfl, trivial⟩
theorem zJ_L_law_604 {X : zkX} (K23 : Int32 → zSt → Option (Int32 × zSt)) (hK23 : ∀ (x4 : Int32) (s : zSt) r, K23 x4 s = some r → zk_W X 11 m_L_law (23, [(0, .ref 0), (1, .ref 1), (2, .ref 7), (3, .ref 20), (4, .int x4)], [], zHp s) (fun o => o = zoI r)) (x4 : Int32) (s : zSt) (r) (hF : F_L_law_604 X K23 x4 s = some r) : zk_W X 11 m_L_law (604, [(0, .ref 0), (1, .ref 1), (2, .ref 7), (3, .ref 20), (4, .int x4)], [], zHp s) (fun o => o = zoI r) := by
  unfold F_L_law_604 at hF
  refine zi_goto rfl ?_
  exact zk_sb (zJ_L_law_1622 K23 hK23  _ _ _ hF) rfl ⟨rfl, rfl, rfl, rfl, rfl, trivial⟩
theorem zJ_L_law_704 {X : zkX} (K23 : Int32 → zSt → Option (Int32 × zSt)) (hK23 : ∀ (x4 : Int32) (s : zSt) r, K23 x4 s = some r → zk_W X 11 m_L_law (23, [(0, .ref 0), (1, .ref 1), (2, .ref 7), (3, .ref 20), (4, .int x4)], [], zHp s) (fun o => o = zoI r)) (x4 : Int32) (s : zSt) (r) (hF : F_L_law_704 X K23 x4 s = some r) : zk_W X 11 m_L_law (704, [(0, .ref 0), (1, .ref 1), (2, .ref 7), (3, .ref 20), (4, .int x4)], [], zHp s) (fun o => o = zoI r) := by
  unfold F_L_law_704 at hF
  refine zi_goto rfl ?_
  exact zk_sb (zJ_L_law_1622 K23 hK23  _ _ _ hF) rfl ⟨rfl, rfl, rfl, rfl, rfl, trivial⟩
theorem zJ_L_law_856 {X : zkX} (K23 : Int32 → zSt → Option (Int32 × zSt)) (hK23 : ∀ (x4 : Int32) (s : zSt) r, K23 x4 s = some r → zk_W X 11 m_L_law (23, [(0, .ref 0), (1, .ref 1), (2, .ref 7), (3, .ref 20), (4, .int x4)], [], zHp s) (fun o => o = zoI r)) (x4 : Int32) (s : zSt) (r) (hF : F_L_law_856 X K23 x4 s = some r) : zk_W X 11 m_L_law (856, [(0, .ref 0), (1, .ref 1), (2, .ref 7), (3, .ref 20), (4, .int x4)], [], zHp s) (fun o => o = zoI r) := by
  unfold F_L_law_856 at hF
  refine zi_goto rfl ?_
  exact zk_sb (zJ_L_law_1622 K23 hK23  _ _ _ hF) rfl ⟨rfl, rfl, rfl, rfl, rfl, trivial⟩
theorem zJ_L_law_956 {X : zkX} (K23 : Int32 → zSt → Option (Int32 × zSt)) (hK23 : ∀ (x4 : Int32) (s : zSt) r, K23 x4 s = some r → zk_W X 11 m_L_law (23, [(0, .ref 0), (1, .ref 1), (2, .ref 7), (3, .ref 20), (4, .int x4)], [], zHp s) (fun o => o = zoI r)) (x4 : Int32) (s : zSt) (r) (hF : F_L_law_956 X K23 x4 s = some r) : zk_W X 11 m_L_law (956, [(0, .ref 0), (1, .ref 1), (2, .ref 7), (3, .ref 20), (4, .int x4)], [], zHp s) (fun o => o = zoI r) := by
  unfold F_L_law_956 at hF
  refine zi_goto rfl ?_
  exact zk_sb (zJ_L_law_1622 K23 hK23  _ _ _ hF) rfl ⟨rfl, rfl, rfl, rfl, rfl, trivial⟩
theorem zJ_L_law_1075 {X : zkX} (K23 : Int32 → zSt → Option (Int32 × zSt)) (hK23 : ∀ (x4 : Int32) (s : zSt) r, K23 x4 s = some r → zk_W X 11 m_L_law (23, [(0, .ref 0), (1, .ref 1), (2, .ref 7), (3, .ref 20), (4, .int x4)], [], zHp s) (fun o => o = zoI r)) (x4 : Int32) (s : zSt) (r) (hF : F_L_law_1075 X K23 x4 s = some r) : zk_W X 11 m_L_law (1075, [(0, .ref 0), (1, .ref 1), (2, .ref 7), (3, .ref 20), (4, .int x4)], [], zHp s) (fun o => o = zoI r) := by
  unfold F_L_law_1075 at hF
  refine zi_goto rfl ?_
  exact zk_sb (zJ_L_law_1622 K23 hK23  _ _ _ hF) rfl ⟨rfl, rfl, rfl, rfl, rfl, trivial⟩
theorem zJ_L_law_1069 {X : zkX} (K23 : Int32 → zSt → Option (Int32 × zSt)) (hK23 : ∀ (x4 : Int32) (s : zSt) r, K23 x4 s = some r → zk_W X 11 m_L_law (23, [(0, .ref 0), (1, .ref 1), (2, .ref 7), (3, .ref 20), (4, .int x4)], [], zHp s) (fun o => o = zoI r)) (x4 : Int32) (y0 : Int64) (y1 : Int64) (s : zSt) (r) (hF : F_L_law_1069 X K23 x4 y0 y1 s = some r) : zk_W X 11 m_L_law (1069, [(0, .ref 0), (1, .ref 1), (2, .ref 7), (3, .ref 20), (4, .int x4)], [.long y0, .long y1], zHp s) (fun o => o = zoI r) := by
  unfold F_L_law_1069 at hF
  refine zi_lcmp rfl ?_
  refine zi_ifeq rfl (fun hc => ?_) (fun hc => ?_)
  · have hF := zf_p hc hF
    exact zk_sb (zJ_L_law_1075 K23 hK23  _ _ _ hF) rfl ⟨rfl, rfl, rfl, rfl, rfl, trivial⟩
  · have hF := zf_n hc hF
    refine zi_iconst (v := (0 : Int32)) rfl rfl ?_
    cases hF
    exact zi_zreturn rfl rfl rfl rfl
theorem zJ_L_law_1182 {X : zkX} (K23 : Int32 → zSt → Option (Int32 × zSt)) (hK23 : ∀ (x4 : Int32) (s : zSt) r, K23 x4 s = some r → zk_W X 11 m_L_law (23, [(0, .ref 0), (1, .ref 1), (2, .ref 7), (3, .ref 20), (4, .int x4)], [], zHp s) (fun o => o = zoI r)) (x4 : Int32) (s : zSt) (r) (hF : F_L_law_1182 X K23 x4 s = some r) : zk_W X 11 m_L_law (1182, [(0, .ref 0), (1, .ref 1), (2, .ref 7), (3, .ref 20), (4, .int x4)], [], zHp s) (fun o => o = zoI r) := by
  unfold F_L_law_1182 at hF
  refine zi_goto rfl ?_
  exact zk_sb (zJ_L_law_1622 K23 hK23  _ _ _ hF) rfl ⟨rfl, rfl, rfl, rfl, rfl, trivial⟩
theorem zJ_L_law_1176 {X : zkX} (K23 : Int32 → zSt → Option (Int32 × zSt)) (hK23 : ∀ (x4 : Int32) (s : zSt) r, K23 x4 s = some r → zk_W X 11 m_L_law (23, [(0, .ref 0), (1, .ref 1), (2, .ref 7), (3, .ref 20), (4, .int x4)], [], zHp s) (fun o => o = zoI r)) (x4 : Int32) (y0 : Int64) (y1 : Int64) (s : zSt) (r) (hF : F_L_law_1176 X K23 x4 y0 y1 s = some r) : zk_W X 11 m_L_law (1176, [(0, .ref 0), (1, .ref 1), (2, .ref 7), (3, .ref 20), (4, .int x4)], [.long y0, .long y1], zHp s) (fun o => o = zoI r) := by
  unfold F_L_law_1176 at hF
  refine zi_lcmp rfl ?_
  refine zi_ifeq rfl (fun hc => ?_) (fun hc => ?_)
  · have hF := zf_p hc hF
    exact zk_sb (zJ_L_law_1182 K23 hK23  _ _ _ hF) rfl ⟨rfl, rfl, rfl, rfl, rfl, trivial⟩
  · have hF := zf_n hc hF
    refine zi_iconst (v := (0 : Int32)) rfl rfl ?_
    cases hF
    exact zi_zreturn rfl rfl rfl rfl
theorem zJ_L_law_1289 {X : zkX} (K23 : Int32 → zSt → Option (Int32 × zSt)) (hK23 : ∀ (x4 : Int32) (s : zSt) r, K23 x4 s = some r → zk_W X 11 m_L_law (23, [(0, .ref 0), (1, .ref 1), (2, .ref 7), (3, .ref 20), (4, .int x4)], [], zHp s) (fun o => o = zoI r)) (x4 : Int32) (s : zSt) (r) (hF : F_L_law_1289 X K23 x4 s = some r) : zk_W X 11 m_L_law (1289, [(0, .ref 0), (1, .ref 1), (2, .ref 7), (3, .ref 20), (4, .int x4)], [], zHp s) (fun o => o = zoI r) := by
  unfold F_L_law_1289 at hF
  refine zi_goto rfl ?_
  exact zk_sb (zJ_L_law_1622 K23 hK23  _ _ _ hF) rfl ⟨rfl, rfl, rfl, rfl, rfl, trivial⟩
theorem zJ_L_law_1283 {X : zkX} (K23 : Int32 → zSt → Option (Int32 × zSt)) (hK23 : ∀ (x4 : Int32) (s : zSt) r, K23 x4 s = some r → zk_W X 11 m_L_law (23, [(0, .ref 0), (1, .ref 1), (2, .ref 7), (3, .ref 20), (4, .int x4)], [], zHp s) (fun o => o = zoI r)) (x4 : Int32) (y0 : Int64) (y1 : Int64) (s : zSt) (r) (hF : F_L_law_1283 X K23 x4 y0 y1 s = some r) : zk_W X 11 m_L_law (1283, [(0, .ref 0), (1, .ref 1), (2, .ref 7), (3, .ref 20), (4, .int x4)], [.long y0, .long y1], zHp s) (fun o => o = zoI r) := by
  unfold F_L_law_1283 at hF
  refine zi_lcmp rfl ?_
  refine zi_ifeq rfl (fun hc => ?_) (fun hc => ?_)
  · have hF := zf_p hc hF
    exact zk_sb (zJ_L_law_1289 K23 hK23  _ _ _ hF) rfl ⟨rfl, rfl, rfl, rfl, rfl, trivial⟩
  · have hF := zf_n hc hF
    refine zi_iconst (v := (0 : Int32)) rfl rfl ?_
    cases hF
    exact zi_zreturn rfl rfl rfl rfl
theorem zJ_L_law_1345 {X : zkX} (K23 : Int32 → zSt → Option (Int32 × zSt)) (hK23 : ∀ (x4 : Int32) (s : zSt) r, K23 x4 s = some r → zk_W X 11 m_L_law (23, [(0, .ref 0), (1, .ref 1), (2, .ref 7), (3, .ref 20), (4, .int x4)], [], zHp s) (fun o => o = zoI r)) (x4 : Int32) (s : zSt) (r) (hF : F_L_law_1345 X K23 x4 s = some r) : zk_W X 11 m_L_law (1345, [(0, .ref 0), (1, .ref 1), (2, .ref 7), (3, .ref 20), (4, .int x4)], [], zHp s) (fun o => o = zoI r) := by
  unfold F_L_law_1345 at hF
  refine zi_goto rfl ?_
  exact zk_sb (zJ_L_law_1622 K23 hK23  _ _ _ hF) rfl ⟨rfl, rfl, rfl, rfl, rfl, trivial⟩
theorem zJ_L_law_1412 {X : zkX} (K23 : Int32 → zSt → Option (Int32 × zSt)) (hK23 : ∀ (x4 : Int32) (s : zSt) r, K23 x4 s = some r → zk_W X 11 m_L_law (23, [(0, .ref 0), (1, .ref 1), (2, .ref 7), (3, .ref 20), (4, .int x4)], [], zHp s) (fun o => o = zoI r)) (x4 : Int32) (s : zSt) (r) (hF : F_L_law_1412 X K23 x4 s = some r) : zk_W X 11 m_L_law (1412, [(0, .ref 0), (1, .ref 1), (2, .ref 7), (3, .ref 20), (4, .int x4)], [], zHp s) (fun o => o = zoI r) := by
  unfold F_L_law_1412 at hF
  refine zi_goto rfl ?_
  exact zk_sb (zJ_L_law_1622 K23 hK23  _ _ _ hF) rfl ⟨rfl, rfl, rfl, rfl, rfl, trivial⟩
theorem zJ_L_law_1535 {X : zkX} (K23 : Int32 → zSt → Option (Int32 × zSt)) (hK23 : ∀ (x4 : Int32) (s : zSt) r, K23 x4 s = some r → zk_W X 11 m_L_law (23, [(0, .ref 0), (1, .ref 1), (2, .ref 7), (3, .ref 20), (4, .int x4)], [], zHp s) (fun o => o = zoI r)) (x4 : Int32) (s : zSt) (r) (hF : F_L_law_1535 X K23 x4 s = some r) : zk_W X 11 m_L_law (1535, [(0, .ref 0), (1, .ref 1), (2, .ref 7), (3, .ref 20), (4, .int x4)], [], zHp s) (fun o => o = zoI r) := by
  unfold F_L_law_1535 at hF
  refine zi_goto rfl ?_
  exact zk_sb (zJ_L_law_1622 K23 hK23  _ _ _ hF) rfl ⟨rfl, rfl, rfl, rfl, rfl, trivial⟩
theorem zJ_L_law_1529 {X : zkX} (K23 : Int32 → zSt → Option (Int32 × zSt)) (hK23 : ∀ (x4 : Int32) (s : zSt) r, K23 x4 s = some r → zk_W X 11 m_L_law (23, [(0, .ref 0), (1, .ref 1), (2, .ref 7), (3, .ref 20), (4, .int x4)], [], zHp s) (fun o => o = zoI r)) (x4 : Int32) (y0 : Int64) (y1 : Int64) (s : zSt) (r) (hF : F_L_law_1529 X K23 x4 y0 y1 s = some r) : zk_W X 11 m_L_law (1529, [(0, .ref 0), (1, .ref 1), (2, .ref 7), (3, .ref 20), (4, .int x4)], [.long y0, .long y1], zHp s) (fun o => o = zoI r) := by
  unfold F_L_law_1529 at hF
  refine zi_lcmp rfl ?_
  refine zi_ifeq rfl (fun hc => ?_) (fun hc => ?_)
  · have hF := zf_p hc hF
    exact zk_sb (zJ_L_law_1535 K23 hK23  _ _ _ hF) rfl ⟨rfl, rfl, rfl, rfl, rfl, trivial⟩
  · have hF := zf_n hc hF
    refine zi_iconst (v := (0 : Int32)) rfl rfl ?_
    cases hF
    exact zi_zreturn rfl rfl rfl rfl
theorem zJ_L_law_23 {X : zkX} : ∀ (n : Nat) (x4 : Int32) (s : zSt) (r), F_L_law_23 X  n x4 s = some r → zk_W X 11 m_L_law (23, [(0, .ref 0), (1, .ref 1), (2, .ref 7), (3, .ref 20), (4, .int x4)], [], zHp s) (fun o => o = zoI r) := by
  intro n
  induction n with
  | zero => intro x4 s r hF; cases hF
  | succ n ih =>
    intro x4 s r hF
    rw [F_L_law_23] at hF
    refine zi_iload rfl rfl ?_
    refine zi_aload_n rfl rfl ?_
    refine zi_alen_i (v := Int32.ofNat X.1) rfl rfl rfl ?_
    refine zi_bipush (v := (8 : Int32)) rfl rfl ?_
    refine zi_isub rfl ?_
    refine zi_icgt rfl (fun hc => ?_) (fun hc => ?_)
    · have hF := zf_p hc hF
      refine zi_iconst (v := (1 : Int32)) rfl rfl ?_
      cases hF
      exact zi_zreturn rfl rfl rfl rfl
    · have hF := zf_n hc hF
      refine zi_aload_n rfl rfl ?_
      refine zi_iload rfl rfl ?_
      obtain ⟨hb, hF⟩ := zf_g hF
      refine zi_iaload rfl rfl (zin_ok hb) ?_
      refine zi_bipush (v := (31 : Int32)) rfl rfl ?_
      refine zi_iand rfl ?_
      by_cases hc0 : ((X.2 (x4).toNatClampNeg) &&& (31 : Int32)) = (0 : Int32)
      · have hF := zf_p hc0 hF
        rw [hc0]
        refine zi_tsw (t := 136) rfl rfl ?_
        refine zi_aload_n rfl rfl ?_
        refine zi_aload_n rfl rfl ?_
        refine zi_iload rfl rfl ?_
        refine zi_iconst (v := (1 : Int32)) rfl rfl ?_
        refine zi_iadd rfl ?_
        obtain ⟨hb, hF⟩ := zf_g hF
        refine zi_iaload rfl rfl (zin_ok hb) ?_
        refine zi_aload_n rfl rfl ?_
        refine zi_iload rfl rfl ?_
        refine zi_iconst (v := (2 : Int32)) rfl rfl ?_
        refine zi_iadd rfl ?_
        obtain ⟨hb, hF⟩ := zf_g hF
        refine zi_iaload rfl rfl (zin_ok hb) ?_
        refine zi_aload_n rfl rfl ?_
        refine zi_iload rfl rfl ?_
        refine zi_iconst (v := (3 : Int32)) rfl rfl ?_
        refine zi_iadd rfl ?_
        obtain ⟨hb, hF⟩ := zf_g hF
        refine zi_iaload rfl rfl (zin_ok hb) ?_
        refine zi_ifeq rfl (fun hc => ?_) (fun hc => ?_)
        · have hF := zf_p hc hF
          refine zi_iconst (v := (0 : Int32)) rfl rfl ?_
          exact zk_sb (zJ_L_law_163 (F_L_law_23 X  n) ih  _ _ _ _ _ _ hF) rfl ⟨rfl, rfl, rfl, rfl, rfl, trivial⟩
        · have hF := zf_n hc hF
          refine zi_iconst (v := (1 : Int32)) rfl rfl ?_
          refine zi_goto rfl ?_
          exact zk_sb (zJ_L_law_163 (F_L_law_23 X  n) ih  _ _ _ _ _ _ hF) rfl ⟨rfl, rfl, rfl, rfl, rfl, trivial⟩
      have hF := zf_n hc0 hF
      by_cases hc1 : ((X.2 (x4).toNatClampNeg) &&& (31 : Int32)) = (1 : Int32)
      · have hF := zf_p hc1 hF
        rw [hc1]
        refine zi_tsw (t := 212) rfl rfl ?_
        refine zi_aload_n rfl rfl ?_
        refine zi_aload_n rfl rfl ?_
        refine zi_iload rfl rfl ?_
        refine zi_iconst (v := (1 : Int32)) rfl rfl ?_
        refine zi_iadd rfl ?_
        obtain ⟨hb, hF⟩ := zf_g hF
        refine zi_iaload rfl rfl (zin_ok hb) ?_
        refine zi_aload_n rfl rfl ?_
        refine zi_iload rfl rfl ?_
        refine zi_iconst (v := (2 : Int32)) rfl rfl ?_
        refine zi_iadd rfl ?_
        obtain ⟨hb, hF⟩ := zf_g hF
        refine zi_iaload rfl rfl (zin_ok hb) ?_
        obtain ⟨v7, s8, hm, hF⟩ := zf_b hF
        refine zi_callS rfl rfl rfl rfl (zk_C.to (zk_C.up (by decide) (zF_L_copy hm)) (fun o ho => zk_K.okv ho ?_))
        refine zi_istore rfl rfl rfl ?_
        refine zi_aload_n rfl rfl ?_
        refine zi_aload_n rfl rfl ?_
        refine zi_iload rfl rfl ?_
        refine zi_iconst (v := (1 : Int32)) rfl rfl ?_
        refine zi_iadd rfl ?_
        obtain ⟨hb, hF⟩ := zf_g hF
        refine zi_iaload rfl rfl (zin_ok hb) ?_
        refine zi_aload_n rfl rfl ?_
        refine zi_iload rfl rfl ?_
        refine zi_iconst (v := (2 : Int32)) rfl rfl ?_
        refine zi_iadd rfl ?_
        obtain ⟨hb, hF⟩ := zf_g hF
        refine zi_iaload rfl rfl (zin_ok hb) ?_
        obtain ⟨v9, s10, hm, hF⟩ := zf_b hF
        refine zi_callV rfl rfl rfl (zh_R _) rfl (zk_C.to (zk_C.up (by decide) (zF_R_copy hm)) (fun o ho => zk_K.okn ho ?_))
        refine zi_aload_n rfl rfl ?_
        obtain ⟨v11, s12, hm, hF⟩ := zf_b hF
        refine zi_callV rfl rfl rfl (zh_R _) rfl (zk_C.to (zk_C.up (by decide) (zF_R_thrown hm)) (fun o ho => zk_K.okv ho ?_))
        refine zi_iload rfl rfl ?_
        refine zi_iceq rfl (fun hc => ?_) (fun hc => ?_)
        · have hF := zf_p hc hF
          refine zi_goto rfl ?_
          exact zk_sb (zJ_L_law_1622 (F_L_law_23 X  n) ih  _ _ _ hF) rfl ⟨rfl, rfl, rfl, rfl, rfl, trivial⟩
        · have hF := zf_n hc hF
          refine zi_iconst (v := (0 : Int32)) rfl rfl ?_
          cases hF
          exact zi_zreturn rfl rfl rfl rfl
      have hF := zf_n hc1 hF
      by_cases hc2 : ((X.2 (x4).toNatClampNeg) &&& (31 : Int32)) = (2 : Int32)
      · have hF := zf_p hc2 hF
        rw [hc2]
        refine zi_tsw (t := 260) rfl rfl ?_
        refine zi_aload_n rfl rfl ?_
        refine zi_aload_n rfl rfl ?_
        refine zi_iload rfl rfl ?_
        refine zi_iconst (v := (1 : Int32)) rfl rfl ?_
        refine zi_iadd rfl ?_
        obtain ⟨hb, hF⟩ := zf_g hF
        refine zi_iaload rfl rfl (zin_ok hb) ?_
        refine zi_aload_n rfl rfl ?_
        refine zi_iload rfl rfl ?_
        refine zi_iconst (v := (2 : Int32)) rfl rfl ?_
        refine zi_iadd rfl ?_
        obtain ⟨hb, hF⟩ := zf_g hF
        refine zi_iaload rfl rfl (zin_ok hb) ?_
        refine zi_aload_n rfl rfl ?_
        obtain ⟨v13, s14, hm, hF⟩ := zf_b hF
        refine zi_callS rfl rfl rfl rfl (zk_C.to (zk_C.up (by decide) (zF_L_same hm)) (fun o ho => zk_K.okv ho ?_))
        refine zi_istore rfl rfl rfl ?_
        refine zi_aload_n rfl rfl ?_
        refine zi_aload_n rfl rfl ?_
        refine zi_iload rfl rfl ?_
        refine zi_iconst (v := (1 : Int32)) rfl rfl ?_
        refine zi_iadd rfl ?_
        obtain ⟨hb, hF⟩ := zf_g hF
        refine zi_iaload rfl rfl (zin_ok hb) ?_
        refine zi_aload_n rfl rfl ?_
        refine zi_iload rfl rfl ?_
        refine zi_iconst (v := (2 : Int32)) rfl rfl ?_
        refine zi_iadd rfl ?_
        obtain ⟨hb, hF⟩ := zf_g hF
        refine zi_iaload rfl rfl (zin_ok hb) ?_
        obtain ⟨v15, s16, hm, hF⟩ := zf_b hF
        refine zi_callV rfl rfl rfl (zh_R _) rfl (zk_C.to (zk_C.up (by decide) (zF_R_same hm)) (fun o ho => zk_K.okv ho ?_))
        refine zi_istore rfl rfl rfl ?_
        refine zi_aload_n rfl rfl ?_
        obtain ⟨v17, s18, hm, hF⟩ := zf_b hF
        refine zi_callV rfl rfl rfl (zh_R _) rfl (zk_C.to (zk_C.up (by decide) (zF_R_thrown hm)) (fun o ho => zk_K.okv ho ?_))
        refine zi_iload rfl rfl ?_
        refine zi_iceq rfl (fun hc => ?_) (fun hc => ?_)
        · have hF := zf_p hc hF
          refine zi_iload rfl rfl ?_
          refine zi_ifne rfl (fun hc => ?_) (fun hc => ?_)
          · have hF := zf_n hc hF
            exact zk_sb (zJ_L_law_332 (F_L_law_23 X  n) ih  _ _ _ hF) rfl ⟨rfl, rfl, rfl, rfl, rfl, trivial⟩
          · have hF := zf_p hc hF
            refine zi_aload_n rfl rfl ?_
            refine zi_iconst (v := (0 : Int32)) rfl rfl ?_
            obtain ⟨hb, hF⟩ := zf_g hF
            refine zi_laload rfl (zh_B3 _) (zin_ok hb) ?_
            refine zi_iload rfl rfl ?_
            refine zi_ifeq rfl (fun hc => ?_) (fun hc => ?_)
            · have hF := zf_p hc hF
              refine zi_lconst (v := (0 : Int64)) rfl rfl ?_
              exact zk_sb (zJ_L_law_326 (F_L_law_23 X  n) ih  _ _ _ _ _ hF) rfl ⟨rfl, rfl, rfl, rfl, rfl, trivial⟩
            · have hF := zf_n hc hF
              refine zi_lconst (v := (1 : Int64)) rfl rfl ?_
              refine zi_goto rfl ?_
              exact zk_sb (zJ_L_law_326 (F_L_law_23 X  n) ih  _ _ _ _ _ hF) rfl ⟨rfl, rfl, rfl, rfl, rfl, trivial⟩
        · have hF := zf_n hc hF
          refine zi_iconst (v := (0 : Int32)) rfl rfl ?_
          cases hF
          exact zi_zreturn rfl rfl rfl rfl
      have hF := zf_n hc2 hF
      by_cases hc3 : ((X.2 (x4).toNatClampNeg) &&& (31 : Int32)) = (3 : Int32)
      · have hF := zf_p hc3 hF
        rw [hc3]
        refine zi_tsw (t := 335) rfl rfl ?_
        refine zi_aload_n rfl rfl ?_
        refine zi_aload_n rfl rfl ?_
        refine zi_iload rfl rfl ?_
        refine zi_iconst (v := (1 : Int32)) rfl rfl ?_
        refine zi_iadd rfl ?_
        obtain ⟨hb, hF⟩ := zf_g hF
        refine zi_iaload rfl rfl (zin_ok hb) ?_
        refine zi_aload_n rfl rfl ?_
        refine zi_iload rfl rfl ?_
        refine zi_iconst (v := (2 : Int32)) rfl rfl ?_
        refine zi_iadd rfl ?_
        obtain ⟨hb, hF⟩ := zf_g hF
        refine zi_iaload rfl rfl (zin_ok hb) ?_
        refine zi_i2l rfl ?_
        refine zi_bipush (v := (32 : Int32)) rfl rfl ?_
        refine zi_lshl rfl ?_
        refine zi_aload_n rfl rfl ?_
        refine zi_iload rfl rfl ?_
        refine zi_iconst (v := (3 : Int32)) rfl rfl ?_
        refine zi_iadd rfl ?_
        obtain ⟨hb, hF⟩ := zf_g hF
        refine zi_iaload rfl rfl (zin_ok hb) ?_
        refine zi_i2l rfl ?_
        refine zi_ldc2_w (v := (4294967295 : Int64)) rfl rfl ?_
        refine zi_land rfl ?_
        refine zi_lor rfl ?_
        obtain ⟨v19, s20, hm, hF⟩ := zf_b hF
        refine zi_callS rfl rfl rfl rfl (zk_C.to (zk_C.up (by decide) (zF_L_operand hm)) (fun o ho => zk_K.okv ho ?_))
        refine zi_istore rfl rfl rfl ?_
        refine zi_aload_n rfl rfl ?_
        refine zi_aload_n rfl rfl ?_
        refine zi_iload rfl rfl ?_
        refine zi_iconst (v := (1 : Int32)) rfl rfl ?_
        refine zi_iadd rfl ?_
        obtain ⟨hb, hF⟩ := zf_g hF
        refine zi_iaload rfl rfl (zin_ok hb) ?_
        refine zi_aload_n rfl rfl ?_
        refine zi_iload rfl rfl ?_
        refine zi_iconst (v := (2 : Int32)) rfl rfl ?_
        refine zi_iadd rfl ?_
        obtain ⟨hb, hF⟩ := zf_g hF
        refine zi_iaload rfl rfl (zin_ok hb) ?_
        refine zi_i2l rfl ?_
        refine zi_bipush (v := (32 : Int32)) rfl rfl ?_
        refine zi_lshl rfl ?_
        refine zi_aload_n rfl rfl ?_
        refine zi_iload rfl rfl ?_
        refine zi_iconst (v := (3 : Int32)) rfl rfl ?_
        refine zi_iadd rfl ?_
        obtain ⟨hb, hF⟩ := zf_g hF
        refine zi_iaload rfl rfl (zin_ok hb) ?_
        refine zi_i2l rfl ?_
        refine zi_ldc2_w (v := (4294967295 : Int64)) rfl rfl ?_
        refine zi_land rfl ?_
        refine zi_lor rfl ?_
        obtain ⟨v21, s22, hm, hF⟩ := zf_b hF
        refine zi_callV rfl rfl rfl (zh_R _) rfl (zk_C.to (zk_C.up (by decide) (zF_R_operand hm)) (fun o ho => zk_K.okn ho ?_))
        refine zi_aload_n rfl rfl ?_
        obtain ⟨v23, s24, hm, hF⟩ := zf_b hF
        refine zi_callV rfl rfl rfl (zh_R _) rfl (zk_C.to (zk_C.up (by decide) (zF_R_thrown hm)) (fun o ho => zk_K.okv ho ?_))
        refine zi_iload rfl rfl ?_
        refine zi_iceq rfl (fun hc => ?_) (fun hc => ?_)
        · have hF := zf_p hc hF
          refine zi_goto rfl ?_
          exact zk_sb (zJ_L_law_1622 (F_L_law_23 X  n) ih  _ _ _ hF) rfl ⟨rfl, rfl, rfl, rfl, rfl, trivial⟩
        · have hF := zf_n hc hF
          refine zi_iconst (v := (0 : Int32)) rfl rfl ?_
          cases hF
          exact zi_zreturn rfl rfl rfl rfl
      have hF := zf_n hc3 hF
      by_cases hc4 : ((X.2 (x4).toNatClampNeg) &&& (31 : Int32)) = (4 : Int32)
      · have hF := zf_p hc4 hF
        rw [hc4]
        refine zi_tsw (t := 415) rfl rfl ?_
        refine zi_aload_n rfl rfl ?_
        obtain ⟨v25, s26, hm, hF⟩ := zf_b hF
        refine zi_callV rfl rfl rfl (zh_X _) rfl (zk_C.to (zk_C.up (by decide) (zF_X_kind hm)) (fun o ho => zk_K.okv ho ?_))
        refine zi_aload_n rfl rfl ?_
        obtain ⟨v27, s28, hm, hF⟩ := zf_b hF
        refine zi_callV rfl rfl rfl (zh_R _) rfl (zk_C.to (zk_C.up (by decide) (zF_R_kind hm)) (fun o ho => zk_K.okv ho ?_))
        refine zi_iceq rfl (fun hc => ?_) (fun hc => ?_)
        · have hF := zf_p hc hF
          exact zk_sb (zJ_L_law_1622 (F_L_law_23 X  n) ih  _ _ _ hF) rfl ⟨rfl, rfl, rfl, rfl, rfl, trivial⟩
        · have hF := zf_n hc hF
          refine zi_iconst (v := (0 : Int32)) rfl rfl ?_
          cases hF
          exact zi_zreturn rfl rfl rfl rfl
      have hF := zf_n hc4 hF
      by_cases hc5 : ((X.2 (x4).toNatClampNeg) &&& (31 : Int32)) = (5 : Int32)
      · have hF := zf_p hc5 hF
        rw [hc5]
        refine zi_tsw (t := 428) rfl rfl ?_
        refine zi_aload_n rfl rfl ?_
        refine zi_aload_n rfl rfl ?_
        obtain ⟨v29, s30, hm, hF⟩ := zf_b hF
        refine zi_callS rfl rfl rfl rfl (zk_C.to (zk_C.up (by decide) (zF_L_bits hm)) (fun o ho => zk_K.okv ho ?_))
        refine zi_istore rfl rfl rfl ?_
        refine zi_aload_n rfl rfl ?_
        obtain ⟨v31, s32, hm, hF⟩ := zf_b hF
        refine zi_callV rfl rfl rfl (zh_R _) rfl (zk_C.to (zk_C.up (by decide) (zF_R_bits hm)) (fun o ho => zk_K.okv ho ?_))
        refine zi_lstore rfl rfl rfl ?_
        refine zi_aload_n rfl rfl ?_
        obtain ⟨v33, s34, hm, hF⟩ := zf_b hF
        refine zi_callV rfl rfl rfl (zh_R _) rfl (zk_C.to (zk_C.up (by decide) (zF_R_thrown hm)) (fun o ho => zk_K.okv ho ?_))
        refine zi_iload rfl rfl ?_
        refine zi_iceq rfl (fun hc => ?_) (fun hc => ?_)
        · have hF := zf_p hc hF
          refine zi_iload rfl rfl ?_
          refine zi_ifne rfl (fun hc => ?_) (fun hc => ?_)
          · have hF := zf_n hc hF
            exact zk_sb (zJ_L_law_468 (F_L_law_23 X  n) ih  _ _ _ hF) rfl ⟨rfl, rfl, rfl, rfl, rfl, trivial⟩
          · have hF := zf_p hc hF
            refine zi_aload_n rfl rfl ?_
            refine zi_iconst (v := (0 : Int32)) rfl rfl ?_
            obtain ⟨hb, hF⟩ := zf_g hF
            refine zi_laload rfl (zh_B3 _) (zin_ok hb) ?_
            refine zi_lload rfl rfl ?_
            refine zi_lcmp rfl ?_
            refine zi_ifeq rfl (fun hc => ?_) (fun hc => ?_)
            · have hF := zf_p hc hF
              exact zk_sb (zJ_L_law_468 (F_L_law_23 X  n) ih  _ _ _ hF) rfl ⟨rfl, rfl, rfl, rfl, rfl, trivial⟩
            · have hF := zf_n hc hF
              refine zi_iconst (v := (0 : Int32)) rfl rfl ?_
              cases hF
              exact zi_zreturn rfl rfl rfl rfl
        · have hF := zf_n hc hF
          refine zi_iconst (v := (0 : Int32)) rfl rfl ?_
          cases hF
          exact zi_zreturn rfl rfl rfl rfl
      have hF := zf_n hc5 hF
      by_cases hc6 : ((X.2 (x4).toNatClampNeg) &&& (31 : Int32)) = (6 : Int32)
      · have hF := zf_p hc6 hF
        rw [hc6]
        refine zi_tsw (t := 471) rfl rfl ?_
        refine zi_aload_n rfl rfl ?_
        refine zi_aload_n rfl rfl ?_
        refine zi_iload rfl rfl ?_
        refine zi_iconst (v := (1 : Int32)) rfl rfl ?_
        refine zi_iadd rfl ?_
        obtain ⟨hb, hF⟩ := zf_g hF
        refine zi_iaload rfl rfl (zin_ok hb) ?_
        obtain ⟨v35, s36, hm, hF⟩ := zf_b hF
        refine zi_callS rfl rfl rfl rfl (zk_C.to (zk_C.up (by decide) (zF_L_hold hm)) (fun o ho => zk_K.okv ho ?_))
        refine zi_istore rfl rfl rfl ?_
        refine zi_aload_n rfl rfl ?_
        refine zi_aload_n rfl rfl ?_
        refine zi_iload rfl rfl ?_
        refine zi_iconst (v := (1 : Int32)) rfl rfl ?_
        refine zi_iadd rfl ?_
        obtain ⟨hb, hF⟩ := zf_g hF
        refine zi_iaload rfl rfl (zin_ok hb) ?_
        obtain ⟨v37, s38, hm, hF⟩ := zf_b hF
        refine zi_callV rfl rfl rfl (zh_R _) rfl (zk_C.to (zk_C.up (by decide) (zF_R_hold hm)) (fun o ho => zk_K.okn ho ?_))
        refine zi_aload_n rfl rfl ?_
        obtain ⟨v39, s40, hm, hF⟩ := zf_b hF
        refine zi_callV rfl rfl rfl (zh_R _) rfl (zk_C.to (zk_C.up (by decide) (zF_R_thrown hm)) (fun o ho => zk_K.okv ho ?_))
        refine zi_iload rfl rfl ?_
        refine zi_iceq rfl (fun hc => ?_) (fun hc => ?_)
        · have hF := zf_p hc hF
          refine zi_goto rfl ?_
          exact zk_sb (zJ_L_law_1622 (F_L_law_23 X  n) ih  _ _ _ hF) rfl ⟨rfl, rfl, rfl, rfl, rfl, trivial⟩
        · have hF := zf_n hc hF
          refine zi_iconst (v := (0 : Int32)) rfl rfl ?_
          cases hF
          exact zi_zreturn rfl rfl rfl rfl
      have hF := zf_n hc6 hF
      by_cases hc7 : ((X.2 (x4).toNatClampNeg) &&& (31 : Int32)) = (7 : Int32)
      · have hF := zf_p hc7 hF
        rw [hc7]
        refine zi_tsw (t := 507) rfl rfl ?_
        refine zi_aload_n rfl rfl ?_
        refine zi_aload_n rfl rfl ?_
        refine zi_iload rfl rfl ?_
        refine zi_iconst (v := (1 : Int32)) rfl rfl ?_
        refine zi_iadd rfl ?_
        obtain ⟨hb, hF⟩ := zf_g hF
        refine zi_iaload rfl rfl (zin_ok hb) ?_
        refine zi_aload_n rfl rfl ?_
        refine zi_iload rfl rfl ?_
        refine zi_iconst (v := (2 : Int32)) rfl rfl ?_
        refine zi_iadd rfl ?_
        obtain ⟨hb, hF⟩ := zf_g hF
        refine zi_iaload rfl rfl (zin_ok hb) ?_
        refine zi_i2l rfl ?_
        refine zi_bipush (v := (32 : Int32)) rfl rfl ?_
        refine zi_lshl rfl ?_
        refine zi_aload_n rfl rfl ?_
        refine zi_iload rfl rfl ?_
        refine zi_iconst (v := (3 : Int32)) rfl rfl ?_
        refine zi_iadd rfl ?_
        obtain ⟨hb, hF⟩ := zf_g hF
        refine zi_iaload rfl rfl (zin_ok hb) ?_
        refine zi_i2l rfl ?_
        refine zi_ldc2_w (v := (4294967295 : Int64)) rfl rfl ?_
        refine zi_land rfl ?_
        refine zi_lor rfl ?_
        refine zi_aload_n rfl rfl ?_
        obtain ⟨v41, s42, hm, hF⟩ := zf_b hF
        refine zi_callS rfl rfl rfl rfl (zk_C.to (zk_C.up (by decide) (zF_L_get hm)) (fun o ho => zk_K.okv ho ?_))
        refine zi_istore rfl rfl rfl ?_
        refine zi_aload_n rfl rfl ?_
        refine zi_aload_n rfl rfl ?_
        refine zi_iload rfl rfl ?_
        refine zi_iconst (v := (1 : Int32)) rfl rfl ?_
        refine zi_iadd rfl ?_
        obtain ⟨hb, hF⟩ := zf_g hF
        refine zi_iaload rfl rfl (zin_ok hb) ?_
        refine zi_aload_n rfl rfl ?_
        refine zi_iload rfl rfl ?_
        refine zi_iconst (v := (2 : Int32)) rfl rfl ?_
        refine zi_iadd rfl ?_
        obtain ⟨hb, hF⟩ := zf_g hF
        refine zi_iaload rfl rfl (zin_ok hb) ?_
        refine zi_i2l rfl ?_
        refine zi_bipush (v := (32 : Int32)) rfl rfl ?_
        refine zi_lshl rfl ?_
        refine zi_aload_n rfl rfl ?_
        refine zi_iload rfl rfl ?_
        refine zi_iconst (v := (3 : Int32)) rfl rfl ?_
        refine zi_iadd rfl ?_
        obtain ⟨hb, hF⟩ := zf_g hF
        refine zi_iaload rfl rfl (zin_ok hb) ?_
        refine zi_i2l rfl ?_
        refine zi_ldc2_w (v := (4294967295 : Int64)) rfl rfl ?_
        refine zi_land rfl ?_
        refine zi_lor rfl ?_
        obtain ⟨v43, s44, hm, hF⟩ := zf_b hF
        refine zi_callV rfl rfl rfl (zh_R _) rfl (zk_C.to (zk_C.up (by decide) (zF_R_get hm)) (fun o ho => zk_K.okv ho ?_))
        refine zi_istore rfl rfl rfl ?_
        refine zi_aload_n rfl rfl ?_
        obtain ⟨v45, s46, hm, hF⟩ := zf_b hF
        refine zi_callV rfl rfl rfl (zh_R _) rfl (zk_C.to (zk_C.up (by decide) (zF_R_thrown hm)) (fun o ho => zk_K.okv ho ?_))
        refine zi_iload rfl rfl ?_
        refine zi_iceq rfl (fun hc => ?_) (fun hc => ?_)
        · have hF := zf_p hc hF
          refine zi_iload rfl rfl ?_
          refine zi_ifne rfl (fun hc => ?_) (fun hc => ?_)
          · have hF := zf_n hc hF
            exact zk_sb (zJ_L_law_604 (F_L_law_23 X  n) ih  _ _ _ hF) rfl ⟨rfl, rfl, rfl, rfl, rfl, trivial⟩
          · have hF := zf_p hc hF
            refine zi_aload_n rfl rfl ?_
            refine zi_iconst (v := (0 : Int32)) rfl rfl ?_
            obtain ⟨hb, hF⟩ := zf_g hF
            refine zi_laload rfl (zh_B3 _) (zin_ok hb) ?_
            refine zi_iload rfl rfl ?_
            refine zi_i2l rfl ?_
            refine zi_lcmp rfl ?_
            refine zi_ifeq rfl (fun hc => ?_) (fun hc => ?_)
            · have hF := zf_p hc hF
              exact zk_sb (zJ_L_law_604 (F_L_law_23 X  n) ih  _ _ _ hF) rfl ⟨rfl, rfl, rfl, rfl, rfl, trivial⟩
            · have hF := zf_n hc hF
              refine zi_iconst (v := (0 : Int32)) rfl rfl ?_
              cases hF
              exact zi_zreturn rfl rfl rfl rfl
        · have hF := zf_n hc hF
          refine zi_iconst (v := (0 : Int32)) rfl rfl ?_
          cases hF
          exact zi_zreturn rfl rfl rfl rfl
      have hF := zf_n hc7 hF
      by_cases hc8 : ((X.2 (x4).toNatClampNeg) &&& (31 : Int32)) = (8 : Int32)
      · have hF := zf_p hc8 hF
        rw [hc8]
        refine zi_tsw (t := 607) rfl rfl ?_
        refine zi_aload_n rfl rfl ?_
        refine zi_aload_n rfl rfl ?_
        refine zi_iload rfl rfl ?_
        refine zi_iconst (v := (1 : Int32)) rfl rfl ?_
        refine zi_iadd rfl ?_
        obtain ⟨hb, hF⟩ := zf_g hF
        refine zi_iaload rfl rfl (zin_ok hb) ?_
        refine zi_aload_n rfl rfl ?_
        refine zi_iload rfl rfl ?_
        refine zi_iconst (v := (2 : Int32)) rfl rfl ?_
        refine zi_iadd rfl ?_
        obtain ⟨hb, hF⟩ := zf_g hF
        refine zi_iaload rfl rfl (zin_ok hb) ?_
        refine zi_i2l rfl ?_
        refine zi_bipush (v := (32 : Int32)) rfl rfl ?_
        refine zi_lshl rfl ?_
        refine zi_aload_n rfl rfl ?_
        refine zi_iload rfl rfl ?_
        refine zi_iconst (v := (3 : Int32)) rfl rfl ?_
        refine zi_iadd rfl ?_
        obtain ⟨hb, hF⟩ := zf_g hF
        refine zi_iaload rfl rfl (zin_ok hb) ?_
        refine zi_i2l rfl ?_
        refine zi_ldc2_w (v := (4294967295 : Int64)) rfl rfl ?_
        refine zi_land rfl ?_
        refine zi_lor rfl ?_
        refine zi_aload_n rfl rfl ?_
        obtain ⟨v47, s48, hm, hF⟩ := zf_b hF
        refine zi_callS rfl rfl rfl rfl (zk_C.to (zk_C.up (by decide) (zF_L_put hm)) (fun o ho => zk_K.okv ho ?_))
        refine zi_istore rfl rfl rfl ?_
        refine zi_aload_n rfl rfl ?_
        refine zi_aload_n rfl rfl ?_
        refine zi_iload rfl rfl ?_
        refine zi_iconst (v := (1 : Int32)) rfl rfl ?_
        refine zi_iadd rfl ?_
        obtain ⟨hb, hF⟩ := zf_g hF
        refine zi_iaload rfl rfl (zin_ok hb) ?_
        refine zi_aload_n rfl rfl ?_
        refine zi_iload rfl rfl ?_
        refine zi_iconst (v := (2 : Int32)) rfl rfl ?_
        refine zi_iadd rfl ?_
        obtain ⟨hb, hF⟩ := zf_g hF
        refine zi_iaload rfl rfl (zin_ok hb) ?_
        refine zi_i2l rfl ?_
        refine zi_bipush (v := (32 : Int32)) rfl rfl ?_
        refine zi_lshl rfl ?_
        refine zi_aload_n rfl rfl ?_
        refine zi_iload rfl rfl ?_
        refine zi_iconst (v := (3 : Int32)) rfl rfl ?_
        refine zi_iadd rfl ?_
        obtain ⟨hb, hF⟩ := zf_g hF
        refine zi_iaload rfl rfl (zin_ok hb) ?_
        refine zi_i2l rfl ?_
        refine zi_ldc2_w (v := (4294967295 : Int64)) rfl rfl ?_
        refine zi_land rfl ?_
        refine zi_lor rfl ?_
        obtain ⟨v49, s50, hm, hF⟩ := zf_b hF
        refine zi_callV rfl rfl rfl (zh_R _) rfl (zk_C.to (zk_C.up (by decide) (zF_R_put_1 hm)) (fun o ho => zk_K.okv ho ?_))
        refine zi_istore rfl rfl rfl ?_
        refine zi_aload_n rfl rfl ?_
        obtain ⟨v51, s52, hm, hF⟩ := zf_b hF
        refine zi_callV rfl rfl rfl (zh_R _) rfl (zk_C.to (zk_C.up (by decide) (zF_R_thrown hm)) (fun o ho => zk_K.okv ho ?_))
        refine zi_iload rfl rfl ?_
        refine zi_iceq rfl (fun hc => ?_) (fun hc => ?_)
        · have hF := zf_p hc hF
          refine zi_iload rfl rfl ?_
          refine zi_ifne rfl (fun hc => ?_) (fun hc => ?_)
          · have hF := zf_n hc hF
            exact zk_sb (zJ_L_law_704 (F_L_law_23 X  n) ih  _ _ _ hF) rfl ⟨rfl, rfl, rfl, rfl, rfl, trivial⟩
          · have hF := zf_p hc hF
            refine zi_aload_n rfl rfl ?_
            refine zi_iconst (v := (0 : Int32)) rfl rfl ?_
            obtain ⟨hb, hF⟩ := zf_g hF
            refine zi_laload rfl (zh_B3 _) (zin_ok hb) ?_
            refine zi_iload rfl rfl ?_
            refine zi_i2l rfl ?_
            refine zi_lcmp rfl ?_
            refine zi_ifeq rfl (fun hc => ?_) (fun hc => ?_)
            · have hF := zf_p hc hF
              exact zk_sb (zJ_L_law_704 (F_L_law_23 X  n) ih  _ _ _ hF) rfl ⟨rfl, rfl, rfl, rfl, rfl, trivial⟩
            · have hF := zf_n hc hF
              refine zi_iconst (v := (0 : Int32)) rfl rfl ?_
              cases hF
              exact zi_zreturn rfl rfl rfl rfl
        · have hF := zf_n hc hF
          refine zi_iconst (v := (0 : Int32)) rfl rfl ?_
          cases hF
          exact zi_zreturn rfl rfl rfl rfl
      have hF := zf_n hc8 hF
      by_cases hc9 : ((X.2 (x4).toNatClampNeg) &&& (31 : Int32)) = (9 : Int32)
      · have hF := zf_p hc9 hF
        rw [hc9]
        refine zi_tsw (t := 707) rfl rfl ?_
        refine zi_aload_n rfl rfl ?_
        refine zi_aload_n rfl rfl ?_
        refine zi_iload rfl rfl ?_
        refine zi_iconst (v := (1 : Int32)) rfl rfl ?_
        refine zi_iadd rfl ?_
        obtain ⟨hb, hF⟩ := zf_g hF
        refine zi_iaload rfl rfl (zin_ok hb) ?_
        refine zi_aload_n rfl rfl ?_
        refine zi_iload rfl rfl ?_
        refine zi_iconst (v := (2 : Int32)) rfl rfl ?_
        refine zi_iadd rfl ?_
        obtain ⟨hb, hF⟩ := zf_g hF
        refine zi_iaload rfl rfl (zin_ok hb) ?_
        refine zi_i2l rfl ?_
        refine zi_bipush (v := (32 : Int32)) rfl rfl ?_
        refine zi_lshl rfl ?_
        refine zi_aload_n rfl rfl ?_
        refine zi_iload rfl rfl ?_
        refine zi_iconst (v := (3 : Int32)) rfl rfl ?_
        refine zi_iadd rfl ?_
        obtain ⟨hb, hF⟩ := zf_g hF
        refine zi_iaload rfl rfl (zin_ok hb) ?_
        refine zi_i2l rfl ?_
        refine zi_ldc2_w (v := (4294967295 : Int64)) rfl rfl ?_
        refine zi_land rfl ?_
        refine zi_lor rfl ?_
        refine zi_aload_n rfl rfl ?_
        refine zi_iload rfl rfl ?_
        refine zi_iconst (v := (4 : Int32)) rfl rfl ?_
        refine zi_iadd rfl ?_
        obtain ⟨hb, hF⟩ := zf_g hF
        refine zi_iaload rfl rfl (zin_ok hb) ?_
        refine zi_aload_n rfl rfl ?_
        refine zi_iload rfl rfl ?_
        refine zi_iconst (v := (5 : Int32)) rfl rfl ?_
        refine zi_iadd rfl ?_
        obtain ⟨hb, hF⟩ := zf_g hF
        refine zi_iaload rfl rfl (zin_ok hb) ?_
        refine zi_aload_n rfl rfl ?_
        refine zi_iload rfl rfl ?_
        refine zi_bipush (v := (6 : Int32)) rfl rfl ?_
        refine zi_iadd rfl ?_
        obtain ⟨hb, hF⟩ := zf_g hF
        refine zi_iaload rfl rfl (zin_ok hb) ?_
        refine zi_aload_n rfl rfl ?_
        refine zi_iload rfl rfl ?_
        refine zi_bipush (v := (7 : Int32)) rfl rfl ?_
        refine zi_iadd rfl ?_
        obtain ⟨hb, hF⟩ := zf_g hF
        refine zi_iaload rfl rfl (zin_ok hb) ?_
        refine zi_aload_n rfl rfl ?_
        obtain ⟨v53, s54, hm, hF⟩ := zf_b hF
        refine zi_callS rfl rfl rfl rfl (zk_C.to (zk_C.up (by decide) (zF_L_define hm)) (fun o ho => zk_K.okv ho ?_))
        refine zi_istore rfl rfl rfl ?_
        refine zi_aload_n rfl rfl ?_
        refine zi_aload_n rfl rfl ?_
        refine zi_iload rfl rfl ?_
        refine zi_iconst (v := (1 : Int32)) rfl rfl ?_
        refine zi_iadd rfl ?_
        obtain ⟨hb, hF⟩ := zf_g hF
        refine zi_iaload rfl rfl (zin_ok hb) ?_
        refine zi_aload_n rfl rfl ?_
        refine zi_iload rfl rfl ?_
        refine zi_iconst (v := (2 : Int32)) rfl rfl ?_
        refine zi_iadd rfl ?_
        obtain ⟨hb, hF⟩ := zf_g hF
        refine zi_iaload rfl rfl (zin_ok hb) ?_
        refine zi_i2l rfl ?_
        refine zi_bipush (v := (32 : Int32)) rfl rfl ?_
        refine zi_lshl rfl ?_
        refine zi_aload_n rfl rfl ?_
        refine zi_iload rfl rfl ?_
        refine zi_iconst (v := (3 : Int32)) rfl rfl ?_
        refine zi_iadd rfl ?_
        obtain ⟨hb, hF⟩ := zf_g hF
        refine zi_iaload rfl rfl (zin_ok hb) ?_
        refine zi_i2l rfl ?_
        refine zi_ldc2_w (v := (4294967295 : Int64)) rfl rfl ?_
        refine zi_land rfl ?_
        refine zi_lor rfl ?_
        refine zi_aload_n rfl rfl ?_
        refine zi_iload rfl rfl ?_
        refine zi_iconst (v := (4 : Int32)) rfl rfl ?_
        refine zi_iadd rfl ?_
        obtain ⟨hb, hF⟩ := zf_g hF
        refine zi_iaload rfl rfl (zin_ok hb) ?_
        refine zi_aload_n rfl rfl ?_
        refine zi_iload rfl rfl ?_
        refine zi_iconst (v := (5 : Int32)) rfl rfl ?_
        refine zi_iadd rfl ?_
        obtain ⟨hb, hF⟩ := zf_g hF
        refine zi_iaload rfl rfl (zin_ok hb) ?_
        refine zi_aload_n rfl rfl ?_
        refine zi_iload rfl rfl ?_
        refine zi_bipush (v := (6 : Int32)) rfl rfl ?_
        refine zi_iadd rfl ?_
        obtain ⟨hb, hF⟩ := zf_g hF
        refine zi_iaload rfl rfl (zin_ok hb) ?_
        refine zi_aload_n rfl rfl ?_
        refine zi_iload rfl rfl ?_
        refine zi_bipush (v := (7 : Int32)) rfl rfl ?_
        refine zi_iadd rfl ?_
        obtain ⟨hb, hF⟩ := zf_g hF
        refine zi_iaload rfl rfl (zin_ok hb) ?_
        obtain ⟨v55, s56, hm, hF⟩ := zf_b hF
        refine zi_callV rfl rfl rfl (zh_R _) rfl (zk_C.to (zk_C.up (by decide) (zF_R_define hm)) (fun o ho => zk_K.okv ho ?_))
        refine zi_istore rfl rfl rfl ?_
        refine zi_aload_n rfl rfl ?_
        obtain ⟨v57, s58, hm, hF⟩ := zf_b hF
        refine zi_callV rfl rfl rfl (zh_R _) rfl (zk_C.to (zk_C.up (by decide) (zF_R_thrown hm)) (fun o ho => zk_K.okv ho ?_))
        refine zi_iload rfl rfl ?_
        refine zi_iceq rfl (fun hc => ?_) (fun hc => ?_)
        · have hF := zf_p hc hF
          refine zi_iload rfl rfl ?_
          refine zi_ifne rfl (fun hc => ?_) (fun hc => ?_)
          · have hF := zf_n hc hF
            exact zk_sb (zJ_L_law_856 (F_L_law_23 X  n) ih  _ _ _ hF) rfl ⟨rfl, rfl, rfl, rfl, rfl, trivial⟩
          · have hF := zf_p hc hF
            refine zi_aload_n rfl rfl ?_
            refine zi_iconst (v := (0 : Int32)) rfl rfl ?_
            obtain ⟨hb, hF⟩ := zf_g hF
            refine zi_laload rfl (zh_B3 _) (zin_ok hb) ?_
            refine zi_iload rfl rfl ?_
            refine zi_i2l rfl ?_
            refine zi_lcmp rfl ?_
            refine zi_ifeq rfl (fun hc => ?_) (fun hc => ?_)
            · have hF := zf_p hc hF
              exact zk_sb (zJ_L_law_856 (F_L_law_23 X  n) ih  _ _ _ hF) rfl ⟨rfl, rfl, rfl, rfl, rfl, trivial⟩
            · have hF := zf_n hc hF
              refine zi_iconst (v := (0 : Int32)) rfl rfl ?_
              cases hF
              exact zi_zreturn rfl rfl rfl rfl
        · have hF := zf_n hc hF
          refine zi_iconst (v := (0 : Int32)) rfl rfl ?_
          cases hF
          exact zi_zreturn rfl rfl rfl rfl
      have hF := zf_n hc9 hF
      by_cases hc10 : ((X.2 (x4).toNatClampNeg) &&& (31 : Int32)) = (10 : Int32)
      · have hF := zf_p hc10 hF
        rw [hc10]
        refine zi_tsw (t := 859) rfl rfl ?_
        refine zi_aload_n rfl rfl ?_
        refine zi_aload_n rfl rfl ?_
        refine zi_iload rfl rfl ?_
        refine zi_iconst (v := (1 : Int32)) rfl rfl ?_
        refine zi_iadd rfl ?_
        obtain ⟨hb, hF⟩ := zf_g hF
        refine zi_iaload rfl rfl (zin_ok hb) ?_
        refine zi_aload_n rfl rfl ?_
        refine zi_iload rfl rfl ?_
        refine zi_iconst (v := (2 : Int32)) rfl rfl ?_
        refine zi_iadd rfl ?_
        obtain ⟨hb, hF⟩ := zf_g hF
        refine zi_iaload rfl rfl (zin_ok hb) ?_
        refine zi_i2l rfl ?_
        refine zi_bipush (v := (32 : Int32)) rfl rfl ?_
        refine zi_lshl rfl ?_
        refine zi_aload_n rfl rfl ?_
        refine zi_iload rfl rfl ?_
        refine zi_iconst (v := (3 : Int32)) rfl rfl ?_
        refine zi_iadd rfl ?_
        obtain ⟨hb, hF⟩ := zf_g hF
        refine zi_iaload rfl rfl (zin_ok hb) ?_
        refine zi_i2l rfl ?_
        refine zi_ldc2_w (v := (4294967295 : Int64)) rfl rfl ?_
        refine zi_land rfl ?_
        refine zi_lor rfl ?_
        refine zi_aload_n rfl rfl ?_
        obtain ⟨v59, s60, hm, hF⟩ := zf_b hF
        refine zi_callS rfl rfl rfl rfl (zk_C.to (zk_C.up (by decide) (zF_L_own hm)) (fun o ho => zk_K.okv ho ?_))
        refine zi_istore rfl rfl rfl ?_
        refine zi_aload_n rfl rfl ?_
        refine zi_aload_n rfl rfl ?_
        refine zi_iload rfl rfl ?_
        refine zi_iconst (v := (1 : Int32)) rfl rfl ?_
        refine zi_iadd rfl ?_
        obtain ⟨hb, hF⟩ := zf_g hF
        refine zi_iaload rfl rfl (zin_ok hb) ?_
        refine zi_aload_n rfl rfl ?_
        refine zi_iload rfl rfl ?_
        refine zi_iconst (v := (2 : Int32)) rfl rfl ?_
        refine zi_iadd rfl ?_
        obtain ⟨hb, hF⟩ := zf_g hF
        refine zi_iaload rfl rfl (zin_ok hb) ?_
        refine zi_i2l rfl ?_
        refine zi_bipush (v := (32 : Int32)) rfl rfl ?_
        refine zi_lshl rfl ?_
        refine zi_aload_n rfl rfl ?_
        refine zi_iload rfl rfl ?_
        refine zi_iconst (v := (3 : Int32)) rfl rfl ?_
        refine zi_iadd rfl ?_
        obtain ⟨hb, hF⟩ := zf_g hF
        refine zi_iaload rfl rfl (zin_ok hb) ?_
        refine zi_i2l rfl ?_
        refine zi_ldc2_w (v := (4294967295 : Int64)) rfl rfl ?_
        refine zi_land rfl ?_
        refine zi_lor rfl ?_
        obtain ⟨v61, s62, hm, hF⟩ := zf_b hF
        refine zi_callV rfl rfl rfl (zh_R _) rfl (zk_C.to (zk_C.up (by decide) (zF_R_own hm)) (fun o ho => zk_K.okv ho ?_))
        refine zi_istore rfl rfl rfl ?_
        refine zi_aload_n rfl rfl ?_
        obtain ⟨v63, s64, hm, hF⟩ := zf_b hF
        refine zi_callV rfl rfl rfl (zh_R _) rfl (zk_C.to (zk_C.up (by decide) (zF_R_thrown hm)) (fun o ho => zk_K.okv ho ?_))
        refine zi_iload rfl rfl ?_
        refine zi_iceq rfl (fun hc => ?_) (fun hc => ?_)
        · have hF := zf_p hc hF
          refine zi_iload rfl rfl ?_
          refine zi_ifne rfl (fun hc => ?_) (fun hc => ?_)
          · have hF := zf_n hc hF
            exact zk_sb (zJ_L_law_956 (F_L_law_23 X  n) ih  _ _ _ hF) rfl ⟨rfl, rfl, rfl, rfl, rfl, trivial⟩
          · have hF := zf_p hc hF
            refine zi_aload_n rfl rfl ?_
            refine zi_iconst (v := (0 : Int32)) rfl rfl ?_
            obtain ⟨hb, hF⟩ := zf_g hF
            refine zi_laload rfl (zh_B3 _) (zin_ok hb) ?_
            refine zi_iload rfl rfl ?_
            refine zi_i2l rfl ?_
            refine zi_lcmp rfl ?_
            refine zi_ifeq rfl (fun hc => ?_) (fun hc => ?_)
            · have hF := zf_p hc hF
              exact zk_sb (zJ_L_law_956 (F_L_law_23 X  n) ih  _ _ _ hF) rfl ⟨rfl, rfl, rfl, rfl, rfl, trivial⟩
            · have hF := zf_n hc hF
              refine zi_iconst (v := (0 : Int32)) rfl rfl ?_
              cases hF
              exact zi_zreturn rfl rfl rfl rfl
        · have hF := zf_n hc hF
          refine zi_iconst (v := (0 : Int32)) rfl rfl ?_
          cases hF
          exact zi_zreturn rfl rfl rfl rfl
      have hF := zf_n hc10 hF
      by_cases hc11 : ((X.2 (x4).toNatClampNeg) &&& (31 : Int32)) = (11 : Int32)
      · have hF := zf_p hc11 hF
        rw [hc11]
        refine zi_tsw (t := 959) rfl rfl ?_
        refine zi_aload_n rfl rfl ?_
        refine zi_aload_n rfl rfl ?_
        refine zi_iload rfl rfl ?_
        refine zi_iconst (v := (1 : Int32)) rfl rfl ?_
        refine zi_iadd rfl ?_
        obtain ⟨hb, hF⟩ := zf_g hF
        refine zi_iaload rfl rfl (zin_ok hb) ?_
        refine zi_aload_n rfl rfl ?_
        refine zi_iload rfl rfl ?_
        refine zi_iconst (v := (2 : Int32)) rfl rfl ?_
        refine zi_iadd rfl ?_
        obtain ⟨hb, hF⟩ := zf_g hF
        refine zi_iaload rfl rfl (zin_ok hb) ?_
        refine zi_i2l rfl ?_
        refine zi_bipush (v := (32 : Int32)) rfl rfl ?_
        refine zi_lshl rfl ?_
        refine zi_aload_n rfl rfl ?_
        refine zi_iload rfl rfl ?_
        refine zi_iconst (v := (3 : Int32)) rfl rfl ?_
        refine zi_iadd rfl ?_
        obtain ⟨hb, hF⟩ := zf_g hF
        refine zi_iaload rfl rfl (zin_ok hb) ?_
        refine zi_i2l rfl ?_
        refine zi_ldc2_w (v := (4294967295 : Int64)) rfl rfl ?_
        refine zi_land rfl ?_
        refine zi_lor rfl ?_
        refine zi_aload_n rfl rfl ?_
        refine zi_iload rfl rfl ?_
        refine zi_iconst (v := (4 : Int32)) rfl rfl ?_
        refine zi_iadd rfl ?_
        obtain ⟨hb, hF⟩ := zf_g hF
        refine zi_iaload rfl rfl (zin_ok hb) ?_
        refine zi_aload_n rfl rfl ?_
        obtain ⟨v65, s66, hm, hF⟩ := zf_b hF
        refine zi_callS rfl rfl rfl rfl (zk_C.to (zk_C.up (by decide) (zF_L_setter hm)) (fun o ho => zk_K.okv ho ?_))
        refine zi_istore rfl rfl rfl ?_
        refine zi_aload_n rfl rfl ?_
        refine zi_aload_n rfl rfl ?_
        refine zi_iload rfl rfl ?_
        refine zi_iconst (v := (1 : Int32)) rfl rfl ?_
        refine zi_iadd rfl ?_
        obtain ⟨hb, hF⟩ := zf_g hF
        refine zi_iaload rfl rfl (zin_ok hb) ?_
        refine zi_aload_n rfl rfl ?_
        refine zi_iload rfl rfl ?_
        refine zi_iconst (v := (2 : Int32)) rfl rfl ?_
        refine zi_iadd rfl ?_
        obtain ⟨hb, hF⟩ := zf_g hF
        refine zi_iaload rfl rfl (zin_ok hb) ?_
        refine zi_i2l rfl ?_
        refine zi_bipush (v := (32 : Int32)) rfl rfl ?_
        refine zi_lshl rfl ?_
        refine zi_aload_n rfl rfl ?_
        refine zi_iload rfl rfl ?_
        refine zi_iconst (v := (3 : Int32)) rfl rfl ?_
        refine zi_iadd rfl ?_
        obtain ⟨hb, hF⟩ := zf_g hF
        refine zi_iaload rfl rfl (zin_ok hb) ?_
        refine zi_i2l rfl ?_
        refine zi_ldc2_w (v := (4294967295 : Int64)) rfl rfl ?_
        refine zi_land rfl ?_
        refine zi_lor rfl ?_
        refine zi_aload_n rfl rfl ?_
        refine zi_iload rfl rfl ?_
        refine zi_iconst (v := (4 : Int32)) rfl rfl ?_
        refine zi_iadd rfl ?_
        obtain ⟨hb, hF⟩ := zf_g hF
        refine zi_iaload rfl rfl (zin_ok hb) ?_
        obtain ⟨v67, s68, hm, hF⟩ := zf_b hF
        refine zi_callV rfl rfl rfl (zh_R _) rfl (zk_C.to (zk_C.up (by decide) (zF_R_setter hm)) (fun o ho => zk_K.okv ho ?_))
        refine zi_istore rfl rfl rfl ?_
        refine zi_aload_n rfl rfl ?_
        obtain ⟨v69, s70, hm, hF⟩ := zf_b hF
        refine zi_callV rfl rfl rfl (zh_R _) rfl (zk_C.to (zk_C.up (by decide) (zF_R_thrown hm)) (fun o ho => zk_K.okv ho ?_))
        refine zi_iload rfl rfl ?_
        refine zi_iceq rfl (fun hc => ?_) (fun hc => ?_)
        · have hF := zf_p hc hF
          refine zi_iload rfl rfl ?_
          refine zi_ifne rfl (fun hc => ?_) (fun hc => ?_)
          · have hF := zf_n hc hF
            exact zk_sb (zJ_L_law_1075 (F_L_law_23 X  n) ih  _ _ _ hF) rfl ⟨rfl, rfl, rfl, rfl, rfl, trivial⟩
          · have hF := zf_p hc hF
            refine zi_aload_n rfl rfl ?_
            refine zi_iconst (v := (0 : Int32)) rfl rfl ?_
            obtain ⟨hb, hF⟩ := zf_g hF
            refine zi_laload rfl (zh_B3 _) (zin_ok hb) ?_
            refine zi_iload rfl rfl ?_
            refine zi_ifeq rfl (fun hc => ?_) (fun hc => ?_)
            · have hF := zf_p hc hF
              refine zi_lconst (v := (0 : Int64)) rfl rfl ?_
              exact zk_sb (zJ_L_law_1069 (F_L_law_23 X  n) ih  _ _ _ _ _ hF) rfl ⟨rfl, rfl, rfl, rfl, rfl, trivial⟩
            · have hF := zf_n hc hF
              refine zi_lconst (v := (1 : Int64)) rfl rfl ?_
              refine zi_goto rfl ?_
              exact zk_sb (zJ_L_law_1069 (F_L_law_23 X  n) ih  _ _ _ _ _ hF) rfl ⟨rfl, rfl, rfl, rfl, rfl, trivial⟩
        · have hF := zf_n hc hF
          refine zi_iconst (v := (0 : Int32)) rfl rfl ?_
          cases hF
          exact zi_zreturn rfl rfl rfl rfl
      have hF := zf_n hc11 hF
      by_cases hc12 : ((X.2 (x4).toNatClampNeg) &&& (31 : Int32)) = (12 : Int32)
      · have hF := zf_p hc12 hF
        rw [hc12]
        refine zi_tsw (t := 1078) rfl rfl ?_
        refine zi_aload_n rfl rfl ?_
        refine zi_aload_n rfl rfl ?_
        refine zi_iload rfl rfl ?_
        refine zi_iconst (v := (1 : Int32)) rfl rfl ?_
        refine zi_iadd rfl ?_
        obtain ⟨hb, hF⟩ := zf_g hF
        refine zi_iaload rfl rfl (zin_ok hb) ?_
        refine zi_aload_n rfl rfl ?_
        refine zi_iload rfl rfl ?_
        refine zi_iconst (v := (2 : Int32)) rfl rfl ?_
        refine zi_iadd rfl ?_
        obtain ⟨hb, hF⟩ := zf_g hF
        refine zi_iaload rfl rfl (zin_ok hb) ?_
        refine zi_i2l rfl ?_
        refine zi_bipush (v := (32 : Int32)) rfl rfl ?_
        refine zi_lshl rfl ?_
        refine zi_aload_n rfl rfl ?_
        refine zi_iload rfl rfl ?_
        refine zi_iconst (v := (3 : Int32)) rfl rfl ?_
        refine zi_iadd rfl ?_
        obtain ⟨hb, hF⟩ := zf_g hF
        refine zi_iaload rfl rfl (zin_ok hb) ?_
        refine zi_i2l rfl ?_
        refine zi_ldc2_w (v := (4294967295 : Int64)) rfl rfl ?_
        refine zi_land rfl ?_
        refine zi_lor rfl ?_
        refine zi_aload_n rfl rfl ?_
        obtain ⟨v71, s72, hm, hF⟩ := zf_b hF
        refine zi_callS rfl rfl rfl rfl (zk_C.to (zk_C.up (by decide) (zF_L_has hm)) (fun o ho => zk_K.okv ho ?_))
        refine zi_istore rfl rfl rfl ?_
        refine zi_aload_n rfl rfl ?_
        refine zi_aload_n rfl rfl ?_
        refine zi_iload rfl rfl ?_
        refine zi_iconst (v := (1 : Int32)) rfl rfl ?_
        refine zi_iadd rfl ?_
        obtain ⟨hb, hF⟩ := zf_g hF
        refine zi_iaload rfl rfl (zin_ok hb) ?_
        refine zi_aload_n rfl rfl ?_
        refine zi_iload rfl rfl ?_
        refine zi_iconst (v := (2 : Int32)) rfl rfl ?_
        refine zi_iadd rfl ?_
        obtain ⟨hb, hF⟩ := zf_g hF
        refine zi_iaload rfl rfl (zin_ok hb) ?_
        refine zi_i2l rfl ?_
        refine zi_bipush (v := (32 : Int32)) rfl rfl ?_
        refine zi_lshl rfl ?_
        refine zi_aload_n rfl rfl ?_
        refine zi_iload rfl rfl ?_
        refine zi_iconst (v := (3 : Int32)) rfl rfl ?_
        refine zi_iadd rfl ?_
        obtain ⟨hb, hF⟩ := zf_g hF
        refine zi_iaload rfl rfl (zin_ok hb) ?_
        refine zi_i2l rfl ?_
        refine zi_ldc2_w (v := (4294967295 : Int64)) rfl rfl ?_
        refine zi_land rfl ?_
        refine zi_lor rfl ?_
        obtain ⟨v73, s74, hm, hF⟩ := zf_b hF
        refine zi_callV rfl rfl rfl (zh_R _) rfl (zk_C.to (zk_C.up (by decide) (zF_R_has_1 hm)) (fun o ho => zk_K.okv ho ?_))
        refine zi_istore rfl rfl rfl ?_
        refine zi_aload_n rfl rfl ?_
        obtain ⟨v75, s76, hm, hF⟩ := zf_b hF
        refine zi_callV rfl rfl rfl (zh_R _) rfl (zk_C.to (zk_C.up (by decide) (zF_R_thrown hm)) (fun o ho => zk_K.okv ho ?_))
        refine zi_iload rfl rfl ?_
        refine zi_iceq rfl (fun hc => ?_) (fun hc => ?_)
        · have hF := zf_p hc hF
          refine zi_iload rfl rfl ?_
          refine zi_ifne rfl (fun hc => ?_) (fun hc => ?_)
          · have hF := zf_n hc hF
            exact zk_sb (zJ_L_law_1182 (F_L_law_23 X  n) ih  _ _ _ hF) rfl ⟨rfl, rfl, rfl, rfl, rfl, trivial⟩
          · have hF := zf_p hc hF
            refine zi_aload_n rfl rfl ?_
            refine zi_iconst (v := (0 : Int32)) rfl rfl ?_
            obtain ⟨hb, hF⟩ := zf_g hF
            refine zi_laload rfl (zh_B3 _) (zin_ok hb) ?_
            refine zi_iload rfl rfl ?_
            refine zi_ifeq rfl (fun hc => ?_) (fun hc => ?_)
            · have hF := zf_p hc hF
              refine zi_lconst (v := (0 : Int64)) rfl rfl ?_
              exact zk_sb (zJ_L_law_1176 (F_L_law_23 X  n) ih  _ _ _ _ _ hF) rfl ⟨rfl, rfl, rfl, rfl, rfl, trivial⟩
            · have hF := zf_n hc hF
              refine zi_lconst (v := (1 : Int64)) rfl rfl ?_
              refine zi_goto rfl ?_
              exact zk_sb (zJ_L_law_1176 (F_L_law_23 X  n) ih  _ _ _ _ _ hF) rfl ⟨rfl, rfl, rfl, rfl, rfl, trivial⟩
        · have hF := zf_n hc hF
          refine zi_iconst (v := (0 : Int32)) rfl rfl ?_
          cases hF
          exact zi_zreturn rfl rfl rfl rfl
      have hF := zf_n hc12 hF
      by_cases hc13 : ((X.2 (x4).toNatClampNeg) &&& (31 : Int32)) = (13 : Int32)
      · have hF := zf_p hc13 hF
        rw [hc13]
        refine zi_tsw (t := 1185) rfl rfl ?_
        refine zi_aload_n rfl rfl ?_
        refine zi_aload_n rfl rfl ?_
        refine zi_iload rfl rfl ?_
        refine zi_iconst (v := (1 : Int32)) rfl rfl ?_
        refine zi_iadd rfl ?_
        obtain ⟨hb, hF⟩ := zf_g hF
        refine zi_iaload rfl rfl (zin_ok hb) ?_
        refine zi_aload_n rfl rfl ?_
        refine zi_iload rfl rfl ?_
        refine zi_iconst (v := (2 : Int32)) rfl rfl ?_
        refine zi_iadd rfl ?_
        obtain ⟨hb, hF⟩ := zf_g hF
        refine zi_iaload rfl rfl (zin_ok hb) ?_
        refine zi_i2l rfl ?_
        refine zi_bipush (v := (32 : Int32)) rfl rfl ?_
        refine zi_lshl rfl ?_
        refine zi_aload_n rfl rfl ?_
        refine zi_iload rfl rfl ?_
        refine zi_iconst (v := (3 : Int32)) rfl rfl ?_
        refine zi_iadd rfl ?_
        obtain ⟨hb, hF⟩ := zf_g hF
        refine zi_iaload rfl rfl (zin_ok hb) ?_
        refine zi_i2l rfl ?_
        refine zi_ldc2_w (v := (4294967295 : Int64)) rfl rfl ?_
        refine zi_land rfl ?_
        refine zi_lor rfl ?_
        refine zi_aload_n rfl rfl ?_
        obtain ⟨v77, s78, hm, hF⟩ := zf_b hF
        refine zi_callS rfl rfl rfl rfl (zk_C.to (zk_C.up (by decide) (zF_L_delete hm)) (fun o ho => zk_K.okv ho ?_))
        refine zi_istore rfl rfl rfl ?_
        refine zi_aload_n rfl rfl ?_
        refine zi_aload_n rfl rfl ?_
        refine zi_iload rfl rfl ?_
        refine zi_iconst (v := (1 : Int32)) rfl rfl ?_
        refine zi_iadd rfl ?_
        obtain ⟨hb, hF⟩ := zf_g hF
        refine zi_iaload rfl rfl (zin_ok hb) ?_
        refine zi_aload_n rfl rfl ?_
        refine zi_iload rfl rfl ?_
        refine zi_iconst (v := (2 : Int32)) rfl rfl ?_
        refine zi_iadd rfl ?_
        obtain ⟨hb, hF⟩ := zf_g hF
        refine zi_iaload rfl rfl (zin_ok hb) ?_
        refine zi_i2l rfl ?_
        refine zi_bipush (v := (32 : Int32)) rfl rfl ?_
        refine zi_lshl rfl ?_
        refine zi_aload_n rfl rfl ?_
        refine zi_iload rfl rfl ?_
        refine zi_iconst (v := (3 : Int32)) rfl rfl ?_
        refine zi_iadd rfl ?_
        obtain ⟨hb, hF⟩ := zf_g hF
        refine zi_iaload rfl rfl (zin_ok hb) ?_
        refine zi_i2l rfl ?_
        refine zi_ldc2_w (v := (4294967295 : Int64)) rfl rfl ?_
        refine zi_land rfl ?_
        refine zi_lor rfl ?_
        obtain ⟨v79, s80, hm, hF⟩ := zf_b hF
        refine zi_callV rfl rfl rfl (zh_R _) rfl (zk_C.to (zk_C.up (by decide) (zF_R_delete hm)) (fun o ho => zk_K.okv ho ?_))
        refine zi_istore rfl rfl rfl ?_
        refine zi_aload_n rfl rfl ?_
        obtain ⟨v81, s82, hm, hF⟩ := zf_b hF
        refine zi_callV rfl rfl rfl (zh_R _) rfl (zk_C.to (zk_C.up (by decide) (zF_R_thrown hm)) (fun o ho => zk_K.okv ho ?_))
        refine zi_iload rfl rfl ?_
        refine zi_iceq rfl (fun hc => ?_) (fun hc => ?_)
        · have hF := zf_p hc hF
          refine zi_iload rfl rfl ?_
          refine zi_ifne rfl (fun hc => ?_) (fun hc => ?_)
          · have hF := zf_n hc hF
            exact zk_sb (zJ_L_law_1289 (F_L_law_23 X  n) ih  _ _ _ hF) rfl ⟨rfl, rfl, rfl, rfl, rfl, trivial⟩
          · have hF := zf_p hc hF
            refine zi_aload_n rfl rfl ?_
            refine zi_iconst (v := (0 : Int32)) rfl rfl ?_
            obtain ⟨hb, hF⟩ := zf_g hF
            refine zi_laload rfl (zh_B3 _) (zin_ok hb) ?_
            refine zi_iload rfl rfl ?_
            refine zi_ifeq rfl (fun hc => ?_) (fun hc => ?_)
            · have hF := zf_p hc hF
              refine zi_lconst (v := (0 : Int64)) rfl rfl ?_
              exact zk_sb (zJ_L_law_1283 (F_L_law_23 X  n) ih  _ _ _ _ _ hF) rfl ⟨rfl, rfl, rfl, rfl, rfl, trivial⟩
            · have hF := zf_n hc hF
              refine zi_lconst (v := (1 : Int64)) rfl rfl ?_
              refine zi_goto rfl ?_
              exact zk_sb (zJ_L_law_1283 (F_L_law_23 X  n) ih  _ _ _ _ _ hF) rfl ⟨rfl, rfl, rfl, rfl, rfl, trivial⟩
        · have hF := zf_n hc hF
          refine zi_iconst (v := (0 : Int32)) rfl rfl ?_
          cases hF
          exact zi_zreturn rfl rfl rfl rfl
      have hF := zf_n hc13 hF
      by_cases hc14 : ((X.2 (x4).toNatClampNeg) &&& (31 : Int32)) = (14 : Int32)
      · have hF := zf_p hc14 hF
        rw [hc14]
        refine zi_tsw (t := 1292) rfl rfl ?_
        refine zi_aload_n rfl rfl ?_
        refine zi_aload_n rfl rfl ?_
        refine zi_iload rfl rfl ?_
        refine zi_iconst (v := (1 : Int32)) rfl rfl ?_
        refine zi_iadd rfl ?_
        obtain ⟨hb, hF⟩ := zf_g hF
        refine zi_iaload rfl rfl (zin_ok hb) ?_
        refine zi_aload_n rfl rfl ?_
        obtain ⟨v83, s84, hm, hF⟩ := zf_b hF
        refine zi_callS rfl rfl rfl rfl (zk_C.to (zk_C.up (by decide) (zF_L_keys hm)) (fun o ho => zk_K.okv ho ?_))
        refine zi_istore rfl rfl rfl ?_
        refine zi_aload_n rfl rfl ?_
        refine zi_aload_n rfl rfl ?_
        refine zi_iload rfl rfl ?_
        refine zi_iconst (v := (1 : Int32)) rfl rfl ?_
        refine zi_iadd rfl ?_
        obtain ⟨hb, hF⟩ := zf_g hF
        refine zi_iaload rfl rfl (zin_ok hb) ?_
        obtain ⟨v85, s86, hm, hF⟩ := zf_b hF
        refine zi_callV rfl rfl rfl (zh_R _) rfl (zk_C.to (zk_C.up (by decide) (zF_R_keys hm)) (fun o ho => zk_K.okv ho ?_))
        refine zi_istore rfl rfl rfl ?_
        refine zi_aload_n rfl rfl ?_
        obtain ⟨v87, s88, hm, hF⟩ := zf_b hF
        refine zi_callV rfl rfl rfl (zh_R _) rfl (zk_C.to (zk_C.up (by decide) (zF_R_thrown hm)) (fun o ho => zk_K.okv ho ?_))
        refine zi_iload rfl rfl ?_
        refine zi_iceq rfl (fun hc => ?_) (fun hc => ?_)
        · have hF := zf_p hc hF
          refine zi_iload rfl rfl ?_
          refine zi_ifne rfl (fun hc => ?_) (fun hc => ?_)
          · have hF := zf_n hc hF
            exact zk_sb (zJ_L_law_1345 (F_L_law_23 X  n) ih  _ _ _ hF) rfl ⟨rfl, rfl, rfl, rfl, rfl, trivial⟩
          · have hF := zf_p hc hF
            refine zi_aload_n rfl rfl ?_
            refine zi_iconst (v := (0 : Int32)) rfl rfl ?_
            obtain ⟨hb, hF⟩ := zf_g hF
            refine zi_laload rfl (zh_B3 _) (zin_ok hb) ?_
            refine zi_iload rfl rfl ?_
            refine zi_i2l rfl ?_
            refine zi_lcmp rfl ?_
            refine zi_ifeq rfl (fun hc => ?_) (fun hc => ?_)
            · have hF := zf_p hc hF
              exact zk_sb (zJ_L_law_1345 (F_L_law_23 X  n) ih  _ _ _ hF) rfl ⟨rfl, rfl, rfl, rfl, rfl, trivial⟩
            · have hF := zf_n hc hF
              refine zi_iconst (v := (0 : Int32)) rfl rfl ?_
              cases hF
              exact zi_zreturn rfl rfl rfl rfl
        · have hF := zf_n hc hF
          refine zi_iconst (v := (0 : Int32)) rfl rfl ?_
          cases hF
          exact zi_zreturn rfl rfl rfl rfl
      have hF := zf_n hc14 hF
      by_cases hc15 : ((X.2 (x4).toNatClampNeg) &&& (31 : Int32)) = (15 : Int32)
      · have hF := zf_p hc15 hF
        rw [hc15]
        refine zi_tsw (t := 1348) rfl rfl ?_
        refine zi_aload_n rfl rfl ?_
        refine zi_aload_n rfl rfl ?_
        refine zi_iload rfl rfl ?_
        refine zi_iconst (v := (1 : Int32)) rfl rfl ?_
        refine zi_iadd rfl ?_
        obtain ⟨hb, hF⟩ := zf_g hF
        refine zi_iaload rfl rfl (zin_ok hb) ?_
        refine zi_aload_n rfl rfl ?_
        refine zi_iload rfl rfl ?_
        refine zi_iconst (v := (2 : Int32)) rfl rfl ?_
        refine zi_iadd rfl ?_
        obtain ⟨hb, hF⟩ := zf_g hF
        refine zi_iaload rfl rfl (zin_ok hb) ?_
        refine zi_aload_n rfl rfl ?_
        obtain ⟨v89, s90, hm, hF⟩ := zf_b hF
        refine zi_callS rfl rfl rfl rfl (zk_C.to (zk_C.up (by decide) (zF_L_key hm)) (fun o ho => zk_K.okv ho ?_))
        refine zi_istore rfl rfl rfl ?_
        refine zi_aload_n rfl rfl ?_
        refine zi_aload_n rfl rfl ?_
        refine zi_iload rfl rfl ?_
        refine zi_iconst (v := (1 : Int32)) rfl rfl ?_
        refine zi_iadd rfl ?_
        obtain ⟨hb, hF⟩ := zf_g hF
        refine zi_iaload rfl rfl (zin_ok hb) ?_
        refine zi_aload_n rfl rfl ?_
        refine zi_iload rfl rfl ?_
        refine zi_iconst (v := (2 : Int32)) rfl rfl ?_
        refine zi_iadd rfl ?_
        obtain ⟨hb, hF⟩ := zf_g hF
        refine zi_iaload rfl rfl (zin_ok hb) ?_
        obtain ⟨v91, s92, hm, hF⟩ := zf_b hF
        refine zi_callV rfl rfl rfl (zh_R _) rfl (zk_C.to (zk_C.up (by decide) (zF_R_key hm)) (fun o ho => zk_K.okv ho ?_))
        refine zi_lstore rfl rfl rfl ?_
        refine zi_aload_n rfl rfl ?_
        obtain ⟨v93, s94, hm, hF⟩ := zf_b hF
        refine zi_callV rfl rfl rfl (zh_R _) rfl (zk_C.to (zk_C.up (by decide) (zF_R_thrown hm)) (fun o ho => zk_K.okv ho ?_))
        refine zi_iload rfl rfl ?_
        refine zi_iceq rfl (fun hc => ?_) (fun hc => ?_)
        · have hF := zf_p hc hF
          refine zi_iload rfl rfl ?_
          refine zi_ifne rfl (fun hc => ?_) (fun hc => ?_)
          · have hF := zf_n hc hF
            exact zk_sb (zJ_L_law_1412 (F_L_law_23 X  n) ih  _ _ _ hF) rfl ⟨rfl, rfl, rfl, rfl, rfl, trivial⟩
          · have hF := zf_p hc hF
            refine zi_aload_n rfl rfl ?_
            refine zi_iconst (v := (0 : Int32)) rfl rfl ?_
            obtain ⟨hb, hF⟩ := zf_g hF
            refine zi_laload rfl (zh_B3 _) (zin_ok hb) ?_
            refine zi_lload rfl rfl ?_
            refine zi_lcmp rfl ?_
            refine zi_ifeq rfl (fun hc => ?_) (fun hc => ?_)
            · have hF := zf_p hc hF
              exact zk_sb (zJ_L_law_1412 (F_L_law_23 X  n) ih  _ _ _ hF) rfl ⟨rfl, rfl, rfl, rfl, rfl, trivial⟩
            · have hF := zf_n hc hF
              refine zi_iconst (v := (0 : Int32)) rfl rfl ?_
              cases hF
              exact zi_zreturn rfl rfl rfl rfl
        · have hF := zf_n hc hF
          refine zi_iconst (v := (0 : Int32)) rfl rfl ?_
          cases hF
          exact zi_zreturn rfl rfl rfl rfl
      have hF := zf_n hc15 hF
      by_cases hc16 : ((X.2 (x4).toNatClampNeg) &&& (31 : Int32)) = (16 : Int32)
      · have hF := zf_p hc16 hF
        rw [hc16]
        refine zi_tsw (t := 1415) rfl rfl ?_
        refine zi_aload_n rfl rfl ?_
        refine zi_aload_n rfl rfl ?_
        refine zi_iload rfl rfl ?_
        refine zi_iconst (v := (1 : Int32)) rfl rfl ?_
        refine zi_iadd rfl ?_
        obtain ⟨hb, hF⟩ := zf_g hF
        refine zi_iaload rfl rfl (zin_ok hb) ?_
        refine zi_aload_n rfl rfl ?_
        refine zi_iload rfl rfl ?_
        refine zi_iconst (v := (2 : Int32)) rfl rfl ?_
        refine zi_iadd rfl ?_
        obtain ⟨hb, hF⟩ := zf_g hF
        refine zi_iaload rfl rfl (zin_ok hb) ?_
        obtain ⟨v95, s96, hm, hF⟩ := zf_b hF
        refine zi_callS rfl rfl rfl rfl (zk_C.to (zk_C.up (by decide) (zF_L_lock hm)) (fun o ho => zk_K.okv ho ?_))
        refine zi_istore rfl rfl rfl ?_
        refine zi_aload_n rfl rfl ?_
        refine zi_aload_n rfl rfl ?_
        refine zi_iload rfl rfl ?_
        refine zi_iconst (v := (1 : Int32)) rfl rfl ?_
        refine zi_iadd rfl ?_
        obtain ⟨hb, hF⟩ := zf_g hF
        refine zi_iaload rfl rfl (zin_ok hb) ?_
        refine zi_aload_n rfl rfl ?_
        refine zi_iload rfl rfl ?_
        refine zi_iconst (v := (2 : Int32)) rfl rfl ?_
        refine zi_iadd rfl ?_
        obtain ⟨hb, hF⟩ := zf_g hF
        refine zi_iaload rfl rfl (zin_ok hb) ?_
        obtain ⟨v97, s98, hm, hF⟩ := zf_b hF
        refine zi_callV rfl rfl rfl (zh_R _) rfl (zk_C.to (zk_C.up (by decide) (zF_R_lock hm)) (fun o ho => zk_K.okn ho ?_))
        refine zi_aload_n rfl rfl ?_
        obtain ⟨v99, s100, hm, hF⟩ := zf_b hF
        refine zi_callV rfl rfl rfl (zh_R _) rfl (zk_C.to (zk_C.up (by decide) (zF_R_thrown hm)) (fun o ho => zk_K.okv ho ?_))
        refine zi_iload rfl rfl ?_
        refine zi_iceq rfl (fun hc => ?_) (fun hc => ?_)
        · have hF := zf_p hc hF
          refine zi_goto rfl ?_
          exact zk_sb (zJ_L_law_1622 (F_L_law_23 X  n) ih  _ _ _ hF) rfl ⟨rfl, rfl, rfl, rfl, rfl, trivial⟩
        · have hF := zf_n hc hF
          refine zi_iconst (v := (0 : Int32)) rfl rfl ?_
          cases hF
          exact zi_zreturn rfl rfl rfl rfl
      have hF := zf_n hc16 hF
      by_cases hc17 : ((X.2 (x4).toNatClampNeg) &&& (31 : Int32)) = (17 : Int32)
      · have hF := zf_p hc17 hF
        rw [hc17]
        refine zi_tsw (t := 1463) rfl rfl ?_
        refine zi_aload_n rfl rfl ?_
        refine zi_aload_n rfl rfl ?_
        refine zi_iload rfl rfl ?_
        refine zi_iconst (v := (1 : Int32)) rfl rfl ?_
        refine zi_iadd rfl ?_
        obtain ⟨hb, hF⟩ := zf_g hF
        refine zi_iaload rfl rfl (zin_ok hb) ?_
        refine zi_aload_n rfl rfl ?_
        refine zi_iload rfl rfl ?_
        refine zi_iconst (v := (2 : Int32)) rfl rfl ?_
        refine zi_iadd rfl ?_
        obtain ⟨hb, hF⟩ := zf_g hF
        refine zi_iaload rfl rfl (zin_ok hb) ?_
        refine zi_aload_n rfl rfl ?_
        obtain ⟨v101, s102, hm, hF⟩ := zf_b hF
        refine zi_callS rfl rfl rfl rfl (zk_C.to (zk_C.up (by decide) (zF_L_locked hm)) (fun o ho => zk_K.okv ho ?_))
        refine zi_istore rfl rfl rfl ?_
        refine zi_aload_n rfl rfl ?_
        refine zi_aload_n rfl rfl ?_
        refine zi_iload rfl rfl ?_
        refine zi_iconst (v := (1 : Int32)) rfl rfl ?_
        refine zi_iadd rfl ?_
        obtain ⟨hb, hF⟩ := zf_g hF
        refine zi_iaload rfl rfl (zin_ok hb) ?_
        refine zi_aload_n rfl rfl ?_
        refine zi_iload rfl rfl ?_
        refine zi_iconst (v := (2 : Int32)) rfl rfl ?_
        refine zi_iadd rfl ?_
        obtain ⟨hb, hF⟩ := zf_g hF
        refine zi_iaload rfl rfl (zin_ok hb) ?_
        obtain ⟨v103, s104, hm, hF⟩ := zf_b hF
        refine zi_callV rfl rfl rfl (zh_R _) rfl (zk_C.to (zk_C.up (by decide) (zF_R_locked hm)) (fun o ho => zk_K.okv ho ?_))
        refine zi_istore rfl rfl rfl ?_
        refine zi_aload_n rfl rfl ?_
        obtain ⟨v105, s106, hm, hF⟩ := zf_b hF
        refine zi_callV rfl rfl rfl (zh_R _) rfl (zk_C.to (zk_C.up (by decide) (zF_R_thrown hm)) (fun o ho => zk_K.okv ho ?_))
        refine zi_iload rfl rfl ?_
        refine zi_iceq rfl (fun hc => ?_) (fun hc => ?_)
        · have hF := zf_p hc hF
          refine zi_iload rfl rfl ?_
          refine zi_ifne rfl (fun hc => ?_) (fun hc => ?_)
          · have hF := zf_n hc hF
            exact zk_sb (zJ_L_law_1535 (F_L_law_23 X  n) ih  _ _ _ hF) rfl ⟨rfl, rfl, rfl, rfl, rfl, trivial⟩
          · have hF := zf_p hc hF
            refine zi_aload_n rfl rfl ?_
            refine zi_iconst (v := (0 : Int32)) rfl rfl ?_
            obtain ⟨hb, hF⟩ := zf_g hF
            refine zi_laload rfl (zh_B3 _) (zin_ok hb) ?_
            refine zi_iload rfl rfl ?_
            refine zi_ifeq rfl (fun hc => ?_) (fun hc => ?_)
            · have hF := zf_p hc hF
              refine zi_lconst (v := (0 : Int64)) rfl rfl ?_
              exact zk_sb (zJ_L_law_1529 (F_L_law_23 X  n) ih  _ _ _ _ _ hF) rfl ⟨rfl, rfl, rfl, rfl, rfl, trivial⟩
            · have hF := zf_n hc hF
              refine zi_lconst (v := (1 : Int64)) rfl rfl ?_
              refine zi_goto rfl ?_
              exact zk_sb (zJ_L_law_1529 (F_L_law_23 X  n) ih  _ _ _ _ _ hF) rfl ⟨rfl, rfl, rfl, rfl, rfl, trivial⟩
        · have hF := zf_n hc hF
          refine zi_iconst (v := (0 : Int32)) rfl rfl ?_
          cases hF
          exact zi_zreturn rfl rfl rfl rfl
      have hF := zf_n hc17 hF
      by_cases hc18 : ((X.2 (x4).toNatClampNeg) &&& (31 : Int32)) = (18 : Int32)
      · have hF := zf_p hc18 hF
        rw [hc18]
        refine zi_tsw (t := 1538) rfl rfl ?_
        refine zi_aload_n rfl rfl ?_
        refine zi_aload_n rfl rfl ?_
        refine zi_iload rfl rfl ?_
        refine zi_iconst (v := (1 : Int32)) rfl rfl ?_
        refine zi_iadd rfl ?_
        obtain ⟨hb, hF⟩ := zf_g hF
        refine zi_iaload rfl rfl (zin_ok hb) ?_
        refine zi_aload_n rfl rfl ?_
        refine zi_iload rfl rfl ?_
        refine zi_iconst (v := (2 : Int32)) rfl rfl ?_
        refine zi_iadd rfl ?_
        obtain ⟨hb, hF⟩ := zf_g hF
        refine zi_iaload rfl rfl (zin_ok hb) ?_
        obtain ⟨v107, s108, hm, hF⟩ := zf_b hF
        refine zi_callS rfl rfl rfl rfl (zk_C.to (zk_C.up (by decide) (zF_L_prototype hm)) (fun o ho => zk_K.okv ho ?_))
        refine zi_istore rfl rfl rfl ?_
        refine zi_aload_n rfl rfl ?_
        refine zi_aload_n rfl rfl ?_
        refine zi_iload rfl rfl ?_
        refine zi_iconst (v := (1 : Int32)) rfl rfl ?_
        refine zi_iadd rfl ?_
        obtain ⟨hb, hF⟩ := zf_g hF
        refine zi_iaload rfl rfl (zin_ok hb) ?_
        refine zi_aload_n rfl rfl ?_
        refine zi_iload rfl rfl ?_
        refine zi_iconst (v := (2 : Int32)) rfl rfl ?_
        refine zi_iadd rfl ?_
        obtain ⟨hb, hF⟩ := zf_g hF
        refine zi_iaload rfl rfl (zin_ok hb) ?_
        obtain ⟨v109, s110, hm, hF⟩ := zf_b hF
        refine zi_callV rfl rfl rfl (zh_R _) rfl (zk_C.to (zk_C.up (by decide) (zF_R_prototype hm)) (fun o ho => zk_K.okn ho ?_))
        refine zi_aload_n rfl rfl ?_
        obtain ⟨v111, s112, hm, hF⟩ := zf_b hF
        refine zi_callV rfl rfl rfl (zh_R _) rfl (zk_C.to (zk_C.up (by decide) (zF_R_thrown hm)) (fun o ho => zk_K.okv ho ?_))
        refine zi_iload rfl rfl ?_
        refine zi_iceq rfl (fun hc => ?_) (fun hc => ?_)
        · have hF := zf_p hc hF
          refine zi_goto rfl ?_
          exact zk_sb (zJ_L_law_1622 (F_L_law_23 X  n) ih  _ _ _ hF) rfl ⟨rfl, rfl, rfl, rfl, rfl, trivial⟩
        · have hF := zf_n hc hF
          refine zi_iconst (v := (0 : Int32)) rfl rfl ?_
          cases hF
          exact zi_zreturn rfl rfl rfl rfl
      have hF := zf_n hc18 hF
      by_cases hc19 : ((X.2 (x4).toNatClampNeg) &&& (31 : Int32)) = (19 : Int32)
      · have hF := zf_p hc19 hF
        rw [hc19]
        refine zi_tsw (t := 1586) rfl rfl ?_
        refine zi_aload_n rfl rfl ?_
        refine zi_aload_n rfl rfl ?_
        refine zi_iload rfl rfl ?_
        refine zi_iconst (v := (1 : Int32)) rfl rfl ?_
        refine zi_iadd rfl ?_
        obtain ⟨hb, hF⟩ := zf_g hF
        refine zi_iaload rfl rfl (zin_ok hb) ?_
        obtain ⟨v113, s114, hm, hF⟩ := zf_b hF
        refine zi_callS rfl rfl rfl rfl (zk_C.to (zk_C.up (by decide) (zF_L_stress hm)) (fun o ho => zk_K.okv ho ?_))
        refine zi_istore rfl rfl rfl ?_
        refine zi_aload_n rfl rfl ?_
        refine zi_aload_n rfl rfl ?_
        refine zi_iload rfl rfl ?_
        refine zi_iconst (v := (1 : Int32)) rfl rfl ?_
        refine zi_iadd rfl ?_
        obtain ⟨hb, hF⟩ := zf_g hF
        refine zi_iaload rfl rfl (zin_ok hb) ?_
        obtain ⟨v115, s116, hm, hF⟩ := zf_b hF
        refine zi_callV rfl rfl rfl (zh_R _) rfl (zk_C.to (zk_C.up (by decide) (zF_R_stress hm)) (fun o ho => zk_K.okn ho ?_))
        refine zi_aload_n rfl rfl ?_
        obtain ⟨v117, s118, hm, hF⟩ := zf_b hF
        refine zi_callV rfl rfl rfl (zh_R _) rfl (zk_C.to (zk_C.up (by decide) (zF_R_thrown hm)) (fun o ho => zk_K.okv ho ?_))
        refine zi_iload rfl rfl ?_
        refine zi_iceq rfl (fun hc => ?_) (fun hc => ?_)
        · have hF := zf_p hc hF
          refine zi_goto rfl ?_
          exact zk_sb (zJ_L_law_1622 (F_L_law_23 X  n) ih  _ _ _ hF) rfl ⟨rfl, rfl, rfl, rfl, rfl, trivial⟩
        · have hF := zf_n hc hF
          refine zi_iconst (v := (0 : Int32)) rfl rfl ?_
          cases hF
          exact zi_zreturn rfl rfl rfl rfl
      have hF := zf_n hc19 hF
      refine zi_tsw (t := 1622) rfl (zk_swd hc0 hc1 hc2 hc3 hc4 hc5 hc6 hc7 hc8 hc9 hc10 hc11 hc12 hc13 hc14 hc15 hc16 hc17 hc18 hc19) ?_
      exact zk_sb (zJ_L_law_1622 (F_L_law_23 X  n) ih  _ _ _ hF) rfl ⟨rfl, rfl, rfl, rfl, rfl, trivial⟩
theorem zF_L_law {X : zkX} (s : zSt) (r) (hF : F_L_law X s = some r) : zk_W X 11 m_L_law (20, [(0, .ref 0), (1, .ref 1), (2, .ref 7), (3, .ref 20)], [], zHp s) (fun o => o = zoI r) := by
  unfold F_L_law at hF
  refine zi_iconst (v := (0 : Int32)) rfl rfl ?_
  refine zi_istore rfl rfl rfl ?_
  exact zk_sb (zJ_L_law_23  zFuel _ _ _ hF) rfl ⟨rfl, rfl, rfl, rfl, rfl, trivial⟩

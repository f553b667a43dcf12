/-! the model: operand, object -/
/-- a call's answer in the model, a row more at most -/
def zMq {α : Type} (F : Option (α × zSt)) (v : α) (code : Int32) (σ : zSg) (md : Nat) (s : zSt) : Prop := ∃ t md2, F = some (v, t) ∧ gI t 13 = code ∧ md2 ≤ md + 1 ∧ zMs σ md2 t ∧ zKC s t
theorem zMp.q {α : Type} {F : Option (α × zSt)} {v : α} {code : Int32} {σ : zSg} {md : Nat} {s : zSt} (h : zMp F v code σ md s) : zMq F v code σ md s := by
  obtain ⟨t, h1, h2, h3, h4⟩ := h
  exact ⟨t, md, h1, h2, by omega, h3, h4⟩
theorem zSO_self' (σ : zSg) (o : Nat) : zSO σ o (gO σ o) = σ := by
  show (σ.1, (fun j => if j = o then gO σ o else σ.2.1 j), σ.2.2) = σ
  have : (fun j => if j = o then gO σ o else σ.2.1 j) = σ.2.1 := zSO_id σ o
  rw [this]
section ZM8
variable {σ : zSg} {ρ : Nat → List Nat} {ow od : Nat → Nat} {nr md : Nat} {s : zSt}
theorem zMo.op (h : zMo σ ρ ow od nr md s) (k : Int32) (n : Int64) (o : Nat) : zMo (zOp σ k n o) ρ ow od nr md (sJ (sI s 17 k) 3 (zBt k n o)) := by
  obtain ⟨⟨a1, a2, a3, a4, a5⟩, b, c, d, ⟨e1, e2, e3, e4⟩, f, g⟩ := h
  refine ⟨⟨?_, ?_, ?_, a4, a5⟩, b, c, fun i hi => ?_, ⟨?_, ?_, ?_, ?_⟩, f, fun o h1 h2 => ?_⟩
  · rw [gI_sJ, gI_sI, if_neg (by decide)]; exact a1
  · rw [gI_sJ, gI_sI, if_neg (by decide)]; exact a2
  · rw [gI_sJ, gI_sI, if_neg (by decide)]; exact a3
  · show gA s 1 i = nI (if i = 24 then o else gR σ i)
    rw [if_neg (by omega)]; exact d i hi
  · rw [gI_sJ, gI_sI, if_pos rfl]; rfl
  · rw [gJ_sJ, if_pos rfl]
    show zBt k n o = zBt k n (if 24 = 24 then o else gR σ 24)
    rw [if_pos rfl]
  · rw [gI_sJ, gI_sI, if_neg (by decide)]; exact e3
  · rw [gJ_sJ, if_neg (by decide)]
    show gJ s 4 = zBt (gRK σ) (gRN σ) (if 25 = 24 then o else gR σ 25)
    rw [if_neg (by decide)]; exact e4
  · obtain ⟨g1, g2⟩ := g o h1 h2
    exact ⟨zRw_kept (s := s) (t := sJ (sI s 17 k) 3 _) rfl rfl rfl rfl rfl rfl _ _ g1, g2⟩
theorem z_root64 {b : Int64} (h : 0 ≤ b ∧ b < 24) : zV b.toInt32 := by
  have h1 : ¬ 2 ^ 63 ≤ uN b := fun q => absurd ((nL_lt0 b).mpr q) (Int64.not_lt.mpr h.1)
  have h2 := h.2
  rw [← nL_uN b] at h2
  have h3 : uN b < 24 := (w_lt (a := uN b) (b := 24) (by omega) (by decide)).mp h2
  rw [← nL_uN b, qL_int]
  exact ⟨qI_nonneg (by omega), (qI_lt (a := uN b) (b := 24) (by omega) (by decide)).mpr h3⟩
theorem M_operand (h : zMs σ md s) (hW : zWf σ) (k : Int32) (b : Int64) : zMp (F_R_operand k b s) () (zTh (S_operand σ k b)) (S_operand σ k b).2 md s := by
  obtain ⟨ρ, ow, od, nr, h1⟩ := h
  have hw := hW.2.1
  have hk5 : ((0 : Int64) ≤ k.toInt64 ∧ k.toInt64 ≤ 5) ↔ (0 ≤ k ∧ k ≤ 5) := by
    rw [show (0 : Int64) = (0 : Int32).toInt64 from rfl, show (5 : Int64) = (5 : Int32).toInt64 from rfl, z_le64, z_le64]
  have hb24 : ((0 : Int64) ≤ b ∧ b ≤ 23) ↔ (0 ≤ b ∧ b < 24) := by
    refine and_congr_right (fun _ => ?_)
    rw [Int64.le_iff_toInt_le, Int64.lt_iff_toInt_lt, show (23 : Int64).toInt = 23 from rfl, show (24 : Int64).toInt = 24 from rfl]
    omega
  have e0 : F_R_operand k b s = F_R_operand_61 k b (bI ((0 ≤ k ∧ k ≤ 5) ∧ (k = 5 → zHb σ b ≠ 0))) s := by
    unfold F_R_operand F_R_operand_28 F_R_operand_32 F_R_operand_33 F_R_operand_60 F_R_operand_56
    rw [m_in, zb_some]
    by_cases hk : 0 ≤ k ∧ k ≤ 5
    · rw [if_neg (fun q => bI_eq0.mp q (hk5.mpr hk))]
      by_cases h5 : k = 5
      · rw [if_pos h5, m_in, zb_some]
        by_cases hb : 0 ≤ b ∧ b < 24
        · have hv := z_root64 hb
          have hH : zHb σ b = zH σ b.toInt32 := if_pos hb
          have hlt := hW.root b.toInt32
          rw [if_neg (fun q => bI_eq0.mp q (hb24.mpr hb)), if_neg z_one, if_pos h5, if_pos (zin_rt hv), h1.root hv]
          by_cases h0 : zH σ b.toInt32 = 0
          · rw [if_pos ((qI_le0 (by omega)).mpr h0), bI_f (fun q => q.2 h5 (hH.trans h0))]
          · rw [if_neg (fun q => h0 ((qI_le0 (by omega)).mp q)), bI_t ⟨hk, fun _ q => h0 (hH.symm.trans q)⟩]
        · rw [if_pos (bI_eq0.mpr (fun q => hb (hb24.mp q))), if_pos rfl, bI_f (fun q => q.2 h5 (if_neg hb))]
      · rw [if_neg h5, if_neg z_one, if_neg h5, bI_t ⟨hk, fun q => absurd q h5⟩]
    · rw [if_pos (bI_eq0.mpr (fun q => hk (hk5.mp q))), if_pos rfl, bI_f (fun q => hk q.1)]
  rw [e0]
  unfold F_R_operand_61 F_R_operand_101 F_R_operand_102 F_R_operand_142 S_operand
  by_cases hc : (0 ≤ k ∧ k ≤ 5) ∧ (k = 5 → zHb σ b ≠ 0)
  · rw [m_say_t hc, zb_some, if_neg z_one, if_pos hc]
    have h2 := h1.says 0
    have ht : gI (sI s 13 0) 13 = 0 := by rw [gI_sI, if_pos rfl]
    have hk0 : zKC s (sI s 13 0) := zKC.sI s (by decide) _
    generalize sI s 13 0 = s4 at h2 ht hk0 ⊢
    have h3 := h2.op k (if k = 4 then zNan b else 0) (if k = 5 then zHb σ b else 0)
    refine ⟨_, ?_, ?_, ⟨ρ, ow, od, nr, h3⟩, hk0.tr ((zKC.sI s4 (by decide) _).tr (zKC.sJ _ (by decide) _))⟩
    · have hn := w_nan b
      have hn' : ((b >>> ((52 : Int32).toInt64 &&& 63)) &&& 2047 = (2047 : Int64) ∧ ¬ (b <<< ((12 : Int32).toInt64 &&& 63) = 0)) ↔ _ := hn
      have key : ∀ y : Int32, (y = 0 ↔ ¬ (b &&& 9218868437227405312 = 9218868437227405312 ∧ b &&& 4503599627370495 ≠ 0)) → (if k = (4 : Int32) then (if y = 0 then some ((), sJ (sI s4 17 k) 3 b) else some ((), sJ (sI s4 17 k) 3 9221120237041090560)) else (if k = (5 : Int32) then (if zin (b).toInt32 24 then some ((), sJ (sI s4 17 k) 3 ((gA (sI s4 17 k) 1 ((b).toInt32).toNatClampNeg)).toInt64) else none) else some ((), sJ (sI s4 17 k) 3 0))) = some ((), sJ (sI s4 17 k) 3 (zBt k (if k = 4 then zNan b else 0) (if k = 5 then zHb σ b else 0))) := by
        intro y hy
        unfold zBt
        by_cases h4 : k = 4
        · rw [if_pos h4, if_neg (show ¬ k = 5 by rw [h4]; decide), if_pos h4]
          unfold zNan
          by_cases hN : b &&& 9218868437227405312 = 9218868437227405312 ∧ b &&& 4503599627370495 ≠ 0
          · rw [if_neg (fun q => hy.mp q hN), if_pos hN]
          · rw [if_pos (hy.mpr hN), if_neg hN]
        · rw [if_neg h4, if_neg h4]
          by_cases h5 : k = 5
          · have hb : 0 ≤ b ∧ b < 24 := Classical.byContradiction (fun q => hc.2 h5 (if_neg q))
            have hv := z_root64 hb
            have hH : zHb σ b = zH σ b.toInt32 := if_pos hb
            have hlt := hW.root b.toInt32
            have hr : gA (sI s4 17 k) 1 b.toInt32.toNatClampNeg = nI (zH σ b.toInt32) := h2.root hv
            rw [if_pos h5, if_pos (zin_rt hv), hr, if_pos h5, if_pos h5, hH, qI_long (by omega)]
          · rw [if_neg h5, if_neg h5]
      by_cases hA : (b >>> ((52 : Int32).toInt64 &&& 63)) &&& 2047 = (2047 : Int64)
      · rw [if_pos ((lg_cmp_eq _ _).mpr hA)]
        by_cases hB : b <<< ((12 : Int32).toInt64 &&& 63) = 0
        · rw [if_pos ((lg_cmp_eq _ _).mpr hB)]
          exact key 0 ⟨fun _ q => (hn'.mpr q).2 hB, fun _ => rfl⟩
        · rw [if_neg (fun q => hB ((lg_cmp_eq _ _).mp q))]
          exact key 1 ⟨fun q => absurd q z_one, fun q => absurd (hn'.mp ⟨hA, hB⟩) q⟩
      · rw [if_neg (fun q => hA ((lg_cmp_eq _ _).mp q))]
        exact key 0 ⟨fun _ q => hA (hn'.mpr q).1, fun _ => rfl⟩
    · rw [gI_sJ, gI_sI, if_neg (by decide)]; exact ht
  · rw [m_say_f hc, zb_some, if_pos rfl, if_neg hc]
    exact m_no h1 ()
/-! object -/
def zN1 (σ : zSg) (pr : Nat) (arr : Bool) : zSg := (gn σ + 1, fun j => if j = gn σ then (pr, arr, true, []) else gO σ j, σ.2.2)
theorem zMo.new1 (h : zMo σ ρ ow od nr md s) (hg : 1 ≤ gn σ) (pr : Nat) (arr : Bool) {t : zSt} (ht : t = sI (sAu (sAu s 2 (gn σ) (nI pr)) 3 (gn σ) (bI (arr = true))) 14 (nI (gn σ + 1))) : zMo (zN1 σ pr arr) (fun j => if j = gn σ then [] else ρ j) ow od nr md t := by
  obtain ⟨⟨a1, a2, a3, a4, a5⟩, b, c, d, ⟨e1, e2, e3, e4⟩, f, g⟩ := h
  have tI : ∀ j, j ≠ 14 → gI t j = gI s j := by intro j hj; rw [ht, gI_sI, if_neg hj]; rfl
  have tA : ∀ j n, gA t j n = if j = 3 ∧ n = gn σ then bI (arr = true) else if j = 2 ∧ n = gn σ then nI pr else gA s j n := by
    intro j n; rw [ht, gA_sI, gA_sAu, gA_sAu]
  have tJ : ∀ j, gJ t j = gJ s j := by intro j; rw [ht]; rfl
  have tB : ∀ j, gB t j = gB s j := by intro j; rw [ht]; rfl
  have tA' : ∀ j, j ≠ 2 → j ≠ 3 → gA t j = gA s j := by
    intro j h2 h3; funext n; rw [tA, if_neg (fun q => h3 q.1), if_neg (fun q => h2 q.1)]
  refine ⟨⟨?_, (tI 15 (by decide)).trans a2, (tI 16 (by decide)).trans a3, a4, a5⟩, fun j j1 j2 => ?_, fun j hj => ?_, fun i hi => ?_, ⟨(tI 17 (by decide)).trans e1, (tJ 3).trans e2, (tI 18 (by decide)).trans e3, (tJ 4).trans e4⟩, fun i hi => ?_, fun j j1 j2 => ?_⟩
  · rw [ht, gI_sI, if_pos rfl]; rfl
  · have j2 : j < gn σ + 1 := j2
    have t2 : gA t 2 j = if j = gn σ then nI pr else gA s 2 j := by
      rw [tA, if_neg (fun q => absurd q.1 (by decide))]
      by_cases e : j = gn σ
      · rw [if_pos ⟨rfl, e⟩, if_pos e]
      · rw [if_neg (fun q => e q.2), if_neg e]
    have t3 : gA t 3 j = if j = gn σ then bI (arr = true) else gA s 3 j := by
      rw [tA]
      by_cases e : j = gn σ
      · rw [if_pos ⟨rfl, e⟩, if_pos e]
      · rw [if_neg (fun q => e q.2), if_neg (fun q => e q.2), if_neg e]
    rw [tA' 4 (by decide) (by decide), t2, t3]
    show _ = nI (oP (if j = gn σ then (pr, arr, true, []) else gO σ j)) ∧ _ = bI (oA (if j = gn σ then (pr, arr, true, []) else gO σ j) = true) ∧ _ = bI (oE (if j = gn σ then (pr, arr, true, []) else gO σ j) = false)
    by_cases e : j = gn σ
    · rw [if_pos e, if_pos e, if_pos e, c j (by omega)]
      exact ⟨rfl, rfl, (bI_f (c := true = false) (by decide)).symm⟩
    · rw [if_neg e, if_neg e, if_neg e]
      exact b j j1 (by omega)
  · have hj : gn σ + 1 ≤ j := hj
    rw [tA' 4 (by decide) (by decide)]; exact c j (by omega)
  · rw [tA' 1 (by decide) (by decide)]; exact d i hi
  · rw [tA' 5 (by decide) (by decide), tA' 6 (by decide) (by decide)]
    obtain ⟨w1, w2, w3, w4⟩ := f i hi
    exact ⟨w1, by show ow i < gn σ + 1; omega, w3, w4⟩
  · have j2 : j < gn σ + 1 := j2
    have hR : ∀ (is : List Nat) (ps : List zPr), zRw s is ps → zRw t is ps := zRw_kept (tB 1) (tB 2) (tA' 7 (by decide) (by decide)) (tA' 8 (by decide) (by decide)) (tA' 9 (by decide) (by decide)) (tA' 10 (by decide) (by decide))
    rw [tB 1]
    show zRw t (if j = gn σ then [] else ρ j) (oL (if j = gn σ then (pr, arr, true, []) else gO σ j)) ∧ (if j = gn σ then [] else ρ j).Nodup ∧ (∀ i, i ∈ (if j = gn σ then [] else ρ j) ↔ _) ∧ (if j = gn σ then [] else ρ j).Pairwise _
    by_cases e : j = gn σ
    · rw [if_pos e, if_pos e]
      refine ⟨trivial, List.nodup_nil, fun i => ⟨fun q => (by cases q), fun q => ?_⟩, List.Pairwise.nil⟩
      have := (f i q.1).2.1
      omega
    · rw [if_neg e, if_neg e]
      obtain ⟨g1, g2⟩ := g j j1 (by omega)
      exact ⟨hR _ _ g1, g2⟩
theorem m_new (h : zMo σ ρ ow od nr md s) (h1 : 1 ≤ gn σ) (h2 : gn σ < 600) (hmd : md < 600) (pr : Nat) (arr : Bool) : ∃ t md2, F_R_newObject (nI pr) (bI (arr = true)) s = some (nI (gn σ), t) ∧ md2 ≤ md + 1 ∧ zMs (zSO (zN1 σ pr arr) (gn σ) (pr, arr, true, if arr then [zl0] else [])) md2 t ∧ zKC s t ∧ gI t 13 = gI s 13 := by
  have c14 := h.1.1
  have hz : zin (nI (gn σ)) 4200 := zin_nI' (by omega) (by decide)
  have hs : ∀ G : zSt → Option (Int32 × zSt), G (sI (sA (sA s 2 (upd (gA s 2) ((gI s 14)).toNatClampNeg (nI pr))) 3 (upd (gA (sA s 2 (upd (gA s 2) ((gI s 14)).toNatClampNeg (nI pr))) 3) ((gI (sA s 2 (upd (gA s 2) ((gI s 14)).toNatClampNeg (nI pr))) 14)).toNatClampNeg (vp_nar .boolean (bI (arr = true))))) 14 ((gI (sA (sA s 2 (upd (gA s 2) ((gI s 14)).toNatClampNeg (nI pr))) 3 (upd (gA (sA s 2 (upd (gA s 2) ((gI s 14)).toNatClampNeg (nI pr))) 3) ((gI (sA s 2 (upd (gA s 2) ((gI s 14)).toNatClampNeg (nI pr))) 14)).toNatClampNeg (vp_nar .boolean (bI (arr = true))))) 14) + (1 : Int32))) = G (sI (sAu (sAu s 2 (gn σ) (nI pr)) 3 (gn σ) (bI (arr = true))) 14 (nI (gn σ + 1))) := by
    intro G
    have cl : (nI (gn σ)).toNatClampNeg = gn σ := nI_clamp (by omega)
    simp only [gI_sA, c14, cl, z_nar]
    rw [nI_succ]
    rfl
  have hn := h.new1 h1 pr arr rfl
  have k1 : zKC s (sI (sAu (sAu s 2 (gn σ) (nI pr)) 3 (gn σ) (bI (arr = true))) 14 (nI (gn σ + 1))) := ((zKC.sAu s (by decide) _ _).tr (zKC.sAu _ (by decide) _ _)).tr (zKC.sI _ (by decide) _)
  have k2 : gI (sI (sAu (sAu s 2 (gn σ) (nI pr)) 3 (gn σ) (bI (arr = true))) 14 (nI (gn σ + 1))) 13 = gI s 13 := by rw [gI_sI, if_neg (by decide)]; rfl
  have hsub : nI (gn σ + 1) - 1 = nI (gn σ) := qI_sub (a := gn σ + 1) (b := 1) (by omega)
  have hF : F_R_newObject (nI pr) (bI (arr = true)) s = if bI (arr = true) = 0 then F_R_newObject_51 (sI (sAu (sAu s 2 (gn σ) (nI pr)) 3 (gn σ) (bI (arr = true))) 14 (nI (gn σ + 1))) else zb (F_R_add (nI (gn σ)) (-1) 2 4 0 (sI (sAu (sAu s 2 (gn σ) (nI pr)) 3 (gn σ) (bI (arr = true))) 14 (nI (gn σ + 1)))) (fun v1 s2 => F_R_newObject_51 s2) := by
    unfold F_R_newObject
    rw [if_pos (by rw [c14]; exact hz), if_pos (by rw [gI_sA, c14]; exact hz)]
    refine (hs (fun t => if bI (arr = true) = 0 then F_R_newObject_51 t else zb (F_R_add (gI t 14 - 1) (-1) 2 4 0 t) (fun v1 s2 => F_R_newObject_51 s2))).trans ?_
    show (if bI (arr = true) = 0 then _ else zb (F_R_add (gI (sI (sAu (sAu s 2 (gn σ) (nI pr)) 3 (gn σ) (bI (arr = true))) 14 (nI (gn σ + 1))) 14 - 1) (-1) 2 4 0 _) _) = _
    rw [gI_sI, if_pos rfl, hsub]
  rw [hF]
  have g14 : gI (sI (sAu (sAu s 2 (gn σ) (nI pr)) 3 (gn σ) (bI (arr = true))) 14 (nI (gn σ + 1))) 14 = nI (gn σ + 1) := by rw [gI_sI, if_pos rfl]
  generalize sI (sAu (sAu s 2 (gn σ) (nI pr)) 3 (gn σ) (bI (arr = true))) 14 (nI (gn σ + 1)) = s1 at hn k1 k2 g14 ⊢
  have gown : gO (zN1 σ pr arr) (gn σ) = (pr, arr, true, []) := if_pos rfl
  cases arr with
  | false =>
    rw [if_pos (bI_eq0.mpr (by decide))]
    unfold F_R_newObject_51
    rw [g14, hsub]
    have e : zSO (zN1 σ pr false) (gn σ) (pr, false, true, if false = true then [zl0] else []) = zN1 σ pr false := by
      rw [if_neg (by decide), ← gown, zSO_self']
    exact ⟨s1, md, rfl, by omega, ⟨_, ow, od, nr, e ▸ hn⟩, k1, k2⟩
  | true =>
    rw [if_neg (fun z => bI_eq0.mp z rfl)]
    obtain ⟨i, nr2, w1, w2, w3, w4, w5, w6, w7⟩ := m_add hn (by show gn σ + 1 ≤ 600; omega) (nI (gn σ)) (-1) 2 4 0
    rw [w7, zb_some]
    have hA := hn.add hmd (o := gn σ) h1 (by show gn σ < gn σ + 1; omega) w1 w2 w3 w4 w5 w6 (k := -1) (f := 2) (d := 4) (b := 0) (p := zl0) rfl rfl rfl rfl rfl rfl
    unfold F_R_newObject_51
    have g14' : gI (zAdd s1 i (nI (gn σ)) (-1) 2 4 0 (nI nr2)) 14 = nI (gn σ + 1) := by rw [zAdd_I, if_neg (by decide), if_neg (by decide), g14]
    rw [g14', hsub]
    rw [gown] at hA
    refine ⟨_, md + 1, rfl, by omega, ⟨_, _, _, nr2, hA⟩, k1.tr (zAdd_KC _ _ _ _ _ _ _ _), ?_⟩
    · rw [zAdd_I, if_neg (by decide), if_neg (by decide)]; exact k2
theorem M_object (h : zMs σ md s) (hW : zWf σ) (hg : gn σ < 600) (hmd : md < 600) (r p a : Int32) (ha : a = 0 ∨ a = 1) : zMq (F_R_object r p a s) () (zTh (S_object σ r p a)) (S_object σ r p a).2 md s := by
  obtain ⟨ρ, ow, od, nr, h1⟩ := h
  have e0 : F_R_object r p a s = F_R_object_26 r p a (bI (zV r ∧ (p = -1 ∨ zH σ p ≠ 0))) s := by
    unfold F_R_object F_R_object_21 F_R_object_25
    rw [m_isRoot, zb_some]
    by_cases hv : zV r
    · rw [if_neg (fun z => bI_eq0.mp z hv)]
      by_cases hp : p = -1
      · rw [if_pos hp, bI_t ⟨hv, Or.inl hp⟩]
      · rw [if_neg hp, m_holds h1 hW, zb_some]
        by_cases h0 : zH σ p = 0
        · rw [if_pos (bI_eq0.mpr (fun z => z h0)), bI_f (fun z => z.2.elim hp (fun w => w h0))]
        · rw [if_neg (fun z => bI_eq0.mp z h0), bI_t ⟨hv, Or.inr h0⟩]
    · rw [if_pos (bI_eq0.mpr hv), bI_f (fun z => hv z.1)]
  rw [e0]
  unfold F_R_object_26 F_R_object_57 S_object
  by_cases hc : zV r ∧ (p = -1 ∨ zH σ p ≠ 0)
  · rw [m_say_t hc, zb_some, if_neg z_one, if_pos hc]
    have h2 := h1.says 0
    have ht : gI (sI s 13 0) 13 = 0 := by rw [gI_sI, if_pos rfl]
    have hk0 : zKC s (sI s 13 0) := zKC.sI s (by decide) _
    generalize sI s 13 0 = s4 at h2 ht hk0 ⊢
    have e52 : (if 0 ≤ p then (if zin p 24 then F_R_object_52 a (gA s4 1 p.toNatClampNeg) r s4 else none) else F_R_object_52 a 0 r s4) = F_R_object_52 a (nI (zH σ p)) r s4 := by
      by_cases h0 : 0 ≤ p
      · have hv : zV p := by
          rcases hc.2 with e | e
          · rw [e] at h0; exact absurd h0 (by decide)
          · exact zH_V e
        rw [if_pos h0, if_pos (zin_rt hv), h2.root hv]
      · have : zH σ p = 0 := if_neg (fun z => h0 z.1)
        rw [if_neg h0, this]; rfl
    rw [e52]
    unfold F_R_object_52
    have ea : a = bI (decide (a ≠ 0) = true) := by
      rcases ha with e | e <;> rw [e] <;> rfl
    obtain ⟨t, md2, n1, n2, n3, n4, n5⟩ := m_new h2 hW.1 hg hmd (zH σ p) (decide (a ≠ 0))
    rw [← ea] at n1
    rw [n1, zb_some, if_pos (zin_rt hc.1)]
    unfold F_R_object_57
    obtain ⟨ρ3, ow3, od3, nr3, n3⟩ := n3
    have hs := n3.setR (zV_nI hc.1).2 (gn σ)
    refine ⟨_, md2, rfl, by rw [gI_sA]; exact n5.trans ht, n2, ⟨ρ3, ow3, od3, nr3, ?_⟩, hk0.tr (n4.tr (zKC.sA _ (by decide) _))⟩
    have e : zR (zSO (zN1 σ (zH σ p) (decide (a ≠ 0))) (gn σ) (zH σ p, decide (a ≠ 0), true, if decide (a ≠ 0) = true then [zl0] else [])) (rN r) (gn σ) = zNew σ (rN r) (zH σ p) (decide (a ≠ 0)) := by
      show (gn σ + 1, (fun j => if j = gn σ then (zH σ p, decide (a ≠ 0), true, if decide (a ≠ 0) = true then [zl0] else []) else (if j = gn σ then (zH σ p, decide (a ≠ 0), true, []) else gO σ j)), (fun j => if j = rN r then gn σ else gR σ j), σ.2.2.2) = (gn σ + 1, (fun j => if j = gn σ then (zH σ p, decide (a ≠ 0), true, if decide (a ≠ 0) = true then [zl0] else []) else gO σ j), (fun j => if j = rN r then gn σ else gR σ j), σ.2.2.2)
      have : (fun j => if j = gn σ then (zH σ p, decide (a ≠ 0), true, if decide (a ≠ 0) = true then [zl0] else []) else (if j = gn σ then ((zH σ p, decide (a ≠ 0), true, []) : zOb) else gO σ j)) = (fun j => if j = gn σ then (zH σ p, decide (a ≠ 0), true, if decide (a ≠ 0) = true then [zl0] else []) else gO σ j) := by
        funext j
        by_cases h : j = gn σ
        · rw [if_pos h, if_pos h]
        · rw [if_neg h, if_neg h, if_neg h]
      rw [this]
    have e2 : (zNew σ (rN r) (zH σ p) (decide (a ≠ 0))) = (zNew σ (rN r) (zH σ p) (decide (a ≠ 0))) := rfl
    rw [e] at hs
    exact hs
  · rw [m_say_f hc, zb_some, if_pos rfl, if_neg hc]
    exact (m_no h1 ()).q
end ZM8

/-! the model: own, setter, has, keys, prototype, delete -/
section ZM4
variable {σ : zSg} {ρ : Nat → List Nat} {ow od : Nat → Nat} {nr md : Nat} {s : zSt}
theorem m_no {α : Type} (h : zMo σ ρ ow od nr md s) (v : α) : zMp (some (v, sI s 13 1)) v 1 σ md s := ⟨_, rfl, by rw [gI_sI, if_pos rfl], ⟨ρ, ow, od, nr, h.says _⟩, zKC.sI s (by decide) _⟩
theorem zR1.kept {s t : zSt} {i : Nat} {p : zPr} (h : zR1 s i p) (hB1 : gB t 1 i = gB s 1 i) (hB2 : gB t 2 i = gB s 2 i) (h7 : gA t 7 i = gA s 7 i) (h8 : gA t 8 i = gA s 8 i) (h9 : gA t 9 i = gA s 9 i) (h10 : gA t 10 i = gA s 10 i) : zR1 t i p := by
  unfold zR1
  rw [hB1, hB2, h7, h8, h9, h10]
  exact h
theorem zWf.rs (hW : zWf σ) {k : Int32} {n : Int64} {o : Nat} (hv : zWv k n o) (ho : o < gn σ) : zWf (zRs σ k n o) := by
  obtain ⟨w1, w2, w3, w4, w5, w6, w7⟩ := hW
  refine ⟨w1, w2, fun i hi => ?_, w4, w5, ?_, w7⟩
  · show (if i = 25 then o else gR σ i) < gn σ
    split
    · exact ho
    · exact w3 i hi
  · exact hv
theorem M_own (h : zMs σ md s) (hW : zWf σ) (r : Int32) (k : Int64) : zMp (F_R_own r k s) (zVl 0 (S_own σ r k)) (zTh (S_own σ r k)) (S_own σ r k).2 md s := by
  obtain ⟨ρ, ow, od, nr, h1⟩ := h
  have hnr := h1.1.2.2.2
  have hw := hW.2.1
  have e0 : F_R_own r k s = F_R_own_21 r k (bI (zH σ r ≠ 0 ∧ zKy k)) s := m_hk h1 hW r k (fun y s => F_R_own_21 r k y s)
  rw [e0]
  unfold F_R_own_21 S_own
  by_cases hc : zH σ r ≠ 0 ∧ zKy k
  · rw [m_say_t hc, zb_some, if_neg z_one, if_pos hc]
    have hv := zH_V hc.1
    have h2 := h1.says 0
    have ht : gI (sI s 13 0) 13 = 0 := by rw [gI_sI, if_pos rfl]
    have hk0 : zKC s (sI s 13 0) := zKC.sI s (by decide) _
    generalize sI s 13 0 = s4 at h2 ht hk0 ⊢
    have hr := hW.root r
    rw [if_pos (zin_rt hv), h2.root hv, m_find h2 hW (by omega) hr, zb_some, m_result, zb_some]
    have h3 := h2.res 0 0 0 zWv0
    have hk3 : zKC s (sJ (sI s4 18 0) 4 (if (0 : Int32) = 4 ∨ (0 : Int32) = 5 then zBt 0 0 0 else 0)) := hk0.tr ((zKC.sI s4 (by decide) _).tr (zKC.sJ _ (by decide) _))
    have ht3 : gI (sJ (sI s4 18 0) 4 (if (0 : Int32) = 4 ∨ (0 : Int32) = 5 then zBt 0 0 0 else 0)) 13 = 0 := by rw [gI_sJ, gI_sI, if_neg (by decide)]; exact ht
    have es : sJ (sI s4 18 0) 4 (if (0 : Int32) = 4 ∨ (0 : Int32) = 5 then 0 else 0) = sJ (sI s4 18 0) 4 (if (0 : Int32) = 4 ∨ (0 : Int32) = 5 then zBt 0 0 0 else 0) := rfl
    rw [es]
    generalize sJ (sI s4 18 0) 4 (if (0 : Int32) = 4 ∨ (0 : Int32) = 5 then zBt 0 0 0 else 0) = s8 at h3 hk3 ht3
    have hobj := h3.obj (o := zH σ r) (by omega) hr
    rcases zRx_at (k := k) hobj.1 with ⟨q1, q2⟩ | ⟨p, i, q1, q2, q3, q4, q5, q6⟩
    · have q1 : zG k (oL (gO σ (zH σ r))) = none := q1
      have q2 : zRx k (ρ (zH σ r)) (oL (gO σ (zH σ r))) = none := q2
      rw [q1, q2, if_neg zRi_none]
      exact ⟨s8, rfl, ht3, ⟨ρ, ow, od, nr, h3⟩, hk3⟩
    · have q1 : zG k (oL (gO σ (zH σ r))) = some p := q1
      have q2 : zRx k (ρ (zH σ r)) (oL (gO σ (zH σ r))) = some i := q2
      rw [q1, q2, zRi_some, Option.getD_some]
      have hi : i < 8400 := by have := ((hobj.2.2.1 i).mp q3).1; omega
      obtain ⟨w1, w2, w3⟩ := (hW.2.2.2.1 _ (by omega) hr).2.1 p q4
      have hiz : zin (nI i) 8400 := zin_nI' hi (by decide)
      have c8 : gA s8 8 (nI i).toNatClampNeg = gA s8 8 i := by rw [nI_clamp (by omega)]
      have c2 : gB s8 2 (nI i).toNatClampNeg = gB s8 2 i := by rw [nI_clamp (by omega)]
      have c9 : gA s8 9 (nI i).toNatClampNeg = gA s8 9 i := by rw [nI_clamp (by omega)]
      have e110 : ∀ t : zSt, gA t 7 = gA s8 7 → F_R_own_110 (nI i) t = some (kF p, t) := by
        intro t ht
        unfold F_R_own_110
        rw [if_pos hiz, ht, nI_clamp (by omega), q5.2.1]
      rw [if_pos (qI_nonneg (by omega)), m_has hi q5, zb_some, if_pos hiz, if_pos hiz, if_pos hiz, if_pos hiz]
      have hg := m_give h3 w1
      refine ⟨_, ?_, ?_, ⟨ρ, ow, od, nr, hg⟩, hk3.tr (zKC.ite ((zKC.sI s8 (by decide) _).tr (zKC.sJ _ (by decide) _)) (zKC.ite (zKC.rf s8) ((zKC.sI s8 (by decide) _).tr (zKC.sJ _ (by decide) _))))⟩
      · show _ = some (kF p, _)
        by_cases ha : kF p &&& 64 = 0
        · rw [if_pos (bI_eq0.mpr (fun z => (w1.bit (by simp)).mp z ha)), c8, c2, q5.2.2.1, q5.2.2.2.1, if_pos ha, if_pos ha, m_result, zb_some, if_pos ha]; exact e110 _ rfl
        · rw [if_neg (fun z => bI_eq0.mp z ((w1.bit (by simp)).mpr ha)), c9, q5.2.2.2.2.1, if_neg ha, if_neg ha]
          by_cases h0 : kO p = 0
          · rw [if_pos ((qI_le0 (by omega)).mpr h0), if_pos h0]; exact e110 _ rfl
          · rw [if_neg (fun z => h0 ((qI_le0 (by omega)).mp z)), if_neg h0, m_result, zb_some, qI_long (by omega)]; exact e110 _ rfl
      · split
        · rw [gI_sJ, gI_sI, if_neg (by decide)]; exact ht3
        · split
          · exact ht3
          · rw [gI_sJ, gI_sI, if_neg (by decide)]; exact ht3
  · rw [m_say_f hc, zb_some, if_pos rfl, if_neg hc]
    exact m_no h1 0
theorem M_has (h : zMs σ md s) (hW : zWf σ) (r : Int32) (k : Int64) : zMp (F_R_has_1 r k s) (zVl 0 (S_has σ r k)) (zTh (S_has σ r k)) (S_has σ r k).2 md s := by
  obtain ⟨ρ, ow, od, nr, h1⟩ := h
  have hnr := h1.1.2.2.2
  have e0 : F_R_has_1 r k s = F_R_has_1_21 r k (bI (zH σ r ≠ 0 ∧ zKy k)) s := m_hk h1 hW r k (fun y s => F_R_has_1_21 r k y s)
  rw [e0]
  unfold F_R_has_1_21 F_R_has_1_45 F_R_has_1_46 S_has
  by_cases hc : zH σ r ≠ 0 ∧ zKy k
  · rw [m_say_t hc, zb_some, if_neg z_one, if_pos hc]
    have hv := zH_V hc.1
    have h2 := h1.says 0
    have ht : gI (sI s 13 0) 13 = 0 := by rw [gI_sI, if_pos rfl]
    have hk0 : zKC s (sI s 13 0) := zKC.sI s (by decide) _
    generalize sI s 13 0 = s4 at h2 ht hk0 ⊢
    rw [if_pos (zin_rt hv), h2.root hv, m_lookUp h2 hW k (by omega) (hW.root r), zb_some]
    refine ⟨s4, ?_, ht, ⟨ρ, ow, od, nr, h2⟩, hk0⟩
    show _ = some (bI ((zLu σ k 600 (zH σ r)).isSome = true), _)
    rcases zLr_at h2 hW k 600 (zH σ r) (hW.root r) with ⟨q1, q2⟩ | ⟨p, i, q1, q2, q3, -⟩
    · rw [q1, q2, if_pos zRi_neg, if_pos z_nar0]; rfl
    · rw [q1, q2, zRi_some, if_neg (Int32.not_lt.mpr (qI_nonneg (by omega))), if_pos z_nar1]; rfl
  · rw [m_say_f hc, zb_some, if_pos rfl, if_neg hc, if_pos z_nar0]
    exact m_no h1 0
theorem m_hr {α : Type} (h : zMo σ ρ ow od nr md s) (hW : zWf σ) (r q : Int32) (G : Int32 → zSt → Option (α × zSt)) : (zb (F_R_holds r s) fun v1 s2 => if v1 = 0 then G 0 s2 else zb (F_R_isRoot q s2) fun v3 s4 => if v3 = 0 then G 0 s4 else G 1 s4) = G (bI (zH σ r ≠ 0 ∧ zV q)) s := by
  rw [m_holds h hW, zb_some]
  by_cases h1 : zH σ r ≠ 0
  · rw [if_neg (fun q => bI_eq0.mp q h1), m_isRoot, zb_some]
    by_cases h2 : zV q
    · rw [if_neg (fun q => bI_eq0.mp q h2), bI_t ⟨h1, h2⟩]
    · rw [if_pos (bI_eq0.mpr h2), bI_f (fun q => h2 q.2)]
  · rw [if_pos (bI_eq0.mpr h1), bI_f (fun q => h1 q.1)]
theorem M_proto (h : zMs σ md s) (hW : zWf σ) (r q : Int32) : zMp (F_R_prototype r q s) () (zTh (S_proto σ r q)) (S_proto σ r q).2 md s := by
  obtain ⟨ρ, ow, od, nr, h1⟩ := h
  have hw := hW.2.1
  have e0 : F_R_prototype r q s = F_R_prototype_21 r q (bI (zH σ r ≠ 0 ∧ zV q)) s := m_hr h1 hW r q (fun y s => F_R_prototype_21 r q y s)
  rw [e0]
  unfold F_R_prototype_21 F_R_prototype_44 S_proto
  by_cases hc : zH σ r ≠ 0 ∧ zV q
  · rw [m_say_t hc, zb_some, if_neg z_one, if_pos hc]
    have hv := zH_V hc.1
    have hr := hW.root r
    have h2 := h1.says 0
    have ht : gI (sI s 13 0) 13 = 0 := by rw [gI_sI, if_pos rfl]
    have hk0 : zKC s (sI s 13 0) := zKC.sI s (by decide) _
    generalize sI s 13 0 = s4 at h2 ht hk0 ⊢
    have c2 : gA s4 2 (nI (zH σ r)).toNatClampNeg = nI (oP (gO σ (zH σ r))) := by rw [nI_clamp (by omega), (h2.2.1 _ (by omega) hr).1]
    rw [if_pos (zin_rt hv), h2.root hv, if_pos (zin_nI' (by omega) (by decide)), if_pos (zin_rt hc.2), c2]
    exact ⟨_, rfl, by rw [gI_sA]; exact ht, ⟨ρ, ow, od, nr, h2.setR (zV_nI hc.2).2 _⟩, hk0.tr (zKC.sA _ (by decide) _)⟩
  · rw [m_say_f hc, zb_some, if_pos rfl, if_neg hc]
    exact m_no h1 ()
theorem M_setter (h : zMs σ md s) (hW : zWf σ) (r : Int32) (k : Int64) (q : Int32) : zMp (F_R_setter r k q s) (zVl 0 (S_setter σ r k q)) (zTh (S_setter σ r k q)) (S_setter σ r k q).2 md s := by
  obtain ⟨ρ, ow, od, nr, h1⟩ := h
  have hnr := h1.1.2.2.2
  have hw := hW.2.1
  have e0 : F_R_setter r k q s = F_R_setter_29 r k q (bI ((zH σ r ≠ 0 ∧ zKy k) ∧ zV q)) s := by
    unfold F_R_setter F_R_setter_28
    rw [m_holds h1 hW, zb_some]
    by_cases h1 : zH σ r ≠ 0
    · rw [if_neg (fun q => bI_eq0.mp q h1), m_isKey, zb_some]
      by_cases h2 : zKy k
      · rw [if_neg (fun q => bI_eq0.mp q h2), m_isRoot, zb_some]
        by_cases h3 : zV q
        · rw [if_neg (fun q => bI_eq0.mp q h3), bI_t ⟨⟨h1, h2⟩, h3⟩]
        · rw [if_pos (bI_eq0.mpr h3), bI_f (fun q => h3 q.2)]
      · rw [if_pos (bI_eq0.mpr h2), bI_f (fun q => h2 q.1.2)]
    · rw [if_pos (bI_eq0.mpr h1), bI_f (fun q => h1 q.1.1)]
  rw [e0]
  unfold F_R_setter_29 F_R_setter_65 S_setter
  by_cases hc : (zH σ r ≠ 0 ∧ zKy k) ∧ zV q
  · rw [m_say_t hc, zb_some, if_neg z_one, if_pos hc]
    have hv := zH_V hc.1.1
    have h2 := h1.says 0
    have ht : gI (sI s 13 0) 13 = 0 := by rw [gI_sI, if_pos rfl]
    have hk0 : zKC s (sI s 13 0) := zKC.sI s (by decide) _
    generalize sI s 13 0 = s4 at h2 ht hk0 ⊢
    have hr := hW.root r
    rw [if_pos (zin_rt hv), h2.root hv, m_find h2 hW (by omega) hr, zb_some]
    have hobj := h2.obj (o := zH σ r) (by omega) hr
    rcases zRx_at (k := k) hobj.1 with ⟨q1, q2⟩ | ⟨p, i, q1, q2, q3, q4, q5, q6⟩
    · rw [q1, q2, if_pos zRi_neg]
      exact ⟨s4, rfl, ht, ⟨ρ, ow, od, nr, h2⟩, hk0⟩
    · rw [q1, q2, zRi_some, Option.getD_some]
      have hi : i < 8400 := by have := ((hobj.2.2.1 i).mp q3).1; omega
      obtain ⟨w1, w2, w3⟩ := (hW.2.2.2.1 _ (by omega) hr).2.1 p q4
      have hiz : zin (nI i) 8400 := zin_nI' hi (by decide)
      have c10 : gA s4 10 (nI i).toNatClampNeg = nI (kS p) := by
        rw [nI_clamp (by omega), q5.2.2.2.2.2]
        by_cases ha : kF p &&& 64 = 0
        · rw [if_pos ha, (w1.data ha).1]; rfl
        · rw [if_neg ha]
      rw [if_neg (Int32.not_lt.mpr (qI_nonneg (by omega))), if_pos hiz, c10, if_pos hiz, if_pos (zin_rt hc.2)]
      by_cases h0 : kS p = 0
      · rw [if_pos ((qI_eq0 (by omega)).mpr h0), if_pos h0]
        exact ⟨s4, rfl, ht, ⟨ρ, ow, od, nr, h2⟩, hk0⟩
      · rw [if_neg (fun z => h0 ((qI_eq0 (by omega)).mp z)), if_neg h0]
        exact ⟨_, rfl, by rw [gI_sA]; exact ht, ⟨ρ, ow, od, nr, h2.setR (zV_nI hc.2).2 _⟩, hk0.tr (zKC.sA _ (by decide) _)⟩
  · rw [m_say_f hc, zb_some, if_pos rfl, if_neg hc]
    exact m_no h1 0
end ZM4

/-! the model: put -/
section ZMG
variable {σ : zSg} {ρ : Nat → List Nat} {ow od : Nat → Nat} {nr md : Nat} {s t : zSt}
theorem zMz' {α : Type} {F : Option (α × zSt)} {v : α} {code : Int32} {σ : zSg} {md : Nat} {s : zSt} (h : zMq F v code σ md s) : zMq F v code σ md s := h
theorem M_put (h : zMs σ md s) (hW : zWf σ) (hmd : md < 600) (r : Int32) (k : Int64) : zMq (F_R_put_1 r k s) (zVl 0 (S_put σ r k)) (zTh (S_put σ r k)) (S_put σ r k).2 md s := by
  obtain ⟨ρ, ow, od, nr, h1⟩ := h
  have hw := hW.2.1
  have hnr := h1.1.2.2.2
  have e0 : F_R_put_1 r k s = F_R_put_1_21 r k (bI (zH σ r ≠ 0 ∧ zKy k)) s := m_hk h1 hW r k (fun y s => F_R_put_1_21 r k y s)
  rw [e0]
  unfold F_R_put_1_21 S_put
  by_cases hc : zH σ r ≠ 0 ∧ zKy k
  · rw [m_say_t hc, zb_some, if_neg z_one, if_pos hc]
    have hv := zH_V hc.1
    have h2 := h1.says 0
    have ht : gI (sI s 13 0) 13 = 0 := by rw [gI_sI, if_pos rfl]
    have hk0 : zKC s (sI s 13 0) := zKC.sI s (by decide) _
    generalize sI s 13 0 = s4 at h2 ht hk0 ⊢
    have hr := hW.root r
    have ho1 : 1 ≤ zH σ r := by omega
    rw [if_pos (zin_rt hv), h2.root hv, m_find h2 hW ho1 hr, zb_some]
    obtain ⟨g1, g2, g3, g4⟩ := h2.obj ho1 hr
    have e75 : (if zRi (zRx k (ρ (zH σ r)) (oL (gO σ (zH σ r)))) < 0 then F_R_put_1_56 k (nI (zH σ r)) (zRi (zRx k (ρ (zH σ r)) (oL (gO σ (zH σ r))))) 0 s4 else F_R_put_1_56 k (nI (zH σ r)) (zRi (zRx k (ρ (zH σ r)) (oL (gO σ (zH σ r))))) 1 s4) = F_R_put_1_75 k (nI (zH σ r)) (bI ((zG k (oL (gO σ (zH σ r)))).isSome = true)) (zRi (zLr σ ρ k 600 (zH σ r))) s4 := by
      unfold F_R_put_1_56
      rcases zRx_at (k := k) g1 with ⟨q1, q2⟩ | ⟨p, i, q1, q2, q3, q4, q5, q6⟩
      · rw [q2, q1, if_pos zRi_neg, if_pos rfl, m_lookUp h2 hW k ho1 hr, zb_some]
        rfl
      · have hi := ((g3 i).mp q3).1
        have el : zLr σ ρ k 600 (zH σ r) = some i := by
          rw [show (600 : Nat) = 599 + 1 from rfl, zLr, if_neg hc.1, q2]
        rw [q2, q1, el, zRi_some, if_neg (qI_notneg (by omega)), if_neg z_one]
        rfl
    rw [e75]
    unfold F_R_put_1_75
    rw [m_result, zb_some]
    have h3 := h2.res 0 0 0 zWv0
    have hk3 : zKC s (sJ (sI s4 18 0) 4 (if (0 : Int32) = 4 ∨ (0 : Int32) = 5 then zBt 0 0 0 else 0)) := hk0.tr ((zKC.sI s4 (by decide) _).tr (zKC.sJ _ (by decide) _))
    have ht3 : gI (sJ (sI s4 18 0) 4 (if (0 : Int32) = 4 ∨ (0 : Int32) = 5 then zBt 0 0 0 else 0)) 13 = 0 := by rw [gI_sJ, gI_sI, if_neg (by decide)]; exact ht
    have es : sJ (sI s4 18 0) 4 (if (0 : Int32) = 4 ∨ (0 : Int32) = 5 then 0 else 0) = sJ (sI s4 18 0) 4 (if (0 : Int32) = 4 ∨ (0 : Int32) = 5 then zBt 0 0 0 else 0) := rfl
    rw [es]
    generalize sJ (sI s4 18 0) 4 (if (0 : Int32) = 4 ∨ (0 : Int32) = 5 then zBt 0 0 0 else 0) = s8 at h3 hk3 ht3
    have hW3 : zWf (zRs σ 0 0 0) := hW.rs zWv0 hW.1
    have eL : ∀ n o, zLu (zRs σ 0 0 0) k n o = zLu σ k n o := by
      intro n
      induction n with
      | zero => intro o; rfl
      | succ n ih => intro o; rw [zLu, zLu]; rw [show gO (zRs σ 0 0 0) = gO σ from rfl]; rw [ih]
    have eR : ∀ n o, zLr (zRs σ 0 0 0) ρ k n o = zLr σ ρ k n o := by
      intro n
      induction n with
      | zero => intro o; rfl
      | succ n ih => intro o; rw [zLr, zLr]; rw [show gO (zRs σ 0 0 0) = gO σ from rfl]; rw [ih]
    have hat := zLr_at h3 hW3 k 600 (zH σ r) hr
    rw [eL, eR] at hat
    have h24 := hW.2.2.1 24 (by decide)
    -- the definition at the end
    have p158 : ∀ c : Bool, (zG k (oL (gO σ (zH σ r)))).isSome = c → zMq (F_R_put_1_158 k (nI (zH σ r)) (bI (c = true)) s8) (zPo σ (zH σ r) k).1 0 (zRs (zSO σ (zH σ r) (zPo σ (zH σ r) k).2) 0 0 0) md s := by
      intro c hcc
      unfold F_R_put_1_158 zPo
      have hop := h3.2.2.2.2.1
      rw [hop.1, hop.2.1, hcc]
      have dn : ∀ t on : Int32, zTd t → on &&& t &&& 50 = 50 &&& t &&& 50 → zDn (zPd σ t) t on (gPK σ) (zBt (gPK σ) (gPN σ) (gR σ 24)) 0 := by
        intro t on hT hon
        exact ⟨⟨rfl, hon.symm, rfl, rfl, (by show (0 : Int32) / 4200 = nI 0; decide), (by show (0 : Int32) - 0 / 4200 * 4200 = nI 0; decide), (by show (0 : Nat) < 600; omega), (by show (0 : Nat) < 600; omega), (by show gR σ 24 < 600; omega), hW.2.2.2.2.1, hT⟩, fun _ => rfl, fun _ => rfl⟩
      cases c with
      | false =>
        rw [if_pos (bI_eq0.mpr (by decide)), if_neg (by decide)]
        obtain ⟨t, ρ2, ow2, od2, nr2, md2, r1, r2, r3, r4, r5⟩ := m_own h3 hW3 hmd (o := zH σ r) ho1 hr (dn 51 50 (by decide) (by decide)) hc.2
        have r1' : F_R_defineOwn (nI (zH σ r)) k 51 50 (gPK (zRs σ 0 0 0)) (zBt (gPK (zRs σ 0 0 0)) (gPN (zRs σ 0 0 0)) (gR (zRs σ 0 0 0) 24)) 0 s8 = _ := r1
        rw [r1', zb_some]
        exact ⟨t, md2, rfl, r5.trans ht3, r2, ⟨ρ2, ow2, od2, nr2, r3⟩, hk3.tr r4⟩
      | true =>
        rw [if_neg (fun z => bI_eq0.mp z rfl), if_pos rfl]
        obtain ⟨t, ρ2, ow2, od2, nr2, md2, r1, r2, r3, r4, r5⟩ := m_own h3 hW3 hmd (o := zH σ r) ho1 hr (dn 1 0 (by decide) (by decide)) hc.2
        have r1' : F_R_defineOwn (nI (zH σ r)) k 1 0 (gPK (zRs σ 0 0 0)) (zBt (gPK (zRs σ 0 0 0)) (gPN (zRs σ 0 0 0)) (gR (zRs σ 0 0 0) 24)) 0 s8 = _ := r1
        rw [r1', zb_some]
        exact ⟨t, md2, rfl, r5.trans ht3, r2, ⟨ρ2, ow2, od2, nr2, r3⟩, hk3.tr r4⟩
    have no2 : zMq (some ((2 : Int32), s8)) 2 0 (zRs σ 0 0 0) md s := ⟨s8, md, rfl, ht3, by omega, ⟨ρ, ow, od, nr, h3⟩, hk3⟩
    have c4 : gA s8 4 (nI (zH σ r)).toNatClampNeg = bI (oE (gO σ (zH σ r)) = false) := by rw [nI_clamp (by omega), (h3.2.1 _ ho1 hr).2.2]; rfl
    have p141 : ∀ P : Prop, [Decidable P] → P → zMq (F_R_put_1_141 k (nI (zH σ r)) (bI ((zG k (oL (gO σ (zH σ r)))).isSome = true)) s8) (zVl 0 (if P ∧ ((zG k (oL (gO σ (zH σ r)))).isSome = true ∨ oE (gO σ (zH σ r)) = true) then ((.inl (zPo σ (zH σ r) k).1, zRs (zSO σ (zH σ r) (zPo σ (zH σ r) k).2) 0 0 0) : (Int32 ⊕ Nat) × zSg) else (.inl 2, zRs σ 0 0 0))) (zTh (if P ∧ ((zG k (oL (gO σ (zH σ r)))).isSome = true ∨ oE (gO σ (zH σ r)) = true) then ((.inl (zPo σ (zH σ r) k).1, zRs (zSO σ (zH σ r) (zPo σ (zH σ r) k).2) 0 0 0) : (Int32 ⊕ Nat) × zSg) else (.inl 2, zRs σ 0 0 0))) (if P ∧ ((zG k (oL (gO σ (zH σ r)))).isSome = true ∨ oE (gO σ (zH σ r)) = true) then ((.inl (zPo σ (zH σ r) k).1, zRs (zSO σ (zH σ r) (zPo σ (zH σ r) k).2) 0 0 0) : (Int32 ⊕ Nat) × zSg) else (.inl 2, zRs σ 0 0 0)).2 md s := by
      intro P _ hP
      unfold F_R_put_1_141 F_R_put_1_156
      have hp := p158 _ rfl
      cases hs : (zG k (oL (gO σ (zH σ r)))).isSome with
      | true =>
        rw [hs] at hp
        rw [if_neg (fun z => bI_eq0.mp z rfl), if_pos ⟨hP, Or.inl rfl⟩]
        exact hp
      | false =>
        rw [hs] at hp
        rw [if_pos (bI_eq0.mpr (by decide)), if_pos (zin_nI' (by omega) (by decide)), c4]
        cases hE : oE (gO σ (zH σ r)) with
        | true =>
          rw [if_pos (bI_eq0.mpr (by decide)), if_pos ⟨hP, Or.inr rfl⟩]
          exact hp
        | false =>
          rw [if_neg (fun z => bI_eq0.mp z rfl), if_neg (fun z => z.2.elim (by decide) (by decide))]
          exact no2
    rcases hat with ⟨q1, q2⟩ | ⟨p, i, q1, q2, q3, q4, q5, q6, q7⟩
    · rw [q1, q2, if_pos zRi_neg]
      unfold F_R_put_1_126
      rw [if_pos zRi_neg, Option.getD_none, if_neg (show ¬ (kF zp0 &&& 64 ≠ 0) from fun z => z (by decide))]
      exact p141 _ (Or.inl rfl)
    · have hi : i < 8400 := by omega
      have hkS : kS p < gn σ := q7
      rw [q1, q2, zRi_some, Option.getD_some, if_neg (qI_notneg (by omega)), m_has hi q4, zb_some]
      by_cases ha : kF p &&& 64 = 0
      · rw [if_pos (bI_eq0.mpr (fun z => (q5.bit (by simp)).mp z ha)), if_neg (show ¬ (kF p &&& 64 ≠ 0) from fun z => z ha)]
        unfold F_R_put_1_126
        rw [if_neg (qI_notneg (by omega)), m_has hi q4, zb_some]
        by_cases h2' : kF p &&& 2 = 0
        · rw [if_pos (bI_eq0.mpr (fun z => (q5.bit (by simp)).mp z h2'))]
          unfold F_R_put_1_156
          rw [if_neg (fun z => z.1.elim (fun w => by cases w) (fun w => w h2'))]
          exact no2
        · rw [if_neg (fun z => bI_eq0.mp z ((q5.bit (by simp)).mpr h2'))]
          exact p141 _ (Or.inr h2')
      · rw [if_neg (fun z => bI_eq0.mp z ((q5.bit (by simp)).mpr ha)), if_pos ha]
        have c10 : gA s8 10 (nI i).toNatClampNeg = nI (kS p) := by rw [nI_clamp (by omega), q4.2.2.2.2.2, if_neg ha]
        have hiz : zin (nI i) 8400 := zin_nI' hi (by decide)
        rw [if_pos hiz, c10, if_pos hiz]
        by_cases h0 : kS p = 0
        · rw [if_pos ((qI_eq0 (by omega)).mpr h0), if_pos h0, if_pos h0, h0]
          exact no2
        · rw [if_neg (fun z => h0 ((qI_eq0 (by omega)).mp z)), if_neg h0, if_neg h0, m_result, zb_some, qI_long (by omega)]
          have h4 := h3.res 5 0 (kS p) ⟨by decide, fun _ => rfl, fun q => absurd rfl q, fun _ => h0⟩
          rw [zRs_rs] at h4
          exact ⟨_, md, rfl, by rw [gI_sJ, gI_sI, if_neg (by decide)]; exact ht3, by omega, ⟨ρ, ow, od, nr, h4⟩, hk3.tr ((zKC.sI s8 (by decide) _).tr (zKC.sJ _ (by decide) _))⟩
  · rw [m_say_f hc, zb_some, if_pos rfl, if_neg hc]
    exact (m_no h1 0).q
end ZMG

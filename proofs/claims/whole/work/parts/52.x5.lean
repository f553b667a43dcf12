/-! define, put -/
theorem zKM.fk {s t : zSt} (h : zFk s t) : zKM s t := ⟨fun k hk => h.1 k (by omega), fun k hk => h.2.1 k (by omega), fun k _ => h.2.2.1 k, fun k hk => by
  obtain ⟨j, rfl⟩ : ∃ j, k = j + 1 := ⟨k - 1, by omega⟩
  exact h.2.2.2 j⟩
theorem zXf_fk {σ : zSg} {s t : zSt} (h : zXf σ s) (hf : zFk s t) : zXf σ t := ⟨(hf.1 0 (by decide)).trans h.1, (hf.2.1 0 (by decide)).trans h.2.1, (hf.1 1 (by decide)).trans h.2.2.1, (hf.2.1 1 (by decide)).trans h.2.2.2⟩
theorem zWf.arr {σ : zSg} (h : zWf σ) {o : Nat} (h0 : o ≠ 0) (ho : o < gn σ) : oA (gO σ o) = true → zG (-1) (oL (gO σ o)) ≠ none := by
  intro ha e
  obtain ⟨p, hp, hk, -⟩ := (h.2.2.2.1 o (by omega) ho).2.2.2 ha
  exact zG_none e p hp hk
abbrev zTd (told : Int32) : Prop := (0 ≤ told ∧ told ≤ 63) ∧ (told &&& 3 = 0 ∨ told &&& 12 = 0)
def S_define (σ : zSg) (r : Int32) (k : Int64) (told on g q : Int32) : (Int32 ⊕ Nat) × zSg :=
  if ((zH σ r ≠ 0 ∧ zKy k) ∧ zTd told) ∧ (told &&& 4 ≠ 0 → g = -1 ∨ zH σ g ≠ 0) ∧ (told &&& 8 ≠ 0 → q = -1 ∨ zH σ q ≠ 0) then
    (.inl (zDp (gO σ (zH σ r)) k (told, on &&& told &&& 50, gPK σ, gPN σ, gR σ 24, if told &&& 4 = 0 then 0 else zH σ g, if told &&& 8 = 0 then 0 else zH σ q)).1,
      zSO σ (zH σ r) (zDp (gO σ (zH σ r)) k (told, on &&& told &&& 50, gPK σ, gPN σ, gR σ 24, if told &&& 4 = 0 then 0 else zH σ g, if told &&& 8 = 0 then 0 else zH σ q)).2)
  else (.inr 0, σ)
section ZXA
variable {σ : zSg} {lv : List Nat} {β : Nat → Nat} {π : Nat → List Nat} {nb : Nat} {FL : List Nat} {mk rc rl : Nat} {s : zSt}
theorem zH_rt (σ : zSg) (r : Int32) : zRt σ (zH σ r) := by
  unfold zH
  split
  · rename_i hv
    exact Or.inr ⟨rN r, by have := (zV_nI hv).2; omega, rfl⟩
  · exact Or.inl rfl
theorem X_define (h : zXs σ mk rc rl s) (hW : zWf σ) (hmk : mk + 1 < 1024) (r : Int32) (k : Int64) (told on g q : Int32) : zXo (F_X_define r k told on g q s) (S_define σ r k told on g q) (mk + 2) rc rl s := by
  obtain ⟨lv, β, π, nb, FL, h1, h2, h3⟩ := id h
  have hthr : zXo (α := Int32) (some (.inr 0, zpush s)) (.inr 0, σ) (mk + 2) rc rl s := zXo.thr (h.mono (by omega) (Nat.le_refl _) (Nat.le_refl _)) rfl
  unfold F_X_define S_define
  rw [x_hwk h1.1]
  by_cases hc : zH σ r ≠ 0 ∧ zKy k
  · rw [if_pos hc, zt_inl]
    -- the definition itself
    have go : ∀ gg ss : Nat, zRt σ gg → zRt σ ss → (told &&& 4 = 0 → gg = 0) → (told &&& 8 = 0 → ss = 0) → zXo (F_X_define_106 k told on (nI (β (zH σ r))) (nI (β gg)) (nI (β ss)) s) (.inl (zDp (gO σ (zH σ r)) k (told, on &&& told &&& 50, gPK σ, gPN σ, gR σ 24, gg, ss)).1, zSO σ (zH σ r) (zDp (gO σ (zH σ r)) k (told, on &&& told &&& 50, gPK σ, gPN σ, gR σ 24, gg, ss)).2) (mk + 2) rc rl s := by
      intro gg ss hgg hss _ _
      unfold F_X_define_106 F_D_tell F_D_tellAccessor F_D_tellValue
      rw [zb_some]
      have hC1 : zCm σ lv β π nb FL mk (sI (sI s 7 told) 8 (on &&& told &&& 50)) := h1.1.other (t := sI (sI s 7 told) 8 (on &&& told &&& 50)) rfl (fun j a b => by rw [gI_sI, if_neg (by omega), gI_sI, if_neg (by omega)]) rfl rfl rfl rfl
      have ek : F_M_kept (24 : Int32) (sI (sI s 7 told) 8 (on &&& told &&& 50)) = some (nI (β (gR σ 24)), sI (sI s 7 told) 8 (on &&& told &&& 50)) := x_kept hC1 (i := 24) (by decide)
      rw [ek, zb_some, zb_some, zb_some]
      generalize hs5 : sI (sI (sI (sJ (sI (sI (sI s 7 told) 8 (on &&& told &&& 50)) 9 (gI (sI (sI s 7 told) 8 (on &&& told &&& 50)) 0)) 2 (gJ (sI (sI s 7 told) 8 (on &&& told &&& 50)) 0)) 10 (nI (β (gR σ 24)))) 11 (nI (β gg))) 12 (nI (β ss)) = s5
      have hfk : zFk s s5 := by
        rw [← hs5]
        exact ((((((zFk.sI s (by decide) _).tr (zFk.sI _ (by decide) _)).tr (zFk.sI _ (by decide) _)).tr (zFk.sJ _ _)).tr (zFk.sI _ (by decide) _)).tr (zFk.sI _ (by decide) _)).tr (zFk.sI _ (by decide) _)
      have hC5 : zCm σ lv β π nb FL mk s5 := h1.1.other (t := s5) (by rw [← hs5]; rfl) (fun j a b => by
        rw [← hs5]
        simp only [gI_sI, gI_sJ]
        rw [if_neg (by omega), if_neg (by omega), if_neg (by omega), if_neg (by omega), if_neg (by omega), if_neg (by omega)]) (by rw [← hs5]; rfl) (by rw [← hs5]; rfl) rfl rfl
      have hlive : ∀ j, zRt σ j → j = 0 ∨ j ∈ lv := by
        intro j hj
        rcases hj with e | ⟨i, hi, e⟩
        · exact Or.inl e
        · rw [← e]; exact (h1.1.2.2.2.2.2.2.2 i hi).2
      have hD : zDr (told, on &&& told &&& 50, gPK σ, gPN σ, gR σ 24, gg, ss) β lv s5 := by
        rw [← hs5]
        refine ⟨by simp [zb_some, zt_inl, zt_inr, zc_inl, zc_inr, gI_sI, gJ_sJ, gA_sA, gB_sB, gI_sJ, gI_sA, gI_sB, gI_sN, gI_sE, gJ_sI, gJ_sA, gJ_sB, gJ_sN, gJ_sE, gA_sI, gA_sJ, gA_sB, gA_sN, gA_sE, gB_sI, gB_sJ, gB_sA, gB_sN, gB_sE, gN_sI, gN_sJ, gN_sA, gN_sB, gN_sN, gN_sE, gE_sI, gE_sJ, gE_sA, gE_sB, gE_sN, gE_sE, gI_zpush, gJ_zpush, gA_zpush, gB_zpush, gN_zpush, gE_zpush, dT], by simp [zb_some, zt_inl, zt_inr, zc_inl, zc_inr, gI_sI, gJ_sJ, gA_sA, gB_sB, gI_sJ, gI_sA, gI_sB, gI_sN, gI_sE, gJ_sI, gJ_sA, gJ_sB, gJ_sN, gJ_sE, gA_sI, gA_sJ, gA_sB, gA_sN, gA_sE, gB_sI, gB_sJ, gB_sA, gB_sN, gB_sE, gN_sI, gN_sJ, gN_sA, gN_sB, gN_sN, gN_sE, gE_sI, gE_sJ, gE_sA, gE_sB, gE_sN, gE_sE, gI_zpush, gJ_zpush, gA_zpush, gB_zpush, gN_zpush, gE_zpush, dF], by simp [zb_some, zt_inl, zt_inr, zc_inl, zc_inr, gI_sI, gJ_sJ, gA_sA, gB_sB, gI_sJ, gI_sA, gI_sB, gI_sN, gI_sE, gJ_sI, gJ_sA, gJ_sB, gJ_sN, gJ_sE, gA_sI, gA_sJ, gA_sB, gA_sN, gA_sE, gB_sI, gB_sJ, gB_sA, gB_sN, gB_sE, gN_sI, gN_sJ, gN_sA, gN_sB, gN_sN, gN_sE, gE_sI, gE_sJ, gE_sA, gE_sB, gE_sN, gE_sE, gI_zpush, gJ_zpush, gA_zpush, gB_zpush, gN_zpush, gE_zpush, dK, h1.2.1], by simp [zb_some, zt_inl, zt_inr, zc_inl, zc_inr, gI_sI, gJ_sJ, gA_sA, gB_sB, gI_sJ, gI_sA, gI_sB, gI_sN, gI_sE, gJ_sI, gJ_sA, gJ_sB, gJ_sN, gJ_sE, gA_sI, gA_sJ, gA_sB, gA_sN, gA_sE, gB_sI, gB_sJ, gB_sA, gB_sN, gB_sE, gN_sI, gN_sJ, gN_sA, gN_sB, gN_sN, gN_sE, gE_sI, gE_sJ, gE_sA, gE_sB, gE_sN, gE_sE, gI_zpush, gJ_zpush, gA_zpush, gB_zpush, gN_zpush, gE_zpush, dN, h1.2.2.1], by simp [zb_some, zt_inl, zt_inr, zc_inl, zc_inr, gI_sI, gJ_sJ, gA_sA, gB_sB, gI_sJ, gI_sA, gI_sB, gI_sN, gI_sE, gJ_sI, gJ_sA, gJ_sB, gJ_sN, gJ_sE, gA_sI, gA_sJ, gA_sB, gA_sN, gA_sE, gB_sI, gB_sJ, gB_sA, gB_sN, gB_sE, gN_sI, gN_sJ, gN_sA, gN_sB, gN_sN, gN_sE, gE_sI, gE_sJ, gE_sA, gE_sB, gE_sN, gE_sE, gI_zpush, gJ_zpush, gA_zpush, gB_zpush, gN_zpush, gE_zpush, dO], fun _ => by simp [zb_some, zt_inl, zt_inr, zc_inl, zc_inr, gI_sI, gJ_sJ, gA_sA, gB_sB, gI_sJ, gI_sA, gI_sB, gI_sN, gI_sE, gJ_sI, gJ_sA, gJ_sB, gJ_sN, gJ_sE, gA_sI, gA_sJ, gA_sB, gA_sN, gA_sE, gB_sI, gB_sJ, gB_sA, gB_sN, gB_sE, gN_sI, gN_sJ, gN_sA, gN_sB, gN_sN, gN_sE, gE_sI, gE_sJ, gE_sA, gE_sB, gE_sN, gE_sE, gI_zpush, gJ_zpush, gA_zpush, gB_zpush, gN_zpush, gE_zpush, dG], fun _ => by simp [zb_some, zt_inl, zt_inr, zc_inl, zc_inr, gI_sI, gJ_sJ, gA_sA, gB_sB, gI_sJ, gI_sA, gI_sB, gI_sN, gI_sE, gJ_sI, gJ_sA, gJ_sB, gJ_sN, gJ_sE, gA_sI, gA_sJ, gA_sB, gA_sN, gA_sE, gB_sI, gB_sJ, gB_sA, gB_sN, gB_sE, gN_sI, gN_sJ, gN_sA, gN_sB, gN_sN, gN_sE, gE_sI, gE_sJ, gE_sA, gE_sB, gE_sN, gE_sE, gI_zpush, gJ_zpush, gA_zpush, gB_zpush, gN_zpush, gE_zpush, dS], (h1.1.2.2.2.2.2.2.2 24 (by decide)).2, hlive gg hgg, hlive ss hss⟩
      obtain ⟨t, lv2, π2, nb2, FL2, g1, g2, g3, g4, g5, g6⟩ := z_define hC5 (by omega) hc.1 (zH_rt σ r) hD ⟨Or.inr ⟨24, by decide, rfl⟩, hgg, hss⟩ k (hW.arr hc.1 (hW.root r))
      rw [g1, zb_some]
      have hE5 : gE s5 = gE s := by rw [← hs5]; rfl
      refine ⟨t, rfl, ⟨lv2, β, π2, nb2, FL2, ⟨⟨⟨g2.1.1, g2.1.2.1, g2.1.2.2.1, g2.1.2.2.2.1, g2.1.2.2.2.2.1, by have := g2.1.2.2.2.2.2; omega⟩, g2.2⟩, zXf_fk (zXf_fk h1.2 hfk) g3⟩, by rw [hE5] at g5; omega, by rw [hE5] at g6; omega⟩, (zKM.fk hfk).tr (zKM.fk g3)⟩
    -- the parts that are told
    have p86 : ∀ gg : Nat, zRt σ gg → (told &&& 4 = 0 → gg = 0) → zXo (F_X_define_86 k told on q (nI (β (zH σ r))) (nI (β gg)) s) (if told &&& 8 ≠ 0 → q = -1 ∨ zH σ q ≠ 0 then (.inl (zDp (gO σ (zH σ r)) k (told, on &&& told &&& 50, gPK σ, gPN σ, gR σ 24, gg, if told &&& 8 = 0 then 0 else zH σ q)).1, zSO σ (zH σ r) (zDp (gO σ (zH σ r)) k (told, on &&& told &&& 50, gPK σ, gPN σ, gR σ 24, gg, if told &&& 8 = 0 then 0 else zH σ q)).2) else (.inr 0, σ)) (mk + 2) rc rl s := by
      intro gg hgg hg0
      unfold F_X_define_86
      by_cases h8 : told &&& 8 = 0
      · rw [if_pos h8, if_pos (fun z => absurd h8 z), if_pos h8]
        have := go gg 0 hgg (Or.inl rfl) hg0 (fun _ => rfl)
        rw [h1.1.2.2.2.1] at this
        exact this
      · rw [if_neg h8, x_heldOr h1.1, if_neg h8]
        by_cases hq : q = -1 ∨ zH σ q ≠ 0
        · rw [if_pos hq, zt_inl, if_pos (fun _ => hq)]
          exact go gg (zH σ q) hgg (zH_rt σ q) hg0 (fun z => absurd z h8)
        · rw [if_neg hq, zt_inr, if_neg (fun z => hq (z h8))]
          exact hthr
    have p69 : zXo (F_X_define_69 k told on g q (nI (β (zH σ r))) s) (if (told &&& 4 ≠ 0 → g = -1 ∨ zH σ g ≠ 0) ∧ (told &&& 8 ≠ 0 → q = -1 ∨ zH σ q ≠ 0) then (.inl (zDp (gO σ (zH σ r)) k (told, on &&& told &&& 50, gPK σ, gPN σ, gR σ 24, if told &&& 4 = 0 then 0 else zH σ g, if told &&& 8 = 0 then 0 else zH σ q)).1, zSO σ (zH σ r) (zDp (gO σ (zH σ r)) k (told, on &&& told &&& 50, gPK σ, gPN σ, gR σ 24, if told &&& 4 = 0 then 0 else zH σ g, if told &&& 8 = 0 then 0 else zH σ q)).2) else (.inr 0, σ)) (mk + 2) rc rl s := by
      unfold F_X_define_69
      by_cases h4 : told &&& 4 = 0
      · rw [if_pos h4, if_pos h4]
        have := p86 0 (Or.inl rfl) (fun _ => rfl)
        rw [h1.1.2.2.2.1] at this
        by_cases hq : told &&& 8 ≠ 0 → q = -1 ∨ zH σ q ≠ 0
        · rw [if_pos hq] at this
          rw [if_pos ⟨fun z => absurd h4 z, hq⟩]
          exact this
        · rw [if_neg hq] at this
          rw [if_neg (fun z => hq z.2)]
          exact this
      · rw [if_neg h4, x_heldOr h1.1, if_neg h4]
        by_cases hg : g = -1 ∨ zH σ g ≠ 0
        · rw [if_pos hg, zt_inl]
          have := p86 (zH σ g) (zH_rt σ g) (fun z => absurd z h4)
          by_cases hq : told &&& 8 ≠ 0 → q = -1 ∨ zH σ q ≠ 0
          · rw [if_pos hq] at this
            rw [if_pos ⟨fun _ => hg, hq⟩]
            exact this
          · rw [if_neg hq] at this
            rw [if_neg (fun z => hq z.2)]
            exact this
        · rw [if_neg hg, zt_inr, if_neg (fun z => hg (z.1 h4))]
          exact hthr
    have p35 : ∀ x y : Bool, (x = true ↔ told &&& 3 ≠ 0) → (y = true ↔ told &&& 12 ≠ 0) → zXo (F_X_define_35 k told on g q (nI (β (zH σ r))) (bI (x = true)) (bI (y = true)) s) (if ((zH σ r ≠ 0 ∧ zKy k) ∧ zTd told) ∧ (told &&& 4 ≠ 0 → g = -1 ∨ zH σ g ≠ 0) ∧ (told &&& 8 ≠ 0 → q = -1 ∨ zH σ q ≠ 0) then (.inl (zDp (gO σ (zH σ r)) k (told, on &&& told &&& 50, gPK σ, gPN σ, gR σ 24, if told &&& 4 = 0 then 0 else zH σ g, if told &&& 8 = 0 then 0 else zH σ q)).1, zSO σ (zH σ r) (zDp (gO σ (zH σ r)) k (told, on &&& told &&& 50, gPK σ, gPN σ, gR σ 24, if told &&& 4 = 0 then 0 else zH σ g, if told &&& 8 = 0 then 0 else zH σ q)).2) else (.inr 0, σ)) (mk + 2) rc rl s := by
      intro x y hx hy
      unfold F_X_define_35 F_X_define_59
      by_cases t1 : told < 0
      · rw [if_pos t1, if_neg (fun z => absurd t1 (Int32.not_lt.mpr z.1.2.1.1))]
        exact hthr
      · rw [if_neg t1]
        by_cases t2 : 63 < told
        · rw [if_pos t2, if_neg (fun z => absurd t2 (Int32.not_lt.mpr z.1.2.1.2))]
          exact hthr
        · rw [if_neg t2]
          have fin : zTd told → zXo (F_X_define_69 k told on g q (nI (β (zH σ r))) s) (if ((zH σ r ≠ 0 ∧ zKy k) ∧ zTd told) ∧ (told &&& 4 ≠ 0 → g = -1 ∨ zH σ g ≠ 0) ∧ (told &&& 8 ≠ 0 → q = -1 ∨ zH σ q ≠ 0) then (.inl (zDp (gO σ (zH σ r)) k (told, on &&& told &&& 50, gPK σ, gPN σ, gR σ 24, if told &&& 4 = 0 then 0 else zH σ g, if told &&& 8 = 0 then 0 else zH σ q)).1, zSO σ (zH σ r) (zDp (gO σ (zH σ r)) k (told, on &&& told &&& 50, gPK σ, gPN σ, gR σ 24, if told &&& 4 = 0 then 0 else zH σ g, if told &&& 8 = 0 then 0 else zH σ q)).2) else (.inr 0, σ)) (mk + 2) rc rl s := by
            intro ht
            by_cases hp : (told &&& 4 ≠ 0 → g = -1 ∨ zH σ g ≠ 0) ∧ (told &&& 8 ≠ 0 → q = -1 ∨ zH σ q ≠ 0)
            · rw [if_pos ⟨⟨hc, ht⟩, hp⟩]
              rw [if_pos hp] at p69
              exact p69
            · rw [if_neg (fun z => hp z.2)]
              rw [if_neg hp] at p69
              exact p69
          by_cases h3 : told &&& 3 = 0
          · rw [if_pos (bI_eq0.mpr (fun z => hx.mp z h3))]
            exact fin ⟨⟨Int32.not_lt.mp t1, Int32.not_lt.mp t2⟩, Or.inl h3⟩
          · rw [if_neg (fun z => bI_eq0.mp z (hx.mpr h3))]
            by_cases h12 : told &&& 12 = 0
            · rw [if_pos (bI_eq0.mpr (fun z => hy.mp z h12))]
              exact fin ⟨⟨Int32.not_lt.mp t1, Int32.not_lt.mp t2⟩, Or.inr h12⟩
            · rw [if_neg (fun z => bI_eq0.mp z (hy.mpr h12)), if_neg (fun z => z.1.2.2.elim h3 h12)]
              exact hthr
    have p20 : ∀ x : Bool, (x = true ↔ told &&& 3 ≠ 0) → zXo (F_X_define_20 k told on g q (nI (β (zH σ r))) (bI (x = true)) s) (if ((zH σ r ≠ 0 ∧ zKy k) ∧ zTd told) ∧ (told &&& 4 ≠ 0 → g = -1 ∨ zH σ g ≠ 0) ∧ (told &&& 8 ≠ 0 → q = -1 ∨ zH σ q ≠ 0) then (.inl (zDp (gO σ (zH σ r)) k (told, on &&& told &&& 50, gPK σ, gPN σ, gR σ 24, if told &&& 4 = 0 then 0 else zH σ g, if told &&& 8 = 0 then 0 else zH σ q)).1, zSO σ (zH σ r) (zDp (gO σ (zH σ r)) k (told, on &&& told &&& 50, gPK σ, gPN σ, gR σ 24, if told &&& 4 = 0 then 0 else zH σ g, if told &&& 8 = 0 then 0 else zH σ q)).2) else (.inr 0, σ)) (mk + 2) rc rl s := by
      intro x hx
      unfold F_X_define_20
      by_cases h12 : told &&& 12 = 0
      · rw [if_pos h12]
        exact p35 x false hx ⟨fun z => (by cases z), fun z => absurd h12 z⟩
      · rw [if_neg h12]
        exact p35 x true hx ⟨fun _ => h12, fun _ => rfl⟩
    by_cases h3 : told &&& 3 = 0
    · rw [if_pos h3]
      exact p20 false ⟨fun z => (by cases z), fun z => absurd h3 z⟩
    · rw [if_neg h3]
      exact p20 true ⟨fun _ => h3, fun _ => rfl⟩
  · rw [if_neg hc, zt_inr, if_neg (fun z => hc z.1.1)]
    exact hthr
/-- the description of a put -/
def zPd (σ : zSg) (t : Int32) : zDs := (t, 50 &&& t &&& 50, gPK σ, gPN σ, gR σ 24, 0, 0)
def zPo (σ : zSg) (o : Nat) (k : Int64) : Int32 × zOb := zDp (gO σ o) k (zPd σ (if (zG k (oL (gO σ o))).isSome then 1 else 51))
def S_put (σ : zSg) (r : Int32) (k : Int64) : (Int32 ⊕ Nat) × zSg := if zH σ r ≠ 0 ∧ zKy k then
    (if kF ((zLu σ k 600 (zH σ r)).getD zp0) &&& 64 ≠ 0 then (.inl (if kS ((zLu σ k 600 (zH σ r)).getD zp0) = 0 then 2 else 1), zRs σ (if kS ((zLu σ k 600 (zH σ r)).getD zp0) = 0 then 0 else 5) 0 (kS ((zLu σ k 600 (zH σ r)).getD zp0)))
    else if ((zLu σ k 600 (zH σ r)).isSome = false ∨ kF ((zLu σ k 600 (zH σ r)).getD zp0) &&& 2 ≠ 0) ∧ ((zG k (oL (gO σ (zH σ r)))).isSome = true ∨ oE (gO σ (zH σ r)) = true) then
      (.inl (zPo σ (zH σ r) k).1, zRs (zSO σ (zH σ r) (zPo σ (zH σ r) k).2) 0 0 0)
    else (.inl 2, zRs σ 0 0 0)) else (.inr 0, σ)
theorem X_put (h : zXs σ mk rc rl s) (hW : zWf σ) (hmk : mk + 1 < 1024) (r : Int32) (k : Int64) : zXo (F_X_put r k s) (S_put σ r k) (mk + 2) rc rl s := by
  obtain ⟨lv, β, π, nb, FL, h1, h2, h3⟩ := id h
  have hnb := h1.1.ok.2
  unfold F_X_put S_put
  rw [x_hwk h1.1]
  by_cases hc : zH σ r ≠ 0 ∧ zKy k
  · rw [if_pos hc, zt_inl, if_pos hc]
    have ho := (h1.1.root r).resolve_left hc.1
    obtain ⟨b, p, w1, w2, w3, w4, w5, w6⟩ := r_find h1.1 hW k (h1.1.root r) (hW.root r)
    have hp : (zLu σ k 600 (zH σ r)).getD zp0 = p := by
      rcases w6 with ⟨q1, -, q2⟩ | ⟨q1, -⟩
      · rw [q1, q2]; rfl
      · rw [q1]; rfl
    have hb : b = 0 ↔ (zLu σ k 600 (zH σ r)).isSome = false := by
      rcases w6 with ⟨q1, q2, -⟩ | ⟨q1, q2⟩
      · rw [q1]; exact ⟨fun _ => rfl, fun _ => q2⟩
      · rw [q1]; exact ⟨fun z => absurd z q2, fun z => by cases z⟩
    rw [hp, w1, zb_some, r_acc h1.1.ok w2 w3, zb_some]
    by_cases ha : kF p &&& 64 = 0
    · rw [if_pos (bI_eq0.mpr (fun z => z ha)), if_neg (show ¬ (kF p &&& 64 ≠ 0) from fun z => z ha), r_fo h1.1 ho, zb_some]
      obtain ⟨p9, v1, v2, v3, v4, v5⟩ := h1.1.own ho k
      have hown : nI (zBk k (π (zH σ r)) (oL (gO σ (zH σ r)))) = 0 ↔ (zG k (oL (gO σ (zH σ r)))).isSome = false := by
        rcases v5 with ⟨z1, z2, -⟩ | ⟨z1, z2, -⟩
        · rw [z1, z2]; exact ⟨fun _ => rfl, fun _ => rfl⟩
        · rw [z1]; exact ⟨fun z => absurd ((qI_eq0 (by omega)).mp z) z2, fun z => by cases z⟩
      -- the end without a definition
      have p2 : zXo (F_X_put_189 2 s) (.inl 2, zRs σ 0 0 0) (mk + 2) rc rl s := by
        unfold F_X_put_189
        obtain ⟨t, f1, f2, f3, f4⟩ := x_giveO h1 (o := 0) (Or.inl rfl)
        rw [h1.1.2.2.2.1] at f1
        have f1 : F_X_giveObject 0 s = some ((), t) := f1
        rw [f1, zb_some]
        refine ⟨t, rfl, ⟨lv, β, π, nb, FL, ⟨⟨⟨f2.1.1.1, f2.1.1.2.1, f2.1.1.2.2.1, f2.1.1.2.2.2.1, f2.1.1.2.2.2.2.1, by have := f2.1.1.2.2.2.2.2; omega⟩, f2.1.2⟩, f2.2⟩, by rw [f4]; omega, by rw [f4]; omega⟩, f3⟩
      -- with a definition
      have pd : ∀ t : Int32, t = (if (zG k (oL (gO σ (zH σ r)))).isSome then 1 else 51) → zXo (F_X_put_144 k (nI (β (zH σ r))) t s) (.inl (zPo σ (zH σ r) k).1, zRs (zSO σ (zH σ r) (zPo σ (zH σ r) k).2) 0 0 0) (mk + 2) rc rl s := by
        intro t ht
        unfold F_X_put_144 F_D_tell F_D_tellValue
        rw [zb_some]
        have hC1 : zCm σ lv β π nb FL mk (sI (sI s 7 t) 8 (50 &&& t &&& 50)) := h1.1.other (t := sI (sI s 7 t) 8 (50 &&& t &&& 50)) rfl (fun j a b => by rw [gI_sI, if_neg (by omega), gI_sI, if_neg (by omega)]) rfl rfl rfl rfl
        have ek : F_M_kept (24 : Int32) (sI (sI s 7 t) 8 (50 &&& t &&& 50)) = some (nI (β (gR σ 24)), sI (sI s 7 t) 8 (50 &&& t &&& 50)) := x_kept hC1 (i := 24) (by decide)
        rw [ek, zb_some, zb_some]
        generalize hs5 : sI (sJ (sI (sI (sI s 7 t) 8 (50 &&& t &&& 50)) 9 (gI (sI (sI s 7 t) 8 (50 &&& t &&& 50)) 0)) 2 (gJ (sI (sI s 7 t) 8 (50 &&& t &&& 50)) 0)) 10 (nI (β (gR σ 24))) = s5
        have hfk : zFk s s5 := by
          rw [← hs5]
          exact ((((zFk.sI s (by decide) _).tr (zFk.sI _ (by decide) _)).tr (zFk.sI _ (by decide) _)).tr (zFk.sJ _ _)).tr (zFk.sI _ (by decide) _)
        have hC5 : zCm σ lv β π nb FL mk s5 := h1.1.other (t := s5) (by rw [← hs5]; rfl) (fun j a b => by
          rw [← hs5]
          simp only [gI_sI, gI_sJ]
          rw [if_neg (by omega), if_neg (by omega), if_neg (by omega), if_neg (by omega)]) (by rw [← hs5]; rfl) (by rw [← hs5]; rfl) rfl rfl
        have ht4 : t &&& 4 = 0 ∧ t &&& 8 = 0 := by
          rw [ht]
          split <;> decide
        have hD : zDr (zPd σ t) β lv s5 := by
          rw [← hs5]
          exact ⟨by simp [zb_some, zt_inl, zt_inr, zc_inl, zc_inr, gI_sI, gJ_sJ, gA_sA, gB_sB, gI_sJ, gI_sA, gI_sB, gI_sN, gI_sE, gJ_sI, gJ_sA, gJ_sB, gJ_sN, gJ_sE, gA_sI, gA_sJ, gA_sB, gA_sN, gA_sE, gB_sI, gB_sJ, gB_sA, gB_sN, gB_sE, gN_sI, gN_sJ, gN_sA, gN_sB, gN_sN, gN_sE, gE_sI, gE_sJ, gE_sA, gE_sB, gE_sN, gE_sE, gI_zpush, gJ_zpush, gA_zpush, gB_zpush, gN_zpush, gE_zpush, zPd, dT], by simp [zb_some, zt_inl, zt_inr, zc_inl, zc_inr, gI_sI, gJ_sJ, gA_sA, gB_sB, gI_sJ, gI_sA, gI_sB, gI_sN, gI_sE, gJ_sI, gJ_sA, gJ_sB, gJ_sN, gJ_sE, gA_sI, gA_sJ, gA_sB, gA_sN, gA_sE, gB_sI, gB_sJ, gB_sA, gB_sN, gB_sE, gN_sI, gN_sJ, gN_sA, gN_sB, gN_sN, gN_sE, gE_sI, gE_sJ, gE_sA, gE_sB, gE_sN, gE_sE, gI_zpush, gJ_zpush, gA_zpush, gB_zpush, gN_zpush, gE_zpush, zPd, dF], by simp [zb_some, zt_inl, zt_inr, zc_inl, zc_inr, gI_sI, gJ_sJ, gA_sA, gB_sB, gI_sJ, gI_sA, gI_sB, gI_sN, gI_sE, gJ_sI, gJ_sA, gJ_sB, gJ_sN, gJ_sE, gA_sI, gA_sJ, gA_sB, gA_sN, gA_sE, gB_sI, gB_sJ, gB_sA, gB_sN, gB_sE, gN_sI, gN_sJ, gN_sA, gN_sB, gN_sN, gN_sE, gE_sI, gE_sJ, gE_sA, gE_sB, gE_sN, gE_sE, gI_zpush, gJ_zpush, gA_zpush, gB_zpush, gN_zpush, gE_zpush, zPd, dK, h1.2.1], by simp [zb_some, zt_inl, zt_inr, zc_inl, zc_inr, gI_sI, gJ_sJ, gA_sA, gB_sB, gI_sJ, gI_sA, gI_sB, gI_sN, gI_sE, gJ_sI, gJ_sA, gJ_sB, gJ_sN, gJ_sE, gA_sI, gA_sJ, gA_sB, gA_sN, gA_sE, gB_sI, gB_sJ, gB_sA, gB_sN, gB_sE, gN_sI, gN_sJ, gN_sA, gN_sB, gN_sN, gN_sE, gE_sI, gE_sJ, gE_sA, gE_sB, gE_sN, gE_sE, gI_zpush, gJ_zpush, gA_zpush, gB_zpush, gN_zpush, gE_zpush, zPd, dN, h1.2.2.1], by simp [zb_some, zt_inl, zt_inr, zc_inl, zc_inr, gI_sI, gJ_sJ, gA_sA, gB_sB, gI_sJ, gI_sA, gI_sB, gI_sN, gI_sE, gJ_sI, gJ_sA, gJ_sB, gJ_sN, gJ_sE, gA_sI, gA_sJ, gA_sB, gA_sN, gA_sE, gB_sI, gB_sJ, gB_sA, gB_sN, gB_sE, gN_sI, gN_sJ, gN_sA, gN_sB, gN_sN, gN_sE, gE_sI, gE_sJ, gE_sA, gE_sB, gE_sN, gE_sE, gI_zpush, gJ_zpush, gA_zpush, gB_zpush, gN_zpush, gE_zpush, zPd, dO], fun z => absurd ht4.1 z, fun z => absurd ht4.2 z, (h1.1.2.2.2.2.2.2.2 24 (by decide)).2, Or.inl rfl, Or.inl rfl⟩
        obtain ⟨t6, lv2, π2, nb2, FL2, g1, g2, g3, g4, g5, g6⟩ := z_define hC5 (by omega) hc.1 (zH_rt σ r) hD ⟨Or.inr ⟨24, by decide, rfl⟩, Or.inl rfl, Or.inl rfl⟩ k (hW.arr hc.1 (hW.root r))
        have e6 : zDp (gO σ (zH σ r)) k (zPd σ t) = zPo σ (zH σ r) k := by unfold zPo; rw [ht]
        rw [e6] at g1 g2
        rw [g1, zb_some]
        unfold F_X_put_189
        have hXr : zXr (zSO σ (zH σ r) (zPo σ (zH σ r) k).2) lv2 β π2 nb2 FL2 (mk + 1) t6 := ⟨g2, zXf_fk (zXf_fk h1.2 hfk) g3⟩
        obtain ⟨t7, f1, f2, f3, f4⟩ := x_giveO hXr (o := 0) (Or.inl rfl)
        rw [h1.1.2.2.2.1] at f1
        have f1 : F_X_giveObject 0 t6 = some ((), t7) := f1
        rw [f1, zb_some]
        have hE5 : gE s5 = gE s := by rw [← hs5]; rfl
        refine ⟨t7, rfl, ⟨lv2, β, π2, nb2, FL2, ⟨⟨⟨f2.1.1.1, f2.1.1.2.1, f2.1.1.2.2.1, f2.1.1.2.2.2.1, f2.1.1.2.2.2.2.1, by have := f2.1.1.2.2.2.2.2; omega⟩, f2.1.2⟩, f2.2⟩, by rw [f4]; rw [hE5] at g5; omega, by rw [f4]; rw [hE5] at g6; omega⟩, ((zKM.fk hfk).tr (zKM.fk g3)).tr f3⟩
      -- own or extensible
      have p102 : ∀ (y : Bool) (x : Bool), (x = true ↔ (zG k (oL (gO σ (zH σ r)))).isSome = true) → (y = true ↔ ((zLu σ k 600 (zH σ r)).isSome = false ∨ kF p &&& 2 ≠ 0)) → zXo (F_X_put_102 k (nI (β (zH σ r))) (bI (x = true)) (bI (y = true)) s) (if ((zLu σ k 600 (zH σ r)).isSome = false ∨ kF p &&& 2 ≠ 0) ∧ ((zG k (oL (gO σ (zH σ r)))).isSome = true ∨ oE (gO σ (zH σ r)) = true) then (.inl (zPo σ (zH σ r) k).1, zRs (zSO σ (zH σ r) (zPo σ (zH σ r) k).2) 0 0 0) else (.inl 2, zRs σ 0 0 0)) (mk + 2) rc rl s := by
        intro y x hx hy
        unfold F_X_put_102 F_X_put_129
        cases y with
        | false =>
          rw [if_pos (bI_f (by decide)), if_neg (fun z => absurd (hy.mpr z.1) (by decide))]
          exact p2
        | true =>
          rw [if_neg (by decide)]
          have hyy := hy.mp rfl
          cases x with
          | true =>
            rw [if_neg (by decide), if_neg (by decide), if_pos ⟨hyy, Or.inl (hx.mp rfl)⟩]
            exact pd 1 (by rw [if_pos (hx.mp rfl)])
          | false =>
            have hnx : ¬ ((zG k (oL (gO σ (zH σ r)))).isSome = true) := fun z => absurd (hx.mpr z) (by decide)
            rw [if_pos (bI_f (by decide)), r_ext h1.1.ok (h1.1.chain ho).2.2.1 (h1.1.obj ho), zb_some]
            by_cases he : oE (gO σ (zH σ r)) = true
            · rw [if_neg (fun z => bI_eq0.mp z he), if_pos (bI_f (by decide)), if_pos ⟨hyy, Or.inr he⟩]
              exact pd 51 (by rw [if_neg hnx])
            · rw [if_pos (bI_eq0.mpr he), if_neg (fun z => z.2.elim hnx he)]
              exact p2
      have p77 : ∀ x : Bool, (x = true ↔ (zG k (oL (gO σ (zH σ r)))).isSome = true) → zXo (F_X_put_77 k (nI (β (zH σ r))) (nI b) (bI (x = true)) s) (if ((zLu σ k 600 (zH σ r)).isSome = false ∨ kF p &&& 2 ≠ 0) ∧ ((zG k (oL (gO σ (zH σ r)))).isSome = true ∨ oE (gO σ (zH σ r)) = true) then (.inl (zPo σ (zH σ r) k).1, zRs (zSO σ (zH σ r) (zPo σ (zH σ r) k).2) 0 0 0) else (.inl 2, zRs σ 0 0 0)) (mk + 2) rc rl s := by
        intro x hx
        unfold F_X_put_77 F_X_put_97
        by_cases hb0 : b = 0
        · rw [if_pos ((qI_eq0 (by omega)).mpr hb0)]
          exact p102 true x hx ⟨fun _ => Or.inl (hb.mp hb0), fun _ => rfl⟩
        · rw [if_neg (fun z => hb0 ((qI_eq0 (by omega)).mp z)), r_any h1.1.ok w2 w3, zb_some]
          have hns : ¬ ((zLu σ k 600 (zH σ r)).isSome = false) := fun z => hb0 (hb.mpr z)
          by_cases hf : kF p &&& 2 = 0
          · rw [if_pos (bI_eq0.mpr (fun z => z hf))]
            exact p102 false x hx ⟨fun z => (by cases z), fun z => (z.elim (fun y => absurd y hns) (fun y => absurd hf y))⟩
          · rw [if_neg (fun z => bI_eq0.mp z hf)]
            exact p102 true x hx ⟨fun _ => Or.inr hf, fun _ => rfl⟩
      by_cases hz : (zG k (oL (gO σ (zH σ r)))).isSome = false
      · rw [if_pos (hown.mpr hz)]
        exact p77 false ⟨fun z => (by cases z), fun z => absurd z (by rw [hz]; decide)⟩
      · rw [if_neg (fun z => hz (hown.mp z))]
        exact p77 true ⟨fun _ => (by cases hq : (zG k (oL (gO σ (zH σ r)))).isSome with | true => rfl | false => exact absurd hq hz), fun _ => rfl⟩
    · rw [if_neg (fun z => bI_eq0.mp z ha), if_pos (show kF p &&& 64 ≠ 0 from ha), r_set h1.1.ok w2 w3, zb_some]
      obtain ⟨t, f1, f2, f3, f4⟩ := x_giveO h1 w5
      rw [f1, zb_some]
      have e1 : gI t 1 = if kS p = 0 then 0 else 5 := f2.2.2.2.1
      rw [e1]
      unfold F_X_put_58
      have hx : zXs (zRs σ (if kS p = 0 then 0 else 5) 0 (kS p)) (mk + 2) (rc + 6) (rl + 1) t := ⟨lv, β, π, nb, FL, ⟨⟨⟨f2.1.1.1, f2.1.1.2.1, f2.1.1.2.2.1, f2.1.1.2.2.2.1, f2.1.1.2.2.2.2.1, by have := f2.1.1.2.2.2.2.2; omega⟩, f2.1.2⟩, f2.2⟩, by rw [f4]; omega, by rw [f4]; omega⟩
      by_cases hs : kS p = 0
      · rw [if_pos hs] at hx ⊢
        rw [if_neg (by decide), if_pos hs]
        exact ⟨t, rfl, hx, f3⟩
      · rw [if_neg hs] at hx ⊢
        rw [if_pos rfl, if_neg hs]
        exact ⟨t, rfl, hx, f3⟩
  · rw [if_neg hc, zt_inr, if_neg hc]
    exact zXo.thr (h.mono (by omega) (Nat.le_refl _) (Nat.le_refl _)) rfl
end ZXA

/-! a new block, seen from the objects -/
section ZC3
variable {σ : zSg} {lv : List Nat} {β : Nat → Nat} {π : Nat → List Nat} {nb : Nat} {FL : List Nat} {mk : Nat} {s t : zSt}
theorem zUs_filter {β : Nat → Nat} {π : Nat → List Nat} (p : Nat → Bool) : ∀ lv : List Nat, List.Sublist (zUs (lv.filter p) β π) (zUs lv β π) := by
  intro lv
  induction lv with
  | nil => exact List.Sublist.refl _
  | cons a r ih =>
    rw [List.filter_cons]
    split
    · rw [zUs_cons, zUs_cons]
      exact List.Sublist.append (List.Sublist.refl _) ih
    · rw [zUs_cons]
      exact ih.trans (List.sublist_append_right _ _)
theorem z_mkc (h : zCm σ lv β π nb FL mk s) (hmk : mk < 1024) : ∃ s2 FL2 nb2 b lv2, F_M_make s = some (nI b, s2) ∧ zCm σ lv2 β π nb2 FL2 (mk + 1) s2 ∧ (∀ o ∈ lv2, o ∈ lv) ∧ (∀ i, i < 27 → gR σ i = 0 ∨ gR σ i ∈ lv2) ∧ (1 ≤ b ∧ b ≤ nb2) ∧ b ∉ FL2 ∧ b ∉ zUs lv2 β π ∧ (∀ f, f < 8 → Wd s2 b f = 0) ∧ zSame s s2 ∧ nb ≤ nb2 ∧ zeC (gE s2) ≤ zeC (gE s) + 16 * (nb2 - nb) ∧ zeL (gE s2) ≤ zeL (gE s) + (nb2 - nb) := by
  obtain ⟨⟨b1, b2, b3, b4, b5, b6⟩, a2, a3, a4, a5, a6, a7, a8⟩ := id h
  have hnb := b2.2
  have hlk : ∀ c, c ≤ 1024 → (nL c).toInt.toNat = c := fun c hc => by rw [qL_toInt (by omega)]; rfl
  have hl : ∀ b ∈ zUs lv β π, ∀ f, 1 ≤ f → f < 4 → Wd s b f = nL (Wd s b f).toInt.toNat ∧ ((Wd s b f).toInt.toNat = 0 ∨ (Wd s b f).toInt.toNat ∈ zUs lv β π) := by
    intro b hb f h1 h2
    obtain ⟨c, q1, q2⟩ := h.link hb h1 h2
    have hc : c ≤ 1024 := by
      rcases q2 with e | e
      · omega
      · have := (a3 c e).1; omega
    rw [q1, hlk c hc]
    exact ⟨rfl, q2⟩
  obtain ⟨s2, FL2, nb2, b, S, g0, g1, g2, g3, g4, g5, g6, g7, g8, g9, g10, g11, g12, g13, g14, g15, g16, g17⟩ := z_make (U := zUs lv β π) (sl := fun i => β (gR σ i)) (lk := fun b f => (Wd s b f).toInt.toNat) b1 b2 b3 b4 b5 (fun c hc => (a3 c hc).1) a2 (fun c hc => (a3 c hc).2) (fun i hi => ⟨(a8 i hi).1, by
    rcases (a8 i hi).2 with e | e
    · exact Or.inl (by show β (gR σ i) = 0; rw [e]; exact a4)
    · exact Or.inr (zUs_mem e).1⟩) hl b6 hmk
  -- what is left
  have hch : ∀ o ∈ lv, β o ∈ S → ∀ c ∈ π o, c ∈ S := by
    intro o ho hS
    obtain ⟨w1, w2, w3, w4, w5⟩ := h.obj ho
    have hin := (h.chain ho).1
    have key : ∀ (bs : List Nat) (ps : List zPr), zPA s β bs ps → zIn nb bs → (bs.headD 0 = 0 ∨ bs.headD 0 ∈ S) → ∀ c ∈ bs, c ∈ S := by
      intro bs
      induction bs with
      | nil => intro ps _ _ _ c hc; cases hc
      | cons a r ih => intro ps hP hI hh c hc; cases ps with
        | nil => exact hP.elim
        | cons p ps =>
          have ha := hI.1 a List.mem_cons_self
          have haS : a ∈ S := hh.resolve_left (by show a ≠ 0; omega)
          rcases List.mem_cons.mp hc with e | e
          · rw [e]; exact haS
          · refine ih ps hP.2.2 hI.tl ?_ c e
            have := g16 a haS 1 (by decide) (by decide)
            have hr : r.headD 0 ≤ 1024 := by have := hI.tl.hd; omega
            simp only [hP.1, hlk _ hr] at this
            exact this
    refine key (π o) _ w5 hin ?_
    have := g16 (β o) hS 2 (by decide) (by decide)
    have hr : (π o).headD 0 ≤ 1024 := by have := hin.hd; omega
    simp only [w2, hlk _ hr] at this
    exact this
  have hβS : ∀ j, (j = 0 ∨ j ∈ lv) → (β j = 0 ∨ β j ∈ S) → j = 0 ∨ j ∈ lv.filter (fun o => decide (β o ∈ S)) := by
    intro j hj hS
    rcases hj with e | e
    · exact Or.inl e
    · refine Or.inr (List.mem_filter.mpr ⟨e, decide_eq_true (hS.resolve_left ?_)⟩)
      have := (h.chain e).2.1
      omega
  have hsubU : ∀ c ∈ zUs (lv.filter (fun o => decide (β o ∈ S))) β π, c ∈ S := by
    intro c hc
    obtain ⟨o, ho, hco⟩ := List.mem_flatMap.mp hc
    obtain ⟨ho1, ho2⟩ := List.mem_filter.mp ho
    have ho2 := of_decide_eq_true ho2
    rcases List.mem_cons.mp hco with e | e
    · rw [e]; exact ho2
    · exact hch o ho1 ho2 c e
  have hlv : ∀ j, (j = 0 ∨ j ∈ lv) → β j ≤ 1024 := fun j hj => (h.βok j hj).1
  refine ⟨s2, FL2, nb2, b, lv.filter (fun o => decide (β o ∈ S)), g0, ⟨⟨g2, g3, g4, g5, g10, g11⟩, List.Nodup.sublist (zUs_filter _ lv) a2, fun c hc => ?_, a4, fun q => a5 (List.mem_filter.mp q).1, fun o ho => ?_, fun o ho => ?_, fun i hi => ?_⟩, fun o ho => (List.mem_filter.mp ho).1, fun i hi => hβS _ (a8 i hi).2 (g15 i hi), g7, g8, fun q => (g17 b (hsubU b q)).1 rfl, g9, g6, g1, g12, g13⟩
  · have := (a3 c ((zUs_filter _ lv).subset hc)).1
    exact ⟨by omega, (g17 c (hsubU c hc)).2.1⟩
  · obtain ⟨ho1, ho2⟩ := List.mem_filter.mp ho
    have ho2 := of_decide_eq_true ho2
    refine zOA_kept (s := s) (fun c hc f hf => ?_) ⟨rfl, fun _ _ => ⟨rfl, rfl⟩⟩ (a6 o ho1)
    have hcS : c ∈ S := by
      rcases List.mem_cons.mp hc with e | e
      · rw [e]; exact ho2
      · exact hch o ho1 ho2 c e
    exact (g17 c hcS).2.2 f hf
  · obtain ⟨ho1, ho2⟩ := List.mem_filter.mp ho
    have ho2 := of_decide_eq_true ho2
    obtain ⟨w1, w2, w3, w4, w5⟩ := a6 o ho1
    obtain ⟨c1, c2⟩ := a7 o ho1
    refine ⟨hβS _ c1 ?_, fun p hp => ?_⟩
    · have := g16 (β o) ho2 1 (by decide) (by decide)
      simp only [w1, hlk _ (hlv _ c1)] at this
      exact this
    · have key : ∀ (bs : List Nat) (ps : List zPr), zPA s β bs ps → (∀ c ∈ bs, c ∈ S) → (∀ q ∈ ps, (kO q = 0 ∨ kO q ∈ lv) ∧ (kS q = 0 ∨ kS q ∈ lv)) → p ∈ ps → (β (kO p) = 0 ∨ β (kO p) ∈ S) ∧ (β (kS p) = 0 ∨ β (kS p) ∈ S) := by
        intro bs
        induction bs with
        | nil => intro ps hP _ _ hm; cases ps with
          | nil => cases hm
          | cons q ps => exact hP.elim
        | cons a r ih => intro ps hP hs hc hm; cases ps with
          | nil => exact hP.elim
          | cons q ps =>
            rcases List.mem_cons.mp hm with e | e
            · subst e
              have haS := hs a List.mem_cons_self
              have hq := hc p List.mem_cons_self
              have r1 := g16 a haS 2 (by decide) (by decide)
              have r2 := g16 a haS 3 (by decide) (by decide)
              simp only [hP.2.1.1, hlk _ (hlv _ hq.1)] at r1
              simp only [hP.2.1.2.1, hlk _ (hlv _ hq.2)] at r2
              exact ⟨r1, r2⟩
            · exact ih ps hP.2.2 (fun c hc => hs c (List.mem_cons_of_mem _ hc)) (fun q hq => hc q (List.mem_cons_of_mem _ hq)) e
      obtain ⟨r1, r2⟩ := key (π o) _ w5 (hch o ho1 ho2) c2 hp
      exact ⟨hβS _ (c2 p hp).1 r1, hβS _ (c2 p hp).2 r2⟩
  · refine ⟨?_, hβS _ (a8 i hi).2 (g15 i hi)⟩
    rw [g6.2.2.1 0]
    exact (a8 i hi).1
end ZC3

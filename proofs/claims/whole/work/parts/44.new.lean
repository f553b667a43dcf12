/-! new objects, new properties -/
section ZC4
variable {σ : zSg} {lv : List Nat} {β : Nat → Nat} {π : Nat → List Nat} {nb : Nat} {FL : List Nat} {mk : Nat} {s t : zSt}
theorem zUs_eq {β β2 : Nat → Nat} {π π2 : Nat → List Nat} : ∀ {lv : List Nat}, (∀ o ∈ lv, β2 o = β o ∧ π2 o = π o) → zUs lv β2 π2 = zUs lv β π := by
  intro lv
  induction lv with
  | nil => intro _; rfl
  | cons a r ih =>
    intro h
    rw [zUs_cons, zUs_cons, ih (fun o ho => h o (List.mem_cons_of_mem _ ho)), (h a List.mem_cons_self).1, (h a List.mem_cons_self).2]
theorem zUs_lv {β : Nat → Nat} {π : Nat → List Nat} : ∀ {lv : List Nat}, (zUs lv β π).Nodup → lv.Nodup := by
  intro lv
  induction lv with
  | nil => intro _; exact List.nodup_nil
  | cons a r ih =>
    intro h
    rw [zUs_cons, List.nodup_append] at h
    rw [List.nodup_cons]
    exact ⟨fun ha => h.2.2 (β a) List.mem_cons_self (β a) (zUs_mem ha).1 rfl, ih h.2.1⟩
/-- only objects that there are -/
theorem zCm.bound (h : zCm σ lv β π nb FL mk s) (hW : zWf σ) : zCm σ (lv.filter (fun o => decide (o < gn σ))) β π nb FL mk s ∧ ∀ o ∈ lv.filter (fun o => decide (o < gn σ)), o < gn σ := by
  obtain ⟨a1, a2, a3, a4, a5, a6, a7, a8⟩ := h
  have hf : ∀ j, (j = 0 ∨ j ∈ lv) → j < gn σ → j = 0 ∨ j ∈ lv.filter (fun o => decide (o < gn σ)) := fun j hj hl => hj.imp id (fun e => List.mem_filter.mpr ⟨e, decide_eq_true hl⟩)
  refine ⟨⟨a1, List.Nodup.sublist (zUs_filter _ lv) a2, fun c hc => a3 c ((zUs_filter _ lv).subset hc), a4, fun q => a5 (List.mem_filter.mp q).1, fun o ho => a6 o (List.mem_filter.mp ho).1, fun o ho => ?_, fun i hi => ⟨(a8 i hi).1, hf _ (a8 i hi).2 (hW.2.2.1 i hi)⟩⟩, fun o ho => of_decide_eq_true (List.mem_filter.mp ho).2⟩
  obtain ⟨ho1, ho2⟩ := List.mem_filter.mp ho
  have ho2 := of_decide_eq_true ho2
  have h0 : o ≠ 0 := fun e => a5 (e ▸ ho1)
  obtain ⟨w1, w2, -⟩ := hW.2.2.2.1 o (by omega) ho2
  obtain ⟨c1, c2⟩ := a7 o ho1
  exact ⟨hf _ c1 (by omega), fun p hp => ⟨hf _ (c2 p hp).1 (w2 p hp).2.1, hf _ (c2 p hp).2 (w2 p hp).2.2⟩⟩
/-- an object is added in blocks that nobody has -/
theorem zCm.addO (h : zCm σ lv β π nb FL mk s) {n b : Nat} (hn : n ∉ lv) (hn0 : n ≠ 0) {x : zOb} (hb : 1 ≤ b ∧ b ≤ nb) (hbF : b ∉ FL) (hbU : b ∉ zUs lv β π) (hI : ∀ k, 2 ≤ k → k < 5 → gI t k = gI s k) (hN : gN t = gN s) (hA : gA t 0 = gA s 0)
    (hW : ∀ c f, f < 8 → c ≠ b → Wd t c f = Wd s c f) (hm : Wd t b 0 = 0) (hx : zOA t (fun j => if j = n then b else β j) b [] x) (hp : oP x = 0 ∨ oP x ∈ lv) (hps : ∀ p ∈ oL x, (kO p = 0 ∨ kO p ∈ lv) ∧ (kS p = 0 ∨ kS p ∈ lv)) (hR : ∀ i, i < 27 → gR σ i ≠ n) {σ2 : zSg} (h2 : ∀ j, gO σ2 j = if j = n then x else gO σ j) (h3 : gR σ2 = gR σ) :
    zCm σ2 (n :: lv) (fun j => if j = n then b else β j) (fun j => if j = n then [] else π j) nb FL mk t := by
  obtain ⟨⟨b1, b2, b3, b4, b5, b6⟩, a2, a3, a4, a5, a6, a7, a8⟩ := h
  have hne : ∀ o ∈ lv, o ≠ n := fun o ho e => hn (e ▸ ho)
  have hU : zUs (n :: lv) (fun j => if j = n then b else β j) (fun j => if j = n then [] else π j) = b :: zUs lv β π := by
    rw [zUs_cons, zUs_eq (fun o ho => ⟨if_neg (hne o ho), if_neg (hne o ho)⟩)]
    simp
  have hβ : ∀ j, (j = 0 ∨ j ∈ lv) → (fun j => if j = n then b else β j) j = β j := fun j hj => if_neg (fun e => by
    rcases hj with q | q
    · exact hn0 (e.symm.trans q)
    · exact hn (e ▸ q))
  refine ⟨⟨b1, ⟨hN.trans b2.1, b2.2⟩, (hI 2 (by decide) (by decide)).trans b3, ⟨(hI 3 (by decide) (by decide)).trans b4.1, (hI 4 (by decide) (by decide)).trans b4.2.1, zfl_kept (fun c hc => hW c 1 (by decide) (fun e => hbF (e ▸ hc))) b4.2.2.1, b4.2.2.2⟩, fun c h1 h2 => ?_, b6⟩, ?_, fun c hc => ?_, hβ 0 (Or.inl rfl) ▸ a4, ?_, fun o ho => ?_, fun o ho => ?_, fun i hi => ?_⟩
  · by_cases hcb : c = b
    · rw [hcb]; exact hm
    · rw [hW c 0 (by decide) hcb]; exact b5 c h1 h2
  · rw [hU]; exact List.nodup_cons.mpr ⟨hbU, a2⟩
  · rw [hU] at hc
    rcases List.mem_cons.mp hc with e | e
    · rw [e]; exact ⟨hb, hbF⟩
    · exact a3 c e
  · rw [List.mem_cons]
    exact fun q => q.elim (fun e => hn0 e.symm) a5
  · rw [h2 o]
    by_cases hon : o = n
    · rw [if_pos hon]
      simp only [hon, if_true]
      exact hx
    · have ho := (List.mem_cons.mp ho).resolve_left hon
      simp only [if_neg hon]
      refine zOA_kept (s := s) (fun c hc f hf => hW c f hf (fun e => hbU (e ▸ (zUs_sub ho).subset hc))) ⟨hβ _ (a7 o ho).1, fun p hp => ⟨hβ _ ((a7 o ho).2 p hp).1, hβ _ ((a7 o ho).2 p hp).2⟩⟩ (a6 o ho)
  · rw [h2 o]
    have im : ∀ j, (j = 0 ∨ j ∈ lv) → j = 0 ∨ j ∈ n :: lv := fun j hj => hj.imp id (List.mem_cons_of_mem _)
    by_cases hon : o = n
    · rw [if_pos hon]
      exact ⟨im _ hp, fun p hp => ⟨im _ (hps p hp).1, im _ (hps p hp).2⟩⟩
    · have ho := (List.mem_cons.mp ho).resolve_left hon
      rw [if_neg hon]
      exact ⟨im _ (a7 o ho).1, fun p hp => ⟨im _ ((a7 o ho).2 p hp).1, im _ ((a7 o ho).2 p hp).2⟩⟩
  · rw [h3, hA]
    obtain ⟨q1, q2⟩ := a8 i hi
    refine ⟨?_, q2.imp id (List.mem_cons_of_mem _)⟩
    rw [q1, hβ _ q2]
theorem zUs_ins {o b : Nat} {l1 l2 : List Nat} : ∀ {lv : List Nat}, lv.Nodup → o ∈ lv → π o = l1 ++ l2 → (zUs lv β (fun j => if j = o then l1 ++ b :: l2 else π j)).Perm (b :: zUs lv β π) := by
  intro lv
  induction lv with
  | nil => intro _ ho; cases ho
  | cons a r ih =>
    intro hn ho hπ
    rw [List.nodup_cons] at hn
    rw [zUs_cons, zUs_cons]
    by_cases hao : a = o
    · have hr : zUs r β (fun j => if j = o then l1 ++ b :: l2 else π j) = zUs r β π := zUs_eq (fun j hj => ⟨rfl, if_neg (fun e => hn.1 (by rw [hao, ← e]; exact hj))⟩)
      rw [hr, if_pos hao, hao, hπ]
      have e1 : (β o :: (l1 ++ b :: l2)) ++ zUs r β π = (β o :: l1) ++ b :: (l2 ++ zUs r β π) := by simp
      have e2 : b :: ((β o :: (l1 ++ l2)) ++ zUs r β π) = b :: ((β o :: l1) ++ (l2 ++ zUs r β π)) := by simp
      rw [e1, e2]
      exact List.perm_middle
    · rw [if_neg hao]
      have ho := (List.mem_cons.mp ho).resolve_left (fun e => hao e.symm)
      refine ((List.Perm.append_left _ (ih hn.2 ho hπ))).trans ?_
      exact List.perm_middle
/-- an object is given another shape, with one block more -/
theorem zCm.updN (h : zCm σ lv β π nb FL mk s) {o b : Nat} (ho : o ∈ lv) {x : zOb} {l1 l2 : List Nat} (hπ : π o = l1 ++ l2) (hb : 1 ≤ b ∧ b ≤ nb) (hbF : b ∉ FL) (hbU : b ∉ zUs lv β π) (hI : ∀ k, 2 ≤ k → k < 5 → gI t k = gI s k) (hN : gN t = gN s) (hA : gA t 0 = gA s 0)
    (hW : ∀ c f, f < 8 → c ≠ b → c ∉ β o :: π o → Wd t c f = Wd s c f) (hm : ∀ c, c ≠ b → Wd t c 0 = Wd s c 0) (hmb : Wd t b 0 = 0) (hx : zOA t β (β o) (l1 ++ b :: l2) x) (hp : oP x = 0 ∨ oP x ∈ lv) (hps : ∀ p ∈ oL x, (kO p = 0 ∨ kO p ∈ lv) ∧ (kS p = 0 ∨ kS p ∈ lv)) :
    zCm (zSO σ o x) lv β (fun j => if j = o then l1 ++ b :: l2 else π j) nb FL mk t := by
  obtain ⟨⟨b1, b2, b3, b4, b5, b6⟩, a2, a3, a4, a5, a6, a7, a8⟩ := id h
  have hperm := zUs_ins (β := β) (π := π) (b := b) (zUs_lv a2) ho hπ
  have hU : ∀ c ∈ FL, c ∉ β o :: π o := fun c hc q => (a3 c ((zUs_sub ho).subset q)).2 hc
  refine ⟨⟨b1, ⟨hN.trans b2.1, b2.2⟩, (hI 2 (by decide) (by decide)).trans b3, ⟨(hI 3 (by decide) (by decide)).trans b4.1, (hI 4 (by decide) (by decide)).trans b4.2.1, zfl_kept (fun c hc => hW c 1 (by decide) (fun e => hbF (e ▸ hc)) (hU c hc)) b4.2.2.1, b4.2.2.2⟩, fun c h1 h2 => ?_, b6⟩, hperm.nodup_iff.mpr (List.nodup_cons.mpr ⟨hbU, a2⟩), fun c hc => ?_, a4, a5, fun j hj => ?_, fun j hj => ?_, fun i hi => ?_⟩
  · by_cases hcb : c = b
    · rw [hcb]; exact hmb
    · rw [hm c hcb]; exact b5 c h1 h2
  · rcases List.mem_cons.mp (hperm.mem_iff.mp hc) with e | e
    · rw [e]; exact ⟨hb, hbF⟩
    · exact a3 c e
  · by_cases hjo : j = o
    · subst hjo
      simp only [gO, zSO, if_true]
      exact hx
    · simp only [gO, zSO, if_neg hjo]
      exact zOA_kept (fun c hc f hf => hW c f hf (fun e => hbU (e ▸ (zUs_sub hj).subset hc)) (h.apart ho hj hjo c hc)) ⟨rfl, fun _ _ => ⟨rfl, rfl⟩⟩ (a6 j hj)
  · by_cases hjo : j = o
    · subst hjo
      simp only [gO, zSO, if_true]
      exact ⟨hp, hps⟩
    · simp only [gO, zSO, if_neg hjo]
      exact a7 j hj
  · rw [hA]; exact a8 i hi
end ZC4

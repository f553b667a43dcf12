/-! an object changes; a block is made -/
def zUp (k : Int64) (q : zPr) : List zPr → List zPr
  | [] => []
  | p :: r => if kK p = k then q :: r else p :: zUp k q r
def zSO (σ : zSg) (o : Nat) (x : zOb) : zSg := (σ.1, fun j => if j = o then x else σ.2.1 j, σ.2.2)
def zSL (x : zOb) (l : List zPr) : zOb := (x.1, x.2.1, x.2.2.1, l)
theorem zBk_up {k k2 : Int64} {q : zPr} (hq : kK q = k) : ∀ (bs : List Nat) (ps : List zPr), zBk k2 bs (zUp k q ps) = zBk k2 bs ps := by
  intro bs
  induction bs with
  | nil => intro ps; cases ps <;> rfl
  | cons b bs ih => intro ps; cases ps with
    | nil => rfl
    | cons p ps =>
      unfold zUp
      by_cases h : kK p = k
      · rw [if_pos h]
        show (if kK q = k2 then b else zBk k2 bs ps) = (if kK p = k2 then b else zBk k2 bs ps)
        rw [hq, h]
      · rw [if_neg h]
        show (if kK p = k2 then b else zBk k2 bs (zUp k q ps)) = (if kK p = k2 then b else zBk k2 bs ps)
        rw [ih ps]
theorem zUp_mem {k : Int64} {q p : zPr} : ∀ {ps : List zPr}, p ∈ zUp k q ps → p = q ∨ p ∈ ps := by
  intro ps
  induction ps with
  | nil => intro h; cases h
  | cons a r ih =>
    intro h
    unfold zUp at h
    split at h
    · rcases List.mem_cons.mp h with e | e
      · exact Or.inl e
      · exact Or.inr (List.mem_cons_of_mem _ e)
    · rcases List.mem_cons.mp h with e | e
      · exact Or.inr (by rw [e]; exact List.mem_cons_self)
      · exact (ih e).imp id (List.mem_cons_of_mem _)
theorem zPA_up {s t : zSt} {β : Nat → Nat} {k : Int64} {q : zPr} : ∀ {bs : List Nat} {ps : List zPr}, zPA s β bs ps → bs.Nodup → zG k ps ≠ none → zBu (zBk k bs ps) s t → zPw1 t β (zBk k bs ps) q → zPA t β bs (zUp k q ps) := by
  intro bs
  induction bs with
  | nil => intro ps hP hn hg hu hq; cases ps with
    | nil => exact absurd rfl hg
    | cons p ps => exact hP.elim
  | cons b bs ih => intro ps hP hn hg hu hq; cases ps with
    | nil => exact hP.elim
    | cons p ps =>
      obtain ⟨h1, h2, h3⟩ := hP
      rw [List.nodup_cons] at hn
      unfold zUp
      by_cases h : kK p = k
      · have e : zBk k (b :: bs) (p :: ps) = b := if_pos h
        rw [e] at hu hq
        rw [if_pos h]
        exact ⟨(hu.2.2.2.2 b 1 (by decide) (Or.inr (by decide))).trans h1, hq, zPA_kept (fun c hc f hf => hu.2.2.2.2 c f hf (Or.inl (fun z => hn.1 (z ▸ hc)))) (fun _ _ => ⟨rfl, rfl⟩) h3⟩
      · have e : zBk k (b :: bs) (p :: ps) = zBk k bs ps := if_neg h
        have e2 : zG k (p :: ps) = zG k ps := if_neg h
        rw [e] at hu hq
        rw [e2] at hg
        rw [if_neg h]
        have hm : zBk k bs ps ∈ bs := by
          have : ∀ (bs : List Nat) (ps : List zPr), zPA s β bs ps → zG k ps ≠ none → zBk k bs ps ∈ bs := by
            intro bs
            induction bs with
            | nil => intro ps hP hg; cases ps with
              | nil => exact absurd rfl hg
              | cons p ps => exact hP.elim
            | cons b bs ih => intro ps hP hg; cases ps with
              | nil => exact hP.elim
              | cons p ps =>
                show (if kK p = k then b else zBk k bs ps) ∈ _
                by_cases h : kK p = k
                · rw [if_pos h]; exact List.mem_cons_self
                · rw [if_neg h]
                  have e2 : zG k (p :: ps) = zG k ps := if_neg h
                  rw [e2] at hg
                  exact List.mem_cons_of_mem _ (ih ps hP.2.2 hg)
          exact this bs ps h3 hg
        have hne : b ≠ zBk k bs ps := fun z => hn.1 (z ▸ hm)
        obtain ⟨w1, w2, w3, w4, w5, w6⟩ := h2
        refine ⟨(hu.2.2.2.2 b 1 (by decide) (Or.inl hne)).trans h1, ⟨(hu.2.2.2.2 b 2 (by decide) (Or.inl hne)).trans w1, (hu.2.2.2.2 b 3 (by decide) (Or.inl hne)).trans w2, (hu.2.2.2.2 b 4 (by decide) (Or.inl hne)).trans w3, (hu.2.2.2.2 b 5 (by decide) (Or.inl hne)).trans w4, (hu.2.2.2.2 b 6 (by decide) (Or.inl hne)).trans w5, (hu.2.2.2.2 b 7 (by decide) (Or.inl hne)).trans w6⟩, ih h3 hn.2 hg hu hq⟩
theorem zUs_sub2 {lv : List Nat} {β : Nat → Nat} {π π2 : Nat → List Nat} (h : ∀ o ∈ lv, List.Sublist (π2 o) (π o)) : List.Sublist (zUs lv β π2) (zUs lv β π) := by
  induction lv with
  | nil => exact List.Sublist.refl _
  | cons a r ih =>
    rw [zUs_cons, zUs_cons]
    exact List.Sublist.append ((h a List.mem_cons_self).cons_cons _) (ih (fun o ho => h o (List.mem_cons_of_mem _ ho)))
section ZC2
variable {σ : zSg} {lv : List Nat} {β : Nat → Nat} {π : Nat → List Nat} {nb : Nat} {FL : List Nat} {mk : Nat} {s t : zSt}
/-- blocks of two objects are not one -/
theorem zCm.apart (h : zCm σ lv β π nb FL mk s) {o o2 : Nat} (ho : o ∈ lv) (ho2 : o2 ∈ lv) (hne : o2 ≠ o) : ∀ c ∈ β o2 :: π o2, c ∉ β o :: π o := by
  obtain ⟨-, h2, -⟩ := h
  induction lv with
  | nil => cases ho
  | cons a r ih =>
    rw [zUs_cons, List.nodup_append] at h2
    intro c hc hc2
    rcases List.mem_cons.mp ho with e | e
    · rcases List.mem_cons.mp ho2 with e2 | e2
      · exact hne (e2.trans e.symm)
      · exact h2.2.2 c (by rw [← e]; exact hc2) c ((zUs_sub e2).subset hc) rfl
    · rcases List.mem_cons.mp ho2 with e2 | e2
      · exact h2.2.2 c (by rw [← e2]; exact hc) c ((zUs_sub e).subset hc2) rfl
      · exact ih e e2 h2.2.1 c hc hc2
/-- an object is given another shape, in blocks that were its own -/
theorem zCm.updO (h : zCm σ lv β π nb FL mk s) {o : Nat} (ho : o ∈ lv) {x : zOb} {bs : List Nat} (hI : ∀ k, 2 ≤ k → k < 5 → gI t k = gI s k) (hN : gN t = gN s) (hA : gA t 0 = gA s 0)
    (hW : ∀ c f, f < 8 → c ∉ β o :: π o → Wd t c f = Wd s c f) (hm : ∀ c, Wd t c 0 = Wd s c 0) (hbs : List.Sublist bs (π o)) (hx : zOA t β (β o) bs x) (hp : oP x = 0 ∨ oP x ∈ lv) (hps : ∀ p ∈ oL x, (kO p = 0 ∨ kO p ∈ lv) ∧ (kS p = 0 ∨ kS p ∈ lv)) :
    zCm (zSO σ o x) lv β (fun j => if j = o then bs else π j) nb FL mk t := by
  obtain ⟨⟨b1, b2, b3, b4, b5, b6⟩, a2, a3, a4, a5, a6, a7, a8⟩ := id h
  have hsub : List.Sublist (zUs lv β (fun j => if j = o then bs else π j)) (zUs lv β π) := zUs_sub2 (fun j _ => by
    show List.Sublist (if j = o then bs else π j) (π j)
    by_cases hj : j = o
    · rw [if_pos hj, hj]; exact hbs
    · rw [if_neg hj]; exact List.Sublist.refl _)
  have hU : ∀ c ∈ FL, c ∉ β o :: π o := fun c hc q => (a3 c ((zUs_sub ho).subset q)).2 hc
  refine ⟨⟨b1, ⟨hN.trans b2.1, b2.2⟩, (hI 2 (by decide) (by decide)).trans b3, ⟨(hI 3 (by decide) (by decide)).trans b4.1, (hI 4 (by decide) (by decide)).trans b4.2.1, zfl_kept (fun c hc => hW c 1 (by decide) (hU c hc)) b4.2.2.1, b4.2.2.2⟩, fun c h1 h2 => (hm c).trans (b5 c h1 h2), b6⟩, List.Nodup.sublist hsub a2, fun c hc => a3 c (hsub.subset hc), a4, a5, fun j hj => ?_, fun j hj => ?_, fun i hi => ?_⟩
  · by_cases hjo : j = o
    · subst hjo
      simp only [gO, zSO, if_true]
      exact hx
    · simp only [gO, zSO, if_neg hjo]
      exact zOA_kept (fun c hc f hf => hW c f hf (h.apart ho hj hjo c hc)) ⟨rfl, fun _ _ => ⟨rfl, rfl⟩⟩ (a6 j hj)
  · by_cases hjo : j = o
    · subst hjo
      simp only [gO, zSO, if_true]
      exact ⟨hp, hps⟩
    · simp only [gO, zSO, if_neg hjo]
      exact a7 j hj
  · rw [hA]; exact a8 i hi
theorem zCm.βok (h : zCm σ lv β π nb FL mk s) : ∀ o, (o = 0 ∨ o ∈ lv) → β o ≤ 1024 ∧ (nI (β o) = 0 ↔ o = 0) := fun o ho => ⟨by have := h.live ho; have := h.ok.2; omega, h.pos ho⟩
theorem zCm.βin (h : zCm σ lv β π nb FL mk s) : ∀ o1 o2, (o1 = 0 ∨ o1 ∈ lv) → (o2 = 0 ∨ o2 ∈ lv) → (nI (β o1) = nI (β o2) ↔ o1 = o2) := fun o1 o2 h1 h2 => ⟨fun z => h.inj h1 h2 (qI_inj (by have := (h.βok o1 h1).1; omega) (by have := (h.βok o2 h2).1; omega) z), fun z => by rw [z]⟩
/-- the links of a block in use -/
theorem zCm.link (h : zCm σ lv β π nb FL mk s) {b : Nat} (hb : b ∈ zUs lv β π) {f : Nat} (hf1 : 1 ≤ f) (hf2 : f < 4) : ∃ c, Wd s b f = nL c ∧ (c = 0 ∨ c ∈ zUs lv β π) := by
  obtain ⟨o, ho, hbo⟩ := List.mem_flatMap.mp hb
  obtain ⟨w1, w2, w3, w4, w5⟩ := h.obj ho
  have hβ : ∀ j, (j = 0 ∨ j ∈ lv) → β j = 0 ∨ β j ∈ zUs lv β π := by
    intro j hj
    rcases hj with e | e
    · rw [e]; exact Or.inl h.2.2.2.1
    · exact Or.inr (zUs_mem e).1
  have hπ : ∀ c ∈ π o, c ∈ zUs lv β π := (zUs_mem ho).2
  have hhd : ∀ bs : List Nat, (∀ c ∈ bs, c ∈ π o) → bs.headD 0 = 0 ∨ bs.headD 0 ∈ zUs lv β π := by
    intro bs hbs
    cases bs with
    | nil => exact Or.inl rfl
    | cons c r => exact Or.inr (hπ c (hbs c List.mem_cons_self))
  rcases List.mem_cons.mp hbo with e | e
  · subst e
    have : f = 1 ∨ f = 2 ∨ f = 3 := by omega
    rcases this with e | e | e <;> subst e
    · exact ⟨_, w1, hβ _ (h.2.2.2.2.2.2.1 o ho).1⟩
    · exact ⟨_, w2, hhd (π o) (fun c hc => hc)⟩
    · refine ⟨_, w3, ?_⟩
      split
      · rcases zBk_at (k := -1) w5 (h.chain ho).1 with ⟨-, q2⟩ | ⟨p, -, -, q3, -, -⟩
        · exact Or.inl q2
        · exact Or.inr (hπ _ q3)
      · exact Or.inl rfl
  · have hcl := (h.2.2.2.2.2.2.1 o ho).2
    have key : ∀ (bs : List Nat) (ps : List zPr), zPA s β bs ps → (∀ c ∈ bs, c ∈ π o) → (∀ p ∈ ps, (kO p = 0 ∨ kO p ∈ lv) ∧ (kS p = 0 ∨ kS p ∈ lv)) → b ∈ bs → ∃ c, Wd s b f = nL c ∧ (c = 0 ∨ c ∈ zUs lv β π) := by
      intro bs
      induction bs with
      | nil => intro ps _ _ _ hm; cases hm
      | cons a r ih => intro ps hP hs hc hm; cases ps with
        | nil => exact hP.elim
        | cons p ps =>
          rcases List.mem_cons.mp hm with e | e
          · subst e
            have : f = 1 ∨ f = 2 ∨ f = 3 := by omega
            rcases this with e | e | e <;> subst e
            · exact ⟨_, hP.1, hhd r (fun c hc => hs c (List.mem_cons_of_mem _ hc))⟩
            · exact ⟨_, hP.2.1.1, hβ _ (hc p List.mem_cons_self).1⟩
            · exact ⟨_, hP.2.1.2.1, hβ _ (hc p List.mem_cons_self).2⟩
          · exact ih ps hP.2.2 (fun c hc => hs c (List.mem_cons_of_mem _ hc)) (fun p hp => hc p (List.mem_cons_of_mem _ hp)) e
    exact key (π o) _ w5 (fun c hc => hc) hcl e
end ZC2

/-! marking -/
/-- the head of the blocks that are marked and not looked into -/
def zen (g : List Nat) : Int32 := match g with
  | [] => -1
  | b :: _ => nI b
def zgr (s : zSt) : List Nat → Prop
  | [] => True
  | b :: r => Wd s b 0 = (zen r).toInt64 ∧ zgr s r
theorem zen_int (g : List Nat) : ((zen g).toInt64).toInt32 = zen g := by simp
theorem zen_ne {g : List Nat} (h : ∀ b ∈ g, 1 ≤ b ∧ b ≤ 1024) : (zen g).toInt64 ≠ 0 := by
  cases g with
  | nil => decide
  | cons b r =>
    have hb := h b List.mem_cons_self
    show (nI b).toInt64 ≠ 0
    rw [qI_long (by omega)]
    intro e
    have := (qL_eq (a := b) (b := 0) (by omega) (by omega)).mp e
    omega
/-- D is looked into, ex is being looked into, g waits -/
def zIv (U : List Nat) (nb : Nat) (s0 s : zSt) (D ex g : List Nat) : Prop :=
  zOk nb s ∧ zSame s0 s ∧ gE s = gE s0 ∧ gI s 2 = gI s0 2 ∧ gI s 3 = gI s0 3 ∧ gI s 4 = gI s0 4 ∧ (D ++ (ex ++ g)).Nodup ∧ (∀ b ∈ D ++ (ex ++ g), b ∈ U) ∧ (∀ b, 1 ≤ b → b ≤ nb → (Wd s b 0 ≠ 0 ↔ b ∈ D ++ (ex ++ g))) ∧ zgr s g ∧
  (∀ b ∈ D, ∀ f, 1 ≤ f → f < 4 → ∀ c, Wd s0 b f = nL c → c ≤ 1024 → c = 0 ∨ c ∈ D ++ (ex ++ g)) ∧ ∀ b f, 1 ≤ f → f < 8 → Wd s b f = Wd s0 b f
theorem zgr_kept {s t : zSt} {g : List Nat} (h : ∀ b ∈ g, Wd t b 0 = Wd s b 0) (hg : zgr s g) : zgr t g := by
  induction g with
  | nil => trivial
  | cons b r ih => exact ⟨(h b List.mem_cons_self).trans hg.1, ih (fun c hc => h c (List.mem_cons_of_mem _ hc)) hg.2⟩
theorem z_mark {U : List Nat} {nb : Nat} {s0 s : zSt} {D ex g : List Nat} (hU : ∀ b ∈ U, 1 ≤ b ∧ b ≤ nb) (hI : zIv U nb s0 s D ex g) {b : Nat} (hb : b = 0 ∨ b ∈ U) :
    ∃ s2 g2, F_M_mark (nI b) (zen g) s = some (zen g2, s2) ∧ zIv U nb s0 s2 D ex g2 ∧ (∀ c ∈ D ++ (ex ++ g), c ∈ D ++ (ex ++ g2)) ∧ (b = 0 ∨ b ∈ D ++ (ex ++ g2)) := by
  obtain ⟨i1, i2, iE, i3, i4, i5, i6, i7, i8, i9, i10, i11⟩ := hI
  have hnb := i1.2
  unfold F_M_mark F_M_mark_15
  by_cases h0 : b = 0
  · rw [if_pos (by rw [h0]; rfl)]
    exact ⟨s, g, rfl, ⟨i1, i2, iE, i3, i4, i5, i6, i7, i8, i9, i10, i11⟩, fun c hc => hc, Or.inl h0⟩
  · have hbU : b ∈ U := hb.resolve_left h0
    obtain ⟨hb1, hb2⟩ := hU b hbU
    rw [if_neg (fun e => h0 ((qI_eq0 (by omega)).mp e)), zw0 i1 hb2, zb_some]
    by_cases hm : Wd s b 0 = 0
    · rw [if_pos ((lg_cmp_eq _ _).mpr hm), zsw0 i1 hb2, zb_some]
      have hnot : b ∉ D ++ (ex ++ g) := fun q => (i8 b hb1 hb2).mpr q hm
      have hWd : ∀ b2 f2, f2 < 8 → Wd (sW s b 0 (zen g).toInt64) b2 f2 = if b2 = b ∧ f2 = 0 then (zen g).toInt64 else Wd s b2 f2 := fun b2 f2 hf2 => Wd_sW h0 (by decide) hf2
      have hperm : ∀ c, c ∈ D ++ (ex ++ (b :: g)) ↔ c = b ∨ c ∈ D ++ (ex ++ g) := by
        intro c
        simp only [List.mem_append, List.mem_cons]
        constructor
        · rintro (h | h | h | h)
          · exact Or.inr (Or.inl h)
          · exact Or.inr (Or.inr (Or.inl h))
          · exact Or.inl h
          · exact Or.inr (Or.inr (Or.inr h))
        · rintro (h | h | h | h)
          · exact Or.inr (Or.inr (Or.inl h))
          · exact Or.inl h
          · exact Or.inr (Or.inl h)
          · exact Or.inr (Or.inr (Or.inr h))
      have hnd : (D ++ (ex ++ (b :: g))).Nodup := by
        have e1 : (D ++ (ex ++ (b :: g))).Perm (b :: (D ++ (ex ++ g))) := by
          rw [← List.append_assoc, ← List.append_assoc]
          exact List.perm_middle
        exact e1.nodup_iff.mpr (List.nodup_cons.mpr ⟨hnot, i6⟩)
      refine ⟨sW s b 0 (zen g).toInt64, b :: g, rfl, ⟨zOk_sW i1 _ _ _, i2.tr (zSame.sW _ _ _ _), (sW_E _ _ _ _).trans iE, (sW_I _ _ _ _ _).trans i3, (sW_I _ _ _ _ _).trans i4, (sW_I _ _ _ _ _).trans i5, hnd, ?_, ?_, ?_, ?_, ?_⟩, fun c hc => (hperm c).mpr (Or.inr hc), Or.inr ((hperm b).mpr (Or.inl rfl))⟩
      · intro c hc
        rcases (hperm c).mp hc with e | e
        · rw [e]; exact hbU
        · exact i7 c e
      · intro c hc1 hc2
        rw [hWd c 0 (by decide), hperm]
        by_cases hcb : c = b
        · rw [if_pos ⟨hcb, rfl⟩]
          exact ⟨fun _ => Or.inl hcb, fun _ => zen_ne (fun x hx => by
            have := hU x (i7 x (by simp [hx]))
            omega)⟩
        · rw [if_neg (fun q => hcb q.1), i8 c hc1 hc2]
          exact ⟨Or.inr, fun q => q.resolve_left hcb⟩
      · refine ⟨by rw [hWd b 0 (by decide), if_pos ⟨rfl, rfl⟩], zgr_kept (fun c hc => ?_) i9⟩
        rw [hWd c 0 (by decide), if_neg (show ¬ (c = b ∧ 0 = 0) from fun q => hnot (by rw [← q.1]; simp [hc]))]
      · intro c hc f hf1 hf2 x hx hx2
        rcases i10 c hc f hf1 hf2 x hx hx2 with e | e
        · exact Or.inl e
        · exact Or.inr ((hperm x).mpr (Or.inr e))
      · intro c f hf1 hf2
        rw [hWd c f hf2, if_neg (fun q => by omega)]
        exact i11 c f hf1 hf2
    · rw [if_neg (fun e => hm ((lg_cmp_eq _ _).mp e))]
      exact ⟨s, g, rfl, ⟨i1, i2, iE, i3, i4, i5, i6, i7, i8, i9, i10, i11⟩, fun c hc => hc, Or.inr ((i8 b hb1 hb2).mp hm)⟩
theorem z_mk1 {U : List Nat} {nb : Nat} {s0 : zSt} (hU : ∀ b ∈ U, 1 ≤ b ∧ b ≤ nb) {sl : Nat → Nat} (hsl : ∀ i, i < 27 → gA s0 0 i = nI (sl i) ∧ (sl i = 0 ∨ sl i ∈ U)) : ∀ (j k n : Nat) (s : zSt) (g : List Nat), j + k = 27 → j < n → zIv U nb s0 s [] [] g → (∀ i, i < k → sl i = 0 ∨ sl i ∈ g) →
    ∃ s2 g2, F_M_markAll_4 n (zen g) (nI k) s = F_M_markAll_33 zFuel (zen g2) (nI 0) s2 ∧ zIv U nb s0 s2 [] [] g2 ∧ ∀ i, i < 27 → sl i = 0 ∨ sl i ∈ g2 := by
  intro j
  induction j with
  | zero =>
    intro k n s g hk hn hI hg
    obtain ⟨m, rfl⟩ : ∃ m, n = m + 1 := ⟨n - 1, by omega⟩
    have hk : k = 27 := by omega
    subst hk
    refine ⟨s, g, ?_, hI, hg⟩
    rw [F_M_markAll_4, if_pos (by decide)]
    rfl
  | succ j ih =>
    intro k n s g hk hn hI hg
    obtain ⟨m, rfl⟩ : ∃ m, n = m + 1 := ⟨n - 1, by omega⟩
    have hlt : ¬ ((27 : Int32) ≤ nI k) := fun q => by
      have := (qI_le (a := 27) (b := k) (by decide) (by omega)).mp q
      omega
    rw [F_M_markAll_4, if_neg hlt, if_pos (zin_nI' (by omega) (by decide)), nI_clamp (by omega), show gA s 0 = gA s0 0 from hI.2.1.2.2.1 0, (hsl k (by omega)).1]
    obtain ⟨s2, g2, h1, h2, h3, h4⟩ := z_mark hU hI (hsl k (by omega)).2
    rw [h1, zb_some]
    have e1 : nI k + 1 = nI (k + 1) := (nI_succ k).symm
    rw [e1]
    refine ih (k + 1) m s2 g2 (by omega) (by omega) h2 (fun i hi => ?_)
    by_cases hik : i = k
    · rw [hik]; simpa using h4
    · rcases hg i (by omega) with e | e
      · exact Or.inl e
      · exact Or.inr (by simpa using h3 _ (by simpa using e))
theorem z_mk2 {U : List Nat} {nb : Nat} {s0 : zSt} (hU : ∀ b ∈ U, 1 ≤ b ∧ b ≤ nb) {lk : Nat → Nat} {b : Nat} {D : List Nat} {x2 : Int32} {K : Int32 → Int32 → zSt → Option (Unit × zSt)} (hb : b ∈ U) (hl : ∀ f, 1 ≤ f → f < 4 → Wd s0 b f = nL (lk f) ∧ (lk f = 0 ∨ lk f ∈ U)) : ∀ (j f n : Nat) (s : zSt) (g : List Nat), j + f = 4 → 1 ≤ f → j < n → zIv U nb s0 s D [b] g → (∀ i, 1 ≤ i → i < f → lk i = 0 ∨ lk i ∈ D ++ ([b] ++ g)) →
    ∃ s2 g2, F_M_markAll_59 K n (zen g) x2 (nI b) (nI f) s = K (zen g2) (x2 + 1) s2 ∧ zIv U nb s0 s2 D [b] g2 ∧ (∀ c ∈ D ++ ([b] ++ g), c ∈ D ++ ([b] ++ g2)) ∧ ∀ i, 1 ≤ i → i < 4 → lk i = 0 ∨ lk i ∈ D ++ ([b] ++ g2) := by
  intro j
  induction j with
  | zero =>
    intro f n s g hf hf1 hn hI hg
    obtain ⟨m, rfl⟩ : ∃ m, n = m + 1 := ⟨n - 1, by omega⟩
    have hf : f = 4 := by omega
    subst hf
    refine ⟨s, g, ?_, hI, fun c hc => hc, hg⟩
    rw [F_M_markAll_59, if_pos (by decide)]
  | succ j ih =>
    intro f n s g hf hf1 hn hI hg
    obtain ⟨m, rfl⟩ : ∃ m, n = m + 1 := ⟨n - 1, by omega⟩
    have hlt : ¬ ((4 : Int32) ≤ nI f) := fun q => by
      have := (qI_le (a := 4) (b := f) (by decide) (by omega)).mp q
      omega
    have hbU := hU b hb
    obtain ⟨hl1, hl2⟩ := hl f hf1 (by omega)
    rw [F_M_markAll_59, if_neg hlt, zw hI.1 hbU.2 (by omega), zb_some, hI.2.2.2.2.2.2.2.2.2.2.2 b f hf1 (by omega), hl1, qL_int]
    obtain ⟨s2, g2, h1, h2, h3, h4⟩ := z_mark hU hI hl2
    rw [h1, zb_some]
    have e1 : nI f + 1 = nI (f + 1) := (nI_succ f).symm
    rw [e1]
    have hg2 : ∀ i, 1 ≤ i → i < f + 1 → lk i = 0 ∨ lk i ∈ D ++ ([b] ++ g2) := by
      intro i hi1 hi
      by_cases hik : i = f
      · rw [hik]; exact h4
      · rcases hg i hi1 (by omega) with e | e
        · exact Or.inl e
        · exact Or.inr (h3 _ e)
    obtain ⟨s3, g3, k1, k2, k3, k4⟩ := ih (f + 1) m s2 g2 (by omega) (by omega) (by omega) h2 hg2
    exact ⟨s3, g3, k1, k2, fun c hc => k3 c (h3 c hc), k4⟩
theorem zFuel_eq : zFuel = 100000 := rfl
theorem z_mk3 {U : List Nat} {nb : Nat} {s0 : zSt} (hU : ∀ b ∈ U, 1 ≤ b ∧ b ≤ nb) (hn2 : gI s0 2 = nI nb) {lk : Nat → Nat → Nat} (hl : ∀ b ∈ U, ∀ f, 1 ≤ f → f < 4 → Wd s0 b f = nL (lk b f) ∧ (lk b f = 0 ∨ lk b f ∈ U)) : ∀ (j n : Nat) (D : List Nat) (s : zSt) (g : List Nat), j + D.length = nb → j < n → zIv U nb s0 s D [] g →
    ∃ s2 D2, F_M_markAll_33 n (zen g) (nI D.length) s = some ((), s2) ∧ zIv U nb s0 s2 D2 [] [] ∧ (∀ c ∈ D ++ g, c ∈ D2) := by
  intro j
  induction j with
  | zero =>
    intro n D s g hj hn hI
    obtain ⟨m, rfl⟩ : ∃ m, n = m + 1 := ⟨n - 1, by omega⟩
    have hlen := zl_bound hI.2.2.2.2.2.2.1 (fun x hx => hU x (hI.2.2.2.2.2.2.2.1 x hx))
    simp only [List.nil_append, List.length_append] at hlen
    have hg : g = [] := List.length_eq_zero_iff.mp (by omega)
    subst hg
    refine ⟨s, D, ?_, hI, fun c hc => by simpa using hc⟩
    rw [F_M_markAll_33, if_pos (by rw [hI.2.2.2.1, hn2]; exact (qI_le (by have := hI.1.2; omega) (by have := hI.1.2; omega)).mpr (by omega))]
    rfl
  | succ j ih =>
    intro n D s g hj hn hI
    obtain ⟨m, rfl⟩ : ∃ m, n = m + 1 := ⟨n - 1, by omega⟩
    have hnb := hI.1.2
    have hlt : ¬ (gI s 2 ≤ nI D.length) := fun q => by
      rw [hI.2.2.2.1, hn2] at q
      have := (qI_le (a := nb) (b := D.length) (by omega) (by omega)).mp q
      omega
    rw [F_M_markAll_33, if_neg hlt]
    cases g with
    | nil =>
      rw [if_pos (show zen [] = -1 from rfl)]
      exact ⟨s, D, rfl, hI, fun c hc => by simpa using hc⟩
    | cons b r =>
      have hbU : b ∈ U := hI.2.2.2.2.2.2.2.1 b (by simp)
      obtain ⟨hb1, hb2⟩ := hU b hbU
      have hne : ¬ (zen (b :: r) = -1) := fun q => by
        have h1 : (0 : Int32) ≤ nI b := qI_nonneg (by omega)
        rw [show nI b = -1 from q] at h1
        exact absurd h1 (by decide)
      rw [if_neg hne]
      show ∃ s2 D2, zb (F_M_word (nI b) 0 s) _ = _ ∧ _
      rw [zw0 hI.1 hb2, zb_some, hI.2.2.2.2.2.2.2.2.2.1.1, zen_int]
      have hI1 : zIv U nb s0 s D [b] r := by
        obtain ⟨i1, i2, iE, i3, i4, i5, i6, i7, i8, i9, i10, i11⟩ := hI
        exact ⟨i1, i2, iE, i3, i4, i5, i6, i7, i8, i9.2, i10, i11⟩
      obtain ⟨s2, g2, h1, h2, h2m, h3⟩ := z_mk2 (K := F_M_markAll_33 m) (x2 := nI D.length) hU hbU (lk := lk b) (fun f hf1 hf2 => hl b hbU f hf1 hf2) 3 1 zFuel s r (by decide) (by decide) (by decide) hI1 (fun i hi1 hi2 => by omega)
      have e0 : F_M_markAll_59 (F_M_markAll_33 m) zFuel (zen r) (nI D.length) (zen (b :: r)) 1 s = F_M_markAll_59 (F_M_markAll_33 m) zFuel (zen r) (nI D.length) (nI b) (nI 1) s := rfl
      rw [e0, h1]
      have e1 : nI D.length + 1 = nI (b :: D).length := (nI_succ D.length).symm
      rw [e1]
      have hI2 : zIv U nb s0 s2 (b :: D) [] g2 := by
        obtain ⟨i1, i2, iE, i3, i4, i5, i6, i7, i8, i9, i10, i11⟩ := h2
        have hmem : ∀ c, c ∈ (b :: D) ++ ([] ++ g2) ↔ c ∈ D ++ ([b] ++ g2) := by
          intro c
          simp only [List.mem_append, List.mem_cons, List.nil_append, List.not_mem_nil, or_false]
          constructor
          · rintro ((h | h) | h)
            · exact Or.inr (Or.inl h)
            · exact Or.inl h
            · exact Or.inr (Or.inr h)
          · rintro (h | h | h)
            · exact Or.inl (Or.inr h)
            · exact Or.inl (Or.inl h)
            · exact Or.inr h
        have hnd : ((b :: D) ++ ([] ++ g2)).Nodup := by
          have e1 : (D ++ (b :: g2)).Perm (b :: (D ++ g2)) := List.perm_middle
          exact e1.nodup_iff.mp i6
        refine ⟨i1, i2, iE, i3, i4, i5, hnd, fun c hc => i7 c ((hmem c).mp hc), fun c hc1 hc2 => (i8 c hc1 hc2).trans (hmem c).symm, i9, fun c hc f hf1 hf2 x hx hx2 => ?_, i11⟩
        rcases List.mem_cons.mp hc with e | e
        · subst e
          obtain ⟨q1, q2⟩ := hl c hbU f hf1 hf2
          have hlk : lk c f ≤ 1024 := by
            rcases q2 with q2 | q2
            · omega
            · have := hU _ q2; omega
          have hxe : x = lk c f := (qL_eq (by omega) (by omega)).mp (hx.symm.trans q1)
          rw [hxe]
          rcases h3 f hf1 hf2 with q | q
          · exact Or.inl q
          · exact Or.inr ((hmem _).mpr q)
        · rcases i10 c e f hf1 hf2 x hx hx2 with q | q
          · exact Or.inl q
          · exact Or.inr ((hmem _).mpr q)
      obtain ⟨s3, D3, k1, k2, k3⟩ := ih m (b :: D) s2 g2 (by simp only [List.length_cons]; omega) (by omega) hI2
      refine ⟨s3, D3, k1, k2, fun c hc => k3 c ?_⟩
      have h9 := h2m c (by simpa using hc)
      simp only [List.mem_append, List.mem_cons, List.not_mem_nil, or_false] at h9 ⊢
      rcases h9 with q | q | q
      · exact Or.inl (Or.inr q)
      · exact Or.inl (Or.inl q)
      · exact Or.inr q
/-- all that slots lead to is marked, and nothing else than what is in use -/
theorem z_markAll {U : List Nat} {nb : Nat} {s : zSt} (hok : zOk nb s) (hn2 : gI s 2 = nI nb) (hU : ∀ b ∈ U, 1 ≤ b ∧ b ≤ nb) {sl : Nat → Nat} (hsl : ∀ i, i < 27 → gA s 0 i = nI (sl i) ∧ (sl i = 0 ∨ sl i ∈ U)) {lk : Nat → Nat → Nat} (hl : ∀ b ∈ U, ∀ f, 1 ≤ f → f < 4 → Wd s b f = nL (lk b f) ∧ (lk b f = 0 ∨ lk b f ∈ U)) (hm0 : ∀ b, 1 ≤ b → b ≤ nb → Wd s b 0 = 0) :
    ∃ s2 D, F_M_markAll s = some ((), s2) ∧ zIv U nb s s2 D [] [] ∧ ∀ i, i < 27 → sl i = 0 ∨ sl i ∈ D := by
  have hI0 : zIv U nb s s [] [] [] := ⟨hok, zSame.rf s, rfl, rfl, rfl, rfl, List.nodup_nil, fun b hb => absurd hb (by simp), fun b h1 h2 => ⟨fun q => absurd (hm0 b h1 h2) q, fun q => absurd q (by simp)⟩, trivial, fun b hb => absurd hb (by simp), fun _ _ _ _ => rfl⟩
  obtain ⟨s1, g1, h1, h2, h3⟩ := z_mk1 hU hsl 27 0 zFuel s [] (by decide) (by decide) hI0 (fun i hi => by omega)
  obtain ⟨s2, D, k1, k2, k3⟩ := z_mk3 hU hn2 hl nb zFuel [] s1 g1 (by simp) (by have := hok.2; rw [zFuel_eq]; omega) h2
  refine ⟨s2, D, ?_, k2, fun i hi => ?_⟩
  · have e0 : F_M_markAll s = F_M_markAll_4 zFuel (zen []) (nI 0) s := rfl
    rw [e0, h1]
    exact k1
  · rcases h3 i hi with q | q
    · exact Or.inl q
    · exact Or.inr (k3 _ (by simpa using q))

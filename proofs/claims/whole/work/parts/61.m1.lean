/-! the model's simple calls -/
section ZM1
variable {σ : zSg} {md : Nat} {s : zSt}
def zTh {α : Type} (S : (α ⊕ Nat) × zSg) : Int32 := match S.1 with
  | .inl _ => 0
  | .inr 0 => 1
  | .inr _ => 2
theorem zIf_t {c : Prop} [Decidable c] (h : c) : (if c then (0 : Int32) else 1) = 0 := if_pos h
theorem zIf_f {c : Prop} [Decidable c] (h : ¬ c) : (if c then (0 : Int32) else 1) = 1 := if_neg h
theorem M_copy (h : zMs σ md s) (r q : Int32) : zMp (F_R_copy r q s) () (zTh (S_copy σ r q)) (S_copy σ r q).2 md s := by
  obtain ⟨ρ, ow, od, nr, h1⟩ := h
  have p25 : ∀ c : Bool, (c = true ↔ zV r ∧ (q = -1 ∨ zV q)) → zMp (F_R_copy_25 r q (bI (c = true)) s) () (zTh (S_copy σ r q)) (S_copy σ r q).2 md s := by
    intro c hc
    unfold F_R_copy_25 F_R_copy_50 F_R_copy_51 S_copy
    rw [m_says, zb_some]
    by_cases hg : zV r ∧ (q = -1 ∨ zV q)
    · rw [if_neg (fun z => bI_eq0.mp z (hc.mpr hg)), if_pos hg]
      have h2 := h1.says (if c = true then 0 else 1)
      have hth : gI (sI s 13 (if c = true then 0 else 1)) 13 = 0 := by rw [gI_sI, if_pos rfl, if_pos (hc.mpr hg)]
      by_cases hq : 0 ≤ q
      · have hv : zV q := hg.2.elim (fun e => absurd hq (by rw [e]; decide)) id
        rw [if_pos hq, if_pos (zin_rt hv), if_pos (zin_rt hg.1)]
        refine ⟨_, rfl, hth, ⟨ρ, ow, od, nr, ?_⟩, (zKC.sI s (by decide) _).tr (zKC.sA _ (by decide) _)⟩
        rw [h2.root hv]
        exact h2.setR (zV_nI hg.1).2 _
      · have hn : ¬ zV q := fun z => hq z.1
        rw [if_neg hq, if_pos (zin_rt hg.1)]
        refine ⟨_, rfl, hth, ⟨ρ, ow, od, nr, ?_⟩, (zKC.sI s (by decide) _).tr (zKC.sA _ (by decide) _)⟩
        have e0 : zH σ q = 0 := by unfold zH; rw [if_neg hn]
        rw [e0]
        exact h2.setR (zV_nI hg.1).2 0
    · rw [if_pos (bI_eq0.mpr (fun z => hg (hc.mp z))), if_neg hg]
      exact ⟨_, rfl, by rw [gI_sI, if_pos rfl, if_neg (fun z => hg (hc.mp z))]; rfl, ⟨ρ, ow, od, nr, h1.says _⟩, zKC.sI s (by decide) _⟩
  unfold F_R_copy F_R_copy_20 F_R_copy_24
  rw [m_isRoot, zb_some]
  by_cases hr : zV r
  · rw [if_neg (fun z => bI_eq0.mp z hr)]
    by_cases hq : q = -1
    · rw [if_pos hq]; exact p25 true ⟨fun _ => ⟨hr, Or.inl hq⟩, fun _ => rfl⟩
    · rw [if_neg hq, m_isRoot, zb_some]
      by_cases hv : zV q
      · rw [if_neg (fun z => bI_eq0.mp z hv)]; exact p25 true ⟨fun _ => ⟨hr, Or.inr hv⟩, fun _ => rfl⟩
      · rw [if_pos (bI_eq0.mpr hv)]; exact p25 false ⟨fun z => (by cases z), fun z => absurd z.2 (fun y => y.elim hq hv)⟩
  · rw [if_pos (bI_eq0.mpr hr)]; exact p25 false ⟨fun z => (by cases z), fun z => absurd z.1 hr⟩
/-- the value of an answer, or nothing -/
def zVl {α : Type} (d : α) (S : (α ⊕ Nat) × zSg) : α := match S.1 with
  | .inl v => v
  | .inr _ => d
theorem M_same (h : zMs σ md s) (hW : zWf σ) (r q : Int32) : zMp (F_R_same r q s) (zVl 0 (S_same σ r q)) (zTh (S_same σ r q)) (S_same σ r q).2 md s := by
  obtain ⟨ρ, ow, od, nr, h1⟩ := h
  have hr1 := hW.root r
  have hr2 := hW.root q
  have hw := hW.2.1
  have p20 : ∀ c : Bool, (c = true ↔ zV r ∧ zV q) → zMp (F_R_same_20 r q (bI (c = true)) s) (zVl 0 (S_same σ r q)) (zTh (S_same σ r q)) (S_same σ r q).2 md s := by
    intro c hc
    unfold F_R_same_20 F_R_same_45 F_R_same_46 S_same
    rw [m_says, zb_some]
    by_cases hg : zV r ∧ zV q
    · rw [if_neg (fun z => bI_eq0.mp z (hc.mpr hg)), if_pos hg, if_pos (zin_rt hg.1), if_pos (zin_rt hg.2)]
      have h2 := h1.says (if c = true then 0 else 1)
      rw [h2.root hg.1, h2.root hg.2, if_pos z_nar0, if_pos z_nar1]
      refine ⟨sI s 13 (if c = true then 0 else 1), ?_, by rw [gI_sI, if_pos rfl, if_pos (hc.mpr hg)]; rfl, ⟨ρ, ow, od, nr, h2⟩, zKC.sI s (by decide) _⟩
      show _ = some (bI (zH σ r = zH σ q), _)
      by_cases he : zH σ r = zH σ q
      · rw [if_pos (by rw [he]), bI_t he]
      · rw [if_neg (fun z => he (qI_inj (by omega) (by omega) z)), bI_f he]
    · rw [if_pos (bI_eq0.mpr (fun z => hg (hc.mp z))), if_neg hg, if_pos z_nar0]
      exact ⟨_, rfl, by rw [gI_sI, if_pos rfl, if_neg (fun z => hg (hc.mp z))]; rfl, ⟨ρ, ow, od, nr, h1.says _⟩, zKC.sI s (by decide) _⟩
  unfold F_R_same F_R_same_19
  rw [m_isRoot, zb_some]
  by_cases hr : zV r
  · rw [if_neg (fun z => bI_eq0.mp z hr), m_isRoot, zb_some]
    by_cases hq : zV q
    · rw [if_neg (fun z => bI_eq0.mp z hq)]; exact p20 true ⟨fun _ => ⟨hr, hq⟩, fun _ => rfl⟩
    · rw [if_pos (bI_eq0.mpr hq)]; exact p20 false ⟨fun z => (by cases z), fun z => absurd z.2 hq⟩
  · rw [if_pos (bI_eq0.mpr hr)]; exact p20 false ⟨fun z => (by cases z), fun z => absurd z.1 hr⟩
theorem M_kind (h : zMs σ md s) : zMp (F_R_kind s) (gRK σ) 0 σ md s := by
  obtain ⟨ρ, ow, od, nr, h1⟩ := h
  unfold F_R_kind
  refine ⟨sI s 13 0, ?_, by rw [gI_sI, if_pos rfl], ⟨ρ, ow, od, nr, h1.says _⟩, zKC.sI s (by decide) _⟩
  rw [gI_sI, if_neg (by decide), h1.2.2.2.2.1.2.2.1]
theorem M_bits (h : zMs σ md s) (hW : zWf σ) : zMp (F_R_bits s) (zVl 0 (S_bits σ)) (if gRK σ = 4 then 0 else 1) (S_bits σ).2 md s := by
  obtain ⟨ρ, ow, od, nr, h1⟩ := h
  obtain ⟨e1, e2, e3, e4⟩ := h1.2.2.2.2.1
  have p14 : ∀ c : Bool, (c = true ↔ gRK σ = 4) → zMp (F_R_bits_14 (bI (c = true)) s) (zVl 0 (S_bits σ)) (if gRK σ = 4 then 0 else 1) (S_bits σ).2 md s := by
    intro c hc
    unfold F_R_bits_14 F_R_bits_28 S_bits
    rw [m_says, zb_some]
    by_cases hk : gRK σ = 4
    · rw [if_neg (fun z => bI_eq0.mp z (hc.mpr hk)), if_pos hk]
      refine ⟨sI s 13 (if c = true then 0 else 1), ?_, by rw [gI_sI, if_pos rfl, if_pos (hc.mpr hk), if_pos hk], ⟨ρ, ow, od, nr, h1.says _⟩, zKC.sI s (by decide) _⟩
      show some (gJ s 4, _) = some (gRN σ, _)
      rw [e4]
      unfold zBt
      rw [if_neg (by rw [hk]; decide)]
    · rw [if_pos (bI_eq0.mpr (fun z => hk (hc.mp z))), if_neg hk]
      exact ⟨_, rfl, by rw [gI_sI, if_pos rfl, if_neg (fun z => hk (hc.mp z)), if_neg hk], ⟨ρ, ow, od, nr, h1.says _⟩, zKC.sI s (by decide) _⟩
  unfold F_R_bits
  rw [e3]
  by_cases hk : gRK σ = 4
  · rw [if_pos hk]; exact p14 true ⟨fun _ => hk, fun _ => rfl⟩
  · rw [if_neg hk]; exact p14 false ⟨fun z => (by cases z), fun z => absurd z hk⟩
theorem M_hold (h : zMs σ md s) (r : Int32) : zMp (F_R_hold r s) () (zTh (S_hold σ r)) (S_hold σ r).2 md s := by
  obtain ⟨ρ, ow, od, nr, h1⟩ := h
  obtain ⟨e1, e2, e3, e4⟩ := h1.2.2.2.2.1
  unfold F_R_hold F_R_hold_25 F_R_hold_46 S_hold
  rw [m_isRoot, zb_some]
  by_cases hr : zV r
  · rw [if_neg (fun z => bI_eq0.mp z hr), if_pos hr, e3]
    by_cases hk : gRK σ = 5
    · rw [if_pos hk, if_pos hk, gI_sI, if_pos rfl, if_pos rfl, if_pos (zin_rt hr)]
      refine ⟨_, rfl, by rw [gI_sA, gI_sI, if_pos rfl]; rfl, ⟨ρ, ow, od, nr, ?_⟩, (zKC.sI s (by decide) _).tr (zKC.sA _ (by decide) _)⟩
      have e5 : (gJ (sI s 13 0) 4).toInt32 = nI (gR σ 25) := by
        show (gJ s 4).toInt32 = _
        rw [e4]
        unfold zBt
        rw [if_pos hk, qL_int]
      rw [e5]
      exact (h1.says 0).setR (zV_nI hr).2 _
    · rw [if_neg hk, if_neg hk, gI_sI, if_pos rfl, if_neg (by decide)]
      exact ⟨_, rfl, by rw [gI_sI, if_pos rfl]; rfl, ⟨ρ, ow, od, nr, h1.says _⟩, zKC.sI s (by decide) _⟩
  · rw [if_pos (bI_eq0.mpr hr), if_neg hr, gI_sI, if_pos rfl, if_neg (by decide)]
    exact ⟨_, rfl, by rw [gI_sI, if_pos rfl]; rfl, ⟨ρ, ow, od, nr, h1.says _⟩, zKC.sI s (by decide) _⟩
theorem M_stress (h : zMs σ md s) (n : Int32) : zMp (F_R_stress n s) () (zTh (S_stress σ n)) (S_stress σ n).2 md s := by
  obtain ⟨ρ, ow, od, nr, h1⟩ := h
  unfold F_R_stress F_R_stress_10 S_stress
  by_cases hn : 0 ≤ n
  · rw [if_pos hn, if_neg (Int32.not_lt.mpr hn)]
    exact ⟨_, rfl, by rw [gI_sI, if_pos rfl]; rfl, ⟨ρ, ow, od, nr, h1.says _⟩, zKC.sI s (by decide) _⟩
  · rw [if_neg hn, if_pos (Int32.not_le.mp hn)]
    exact ⟨_, rfl, by rw [gI_sI, if_pos rfl]; rfl, ⟨ρ, ow, od, nr, h1.says _⟩, zKC.sI s (by decide) _⟩
end ZM1

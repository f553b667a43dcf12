/-! the store's face: roots -/
abbrev zV (r : Int32) : Prop := 0 ≤ r ∧ r < 24
abbrev rN (r : Int32) : Nat := r.toNatClampNeg
theorem zV_nI {r : Int32} (h : zV r) : r = nI (rN r) ∧ rN r < 24 := by
  have h1 : (0 : Int) ≤ r.toInt := by simpa using Int32.le_iff_toInt_le.mp h.1
  have h2 : r.toInt < 24 := by simpa using Int32.lt_iff_toInt_lt.mp h.2
  have h3 : r.toInt = (rN r : Int) := by
    show r.toInt = ((r.toInt.toNat : Nat) : Int)
    omega
  have h4 : rN r < 24 := by omega
  refine ⟨?_, h4⟩
  apply Int32.toInt_inj.mp
  rw [nI_toInt (by omega), h3]
/-- what a root that may be none holds -/
def zH (σ : zSg) (r : Int32) : Nat := if zV r then gR σ (rN r) else 0
abbrev zKy (k : Int64) : Prop := -64 ≤ k ∧ k ≤ 4294967294
def zXf (σ : zSg) (s : zSt) : Prop := gI s 0 = gPK σ ∧ gJ s 0 = gPN σ ∧ gI s 1 = gRK σ ∧ gJ s 1 = gRN σ
def zXr (σ : zSg) (lv : List Nat) (β : Nat → Nat) (π : Nat → List Nat) (nb : Nat) (FL : List Nat) (mk : Nat) (s : zSt) : Prop := zCm σ lv β π nb FL mk s ∧ zXf σ s
/-- the store stands for σ; blocks made, room used -/
def zXs (σ : zSg) (mk rc rl : Nat) (s : zSt) : Prop := ∃ lv β π nb FL, zXr σ lv β π nb FL mk s ∧ zeC (gE s) ≤ rc + 16 * nb ∧ zeL (gE s) ≤ rl + nb
/-- what is the model's stays -/
def zKM (s t : zSt) : Prop := (∀ k, 13 ≤ k → gI t k = gI s k) ∧ (∀ k, 3 ≤ k → gJ t k = gJ s k) ∧ (∀ k, 1 ≤ k → gA t k = gA s k) ∧ ∀ k, 1 ≤ k → gB t k = gB s k
theorem zKM.rf (s : zSt) : zKM s s := ⟨fun _ _ => rfl, fun _ _ => rfl, fun _ _ => rfl, fun _ _ => rfl⟩
theorem zKM.tr {a b c : zSt} (h1 : zKM a b) (h2 : zKM b c) : zKM a c := ⟨fun k hk => (h2.1 k hk).trans (h1.1 k hk), fun k hk => (h2.2.1 k hk).trans (h1.2.1 k hk), fun k hk => (h2.2.2.1 k hk).trans (h1.2.2.1 k hk), fun k hk => (h2.2.2.2 k hk).trans (h1.2.2.2 k hk)⟩
theorem zKM.push (s : zSt) : zKM s (zpush s) := zKM.rf s
theorem zKM.of {s t : zSt} (h : zSame s t) : zKM s t := ⟨fun k hk => h.1 k (by omega), fun k _ => h.2.1 k, fun k _ => h.2.2.1 k, fun k hk => by
  obtain ⟨j, rfl⟩ : ∃ j, k = j + 1 := ⟨k - 1, by omega⟩
  exact h.2.2.2 j⟩
theorem zKM.sI (s : zSt) {k : Nat} (hk : k < 13) (v : Int32) : zKM s (sI s k v) := ⟨fun j hj => by rw [gI_sI, if_neg (by omega)], fun _ _ => rfl, fun _ _ => rfl, fun _ _ => rfl⟩
theorem zKM.sJ (s : zSt) {k : Nat} (hk : k < 3) (v : Int64) : zKM s (sJ s k v) := ⟨fun _ _ => rfl, fun j hj => by rw [gJ_sJ, if_neg (by omega)], fun _ _ => rfl, fun _ _ => rfl⟩
theorem zKM.sA (s : zSt) (f : Nat → Int32) : zKM s (sA s 0 f) := ⟨fun _ _ => rfl, fun _ _ => rfl, fun j hj => by rw [gA_sA, if_neg (by omega)], fun _ _ => rfl⟩
theorem zKM.sW (s : zSt) (b f : Nat) (v : Int64) : zKM s (sW s b f v) := zKM.of (zSame.sW s b f v)
/-- the words and the memory's own numbers are the same: so is all that they say -/
theorem zMm_same {nb : Nat} {FL : List Nat} {mk : Nat} {s t : zSt} (hW : gB t 0 = gB s 0) (hI : ∀ k, 2 ≤ k → k < 5 → gI t k = gI s k) (hN : gN t = gN s) (h : zMm nb FL mk s) : zMm nb FL mk t := by
  obtain ⟨h1, h2, h3, h4, h5, h6⟩ := h
  have hw : ∀ b f, Wd t b f = Wd s b f := fun b f => Wd_of hW b f
  exact ⟨h1, ⟨hN.trans h2.1, h2.2⟩, (hI 2 (by decide) (by decide)).trans h3, ⟨(hI 3 (by decide) (by decide)).trans h4.1, (hI 4 (by decide) (by decide)).trans h4.2.1, zfl_kept (fun _ _ => hw _ _) h4.2.2.1, h4.2.2.2⟩, fun c a b => (hw _ _).trans (h5 c a b), h6⟩
theorem zOA_kept {s t : zSt} {β β2 : Nat → Nat} {b : Nat} {bs : List Nat} {x : zOb} (hW : ∀ c ∈ b :: bs, ∀ f, f < 8 → Wd t c f = Wd s c f) (hβ : β2 (oP x) = β (oP x) ∧ ∀ p ∈ oL x, β2 (kO p) = β (kO p) ∧ β2 (kS p) = β (kS p)) (h : zOA s β b bs x) : zOA t β2 b bs x := by
  obtain ⟨h1, h2, h3, h4, h5⟩ := h
  have hb := hW b List.mem_cons_self
  exact ⟨(hb 1 (by decide)).trans (by rw [hβ.1]; exact h1), (hb 2 (by decide)).trans h2, (hb 3 (by decide)).trans h3, (hb 4 (by decide)).trans h4, zPA_kept (fun c hc => hW c (List.mem_cons_of_mem _ hc)) hβ.2 h5⟩
section ZX
variable {σ : zSg} {lv : List Nat} {β : Nat → Nat} {π : Nat → List Nat} {nb : Nat} {FL : List Nat} {mk : Nat} {s : zSt}
/-- a slot is written -/
theorem zCm.keep (h : zCm σ lv β π nb FL mk s) {i o : Nat} (hi : i < 27) (ho : o = 0 ∨ o ∈ lv) {σ2 : zSg} (h2 : gO σ2 = gO σ) (h3 : ∀ j, gR σ2 j = if j = i then o else gR σ j) : zCm σ2 lv β π nb FL mk (sA s 0 (upd (gA s 0) i (nI (β o)))) := by
  obtain ⟨a1, a2, a3, a4, a5, a6, a7, a8⟩ := h
  refine ⟨zMm_same (s := s) (t := sA s 0 (upd (gA s 0) i (nI (β o)))) rfl (fun _ _ _ => rfl) rfl a1, a2, a3, a4, a5, fun o ho => ?_, fun o ho => ?_, fun j hj => ?_⟩
  · rw [h2]
    exact zOA_kept (s := s) (fun _ _ _ _ => rfl) ⟨rfl, fun _ _ => ⟨rfl, rfl⟩⟩ (a6 o ho)
  · rw [h2]; exact a7 o ho
  · rw [h3 j, gA_sA, if_pos rfl]
    unfold upd
    by_cases hj2 : j = i
    · rw [if_pos hj2, if_pos hj2]
      exact ⟨rfl, ho⟩
    · rw [if_neg hj2, if_neg hj2]
      exact a8 j hj
/-- what is not the memory's changes -/
theorem zCm.other (h : zCm σ lv β π nb FL mk s) {t : zSt} (hW : gB t 0 = gB s 0) (hI : ∀ k, 2 ≤ k → k < 5 → gI t k = gI s k) (hN : gN t = gN s) (hA : gA t 0 = gA s 0) {σ2 : zSg} (h2 : gO σ2 = gO σ) (h3 : gR σ2 = gR σ) : zCm σ2 lv β π nb FL mk t := by
  obtain ⟨a1, a2, a3, a4, a5, a6, a7, a8⟩ := h
  refine ⟨zMm_same hW hI hN a1, a2, a3, a4, a5, fun o ho => ?_, fun o ho => ?_, fun j hj => ?_⟩
  · rw [h2]
    exact zOA_kept (fun _ _ _ _ => Wd_of hW _ _) ⟨rfl, fun _ _ => ⟨rfl, rfl⟩⟩ (a6 o ho)
  · rw [h2]; exact a7 o ho
  · rw [h3, hA]; exact a8 j hj
theorem zCm.pos (h : zCm σ lv β π nb FL mk s) {o : Nat} (ho : o = 0 ∨ o ∈ lv) : nI (β o) = 0 ↔ o = 0 := by
  have hnb := h.ok.2
  rcases ho with e | e
  · rw [e, h.2.2.2.1]; exact ⟨fun _ => rfl, fun _ => rfl⟩
  · have h1 := h.chain e
    have h0 := h.2.2.2.2.1
    exact ⟨fun q => by have := (qI_eq0 (by omega)).mp q; omega, fun q => absurd (q ▸ e) h0⟩
theorem zCm.root (h : zCm σ lv β π nb FL mk s) (r : Int32) : zH σ r = 0 ∨ zH σ r ∈ lv := by
  unfold zH
  split
  · rename_i hv
    exact (h.2.2.2.2.2.2.2 _ (by have := (zV_nI hv).2; omega)).2
  · exact Or.inl rfl
theorem x_need (r : Int32) (s : zSt) : F_X_needRoot r s = if zV r then some (.inl (), s) else some (.inr 0, zpush s) := by
  unfold F_X_needRoot F_X_needRoot_10
  by_cases h1 : r < 0
  · rw [if_pos h1, if_neg (fun q => absurd h1 (Int32.not_lt.mpr q.1))]
  · rw [if_neg h1]
    by_cases h2 : r < 24
    · rw [if_pos h2, if_pos ⟨Int32.not_lt.mp h1, h2⟩]
    · rw [if_neg h2, if_neg (fun q => h2 q.2)]
theorem x_kept (h : zCm σ lv β π nb FL mk s) {i : Nat} (hi : i < 27) : F_M_kept (nI i) s = some (nI (β (gR σ i)), s) := by
  unfold F_M_kept F_M_kept_22 F_M_kept_23
  rw [if_neg (qI_notneg (by omega)), if_neg (fun q => by have := (qI_le (a := 27) (b := i) (by decide) (by omega)).mp q; omega), if_pos (zin_nI' hi (by decide)), nI_clamp (by omega), (h.2.2.2.2.2.2.2 i hi).1]
theorem x_keptr (h : zCm σ lv β π nb FL mk s) {r : Int32} (hr : zV r) : F_M_kept r s = some (nI (β (zH σ r)), s) := by
  obtain ⟨h1, h2⟩ := zV_nI hr
  have h3 := x_kept h (i := rN r) (by omega)
  rw [← h1] at h3
  rw [h3]
  unfold zH
  rw [if_pos hr]
theorem x_keep {i : Nat} (hi : i < 27) (v : Int32) (s : zSt) : F_M_keep (nI i) v s = some ((), sA s 0 (upd (gA s 0) i v)) := by
  unfold F_M_keep F_M_keep_20
  rw [if_neg (qI_notneg (by omega)), if_neg (fun q => by have := (qI_le (a := 27) (b := i) (by decide) (by omega)).mp q; omega), if_pos (zin_nI' hi (by decide)), nI_clamp (by omega)]
theorem x_keepr {r : Int32} (hr : zV r) (v : Int32) (s : zSt) : F_M_keep r v s = some ((), sA s 0 (upd (gA s 0) (rN r) v)) := by
  obtain ⟨h1, h2⟩ := zV_nI hr
  have h3 := x_keep (i := rN r) (by omega) v s
  rw [← h1] at h3
  exact h3
theorem x_held (h : zCm σ lv β π nb FL mk s) (r : Int32) : F_X_held r s = if zH σ r ≠ 0 then some (.inl (nI (β (zH σ r))), s) else some (.inr 0, zpush s) := by
  unfold F_X_held
  rw [x_need]
  by_cases hv : zV r
  · rw [if_pos hv, zt_inl, x_keptr h hv, zb_some]
    by_cases h0 : zH σ r = 0
    · rw [if_pos ((h.pos (h.root r)).mpr h0), if_neg (fun q => q h0)]
    · rw [if_neg (fun q => h0 ((h.pos (h.root r)).mp q)), if_pos h0]
  · rw [if_neg hv, zt_inr, if_neg (show ¬ (zH σ r ≠ 0) from fun q => q (by unfold zH; rw [if_neg hv]))]
theorem x_heldOr (h : zCm σ lv β π nb FL mk s) (r : Int32) : F_X_heldOrNone r s = if r = -1 ∨ zH σ r ≠ 0 then some (.inl (nI (β (zH σ r))), s) else some (.inr 0, zpush s) := by
  unfold F_X_heldOrNone F_X_heldOrNone_14
  by_cases hr : r = -1
  · rw [if_pos hr, if_pos (Or.inl hr)]
    have h0 : zH σ r = 0 := by unfold zH; rw [hr]; rfl
    rw [h0, h.2.2.2.1]
    rfl
  · rw [if_neg hr, x_held h]
    by_cases h0 : zH σ r = 0
    · rw [if_neg (fun q => q h0), zt_inr, if_neg (fun q => q.elim hr (fun z => z h0))]
    · rw [if_pos h0, zt_inl, if_pos (Or.inr h0)]
theorem x_hwk (h : zCm σ lv β π nb FL mk s) (r : Int32) (k : Int64) : F_X_heldWithKey r k s = if zH σ r ≠ 0 ∧ zKy k then some (.inl (nI (β (zH σ r))), s) else some (.inr 0, zpush s) := by
  unfold F_X_heldWithKey F_X_heldWithKey_23
  rw [x_held h]
  by_cases h0 : zH σ r = 0
  · rw [if_neg (fun q => q h0), zt_inr, if_neg (fun q => q.1 h0)]
  · rw [if_pos h0, zt_inl]
    by_cases h1 : k < -64
    · rw [if_pos ((lg_cmp_lt _ _).mpr h1), if_neg (fun q => absurd h1 (Int64.not_lt.mpr q.2.1))]
    · rw [if_neg (fun q => h1 ((lg_cmp_lt _ _).mp q))]
      by_cases h2 : k ≤ 4294967294
      · rw [if_pos ((lg_cmp_le _ _).mpr h2), if_pos ⟨h0, Int64.not_lt.mp h1, h2⟩]
      · rw [if_neg (fun q => h2 ((lg_cmp_le _ _).mp q)), if_neg (fun q => h2 q.2.2)]
theorem x_hwl (h : zCm σ lv β π nb FL mk s) (r k : Int32) : F_X_heldWithLock r k s = if zH σ r ≠ 0 ∧ (0 ≤ k ∧ k ≤ 2) then some (.inl (nI (β (zH σ r))), s) else some (.inr 0, zpush s) := by
  unfold F_X_heldWithLock F_X_heldWithLock_15
  rw [x_held h]
  by_cases h0 : zH σ r = 0
  · rw [if_neg (fun q => q h0), zt_inr, if_neg (fun q => q.1 h0)]
  · rw [if_pos h0, zt_inl]
    by_cases h1 : k < 0
    · rw [if_pos h1, if_neg (fun q => absurd h1 (Int32.not_lt.mpr q.2.1))]
    · rw [if_neg h1]
      by_cases h2 : k ≤ 2
      · rw [if_pos h2, if_pos ⟨h0, Int32.not_lt.mp h1, h2⟩]
      · rw [if_neg h2, if_neg (fun q => h2 q.2.2)]
theorem zXr.push (h : zXr σ lv β π nb FL mk s) : zXr σ lv β π nb FL mk (zpush s) := ⟨h.1.other (t := zpush s) rfl (fun _ _ _ => rfl) rfl rfl rfl rfl, h.2⟩
end ZX
theorem zXs.push {σ : zSg} {mk rc rl : Nat} {s : zSt} (h : zXs σ mk rc rl s) : zXs σ mk (rc + 6) (rl + 1) (zpush s) := by
  obtain ⟨lv, β, π, nb, FL, h1, h2, h3⟩ := h
  exact ⟨lv, β, π, nb, FL, h1.push, by rw [gE_zpush, zeC_push]; omega, by rw [gE_zpush, zeL_push]; omega⟩
theorem zXs.mono {σ : zSg} {mk rc rl mk2 rc2 rl2 : Nat} {s : zSt} (h : zXs σ mk rc rl s) (h1 : mk ≤ mk2) (h2 : rc ≤ rc2) (h3 : rl ≤ rl2) : zXs σ mk2 rc2 rl2 s := by
  obtain ⟨lv, β, π, nb, FL, ⟨⟨⟨a1, a2, a3, a4, a5, a6⟩, hr⟩, hf⟩, g2, g3⟩ := h
  exact ⟨lv, β, π, nb, FL, ⟨⟨⟨a1, a2, a3, a4, a5, by omega⟩, hr⟩, hf⟩, by omega, by omega⟩

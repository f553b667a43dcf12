/-! the store's face: what does not change objects -/
def zR (σ : zSg) (i o : Nat) : zSg := (σ.1, σ.2.1, fun j => if j = i then o else σ.2.2.1 j, σ.2.2.2)
def zRs (σ : zSg) (k : Int32) (n : Int64) (o : Nat) : zSg := (σ.1, σ.2.1, fun j => if j = 25 then o else σ.2.2.1 j, σ.2.2.2.1, σ.2.2.2.2.1, k, n)
def zOp (σ : zSg) (k : Int32) (n : Int64) (o : Nat) : zSg := (σ.1, σ.2.1, fun j => if j = 24 then o else σ.2.2.1 j, k, n, σ.2.2.2.2.2)
/-- a call's answer in the store, by the answer S -/
def zXo {α : Type} (F : Option ((α ⊕ Nat) × zSt)) (S : (α ⊕ Nat) × zSg) (mk rc rl : Nat) (s : zSt) : Prop := ∃ s2, F = some (S.1, s2) ∧ zXs S.2 mk (rc + 6) (rl + 1) s2 ∧ zKM s s2
section ZX2
variable {σ : zSg} {lv : List Nat} {β : Nat → Nat} {π : Nat → List Nat} {nb : Nat} {FL : List Nat} {mk rc rl : Nat} {s : zSt}
theorem zXo.thr {α : Type} {F : Option ((α ⊕ Nat) × zSt)} {x : Nat} (h : zXs σ mk rc rl s) (hF : F = some (.inr x, zpush s)) : zXo F (.inr x, σ) mk rc rl s := ⟨zpush s, hF, h.push, zKM.push s⟩
theorem zXo.ok {α : Type} {F : Option ((α ⊕ Nat) × zSt)} {v : α} {σ2 : zSg} {s2 : zSt} {lv2 : List Nat} {β2 : Nat → Nat} {π2 : Nat → List Nat} (hE : gE s2 = gE s) (h1 : zeC (gE s) ≤ rc + 16 * nb) (h2 : zeL (gE s) ≤ rl + nb) (h : zXr σ2 lv2 β2 π2 nb FL mk s2) (hF : F = some (.inl v, s2)) (hK : zKM s s2) : zXo F (.inl v, σ2) mk rc rl s :=
  ⟨s2, hF, ⟨lv2, β2, π2, nb, FL, h, by rw [hE]; omega, by rw [hE]; omega⟩, hK⟩
def S_copy (σ : zSg) (r q : Int32) : (Unit ⊕ Nat) × zSg := if zV r ∧ (q = -1 ∨ zV q) then (.inl (), zR σ (rN r) (zH σ q)) else (.inr 0, σ)
theorem X_copy (h : zXs σ mk rc rl s) (r q : Int32) : zXo (F_X_copy r q s) (S_copy σ r q) mk rc rl s := by
  obtain ⟨lv, β, π, nb, FL, h1, h2, h3⟩ := id h
  unfold F_X_copy F_X_copy_13 F_X_copy_35 S_copy
  by_cases hr : zV r
  · rw [x_need, if_pos hr, zt_inl]
    by_cases hq : q = -1
    · rw [if_pos hq, if_pos hq, x_keepr hr, zb_some, if_pos ⟨hr, Or.inl hq⟩]
      have h0 : zH σ q = 0 := by unfold zH; rw [hq]; rfl
      refine zXo.ok (lv2 := lv) (β2 := β) (π2 := π) (FL := FL) (s2 := sA s 0 (upd (gA s 0) (rN r) 0)) rfl h2 h3 ⟨?_, h1.2⟩ rfl (zKM.sA _ _)
      have := h1.1.keep (i := rN r) (o := zH σ q) (by have := (zV_nI hr).2; omega) (h1.1.root q) (σ2 := zR σ (rN r) (zH σ q)) rfl (fun _ => rfl)
      rw [h0, h1.1.2.2.2.1] at this
      rw [h0]
      exact this
    · rw [if_neg hq, x_need]
      by_cases hv : zV q
      · rw [if_pos hv, zt_inl, if_neg hq, x_keptr h1.1 hv, zb_some, x_keepr hr, zb_some, if_pos ⟨hr, Or.inr hv⟩]
        exact zXo.ok (s2 := sA s 0 (upd (gA s 0) (rN r) (nI (β (zH σ q))))) rfl h2 h3 ⟨h1.1.keep (by have := (zV_nI hr).2; omega) (h1.1.root q) rfl (fun _ => rfl), h1.2⟩ rfl (zKM.sA _ _)
      · rw [if_neg hv, zt_inr, if_neg (fun z => z.2.elim hq hv)]
        exact zXo.thr h rfl
  · rw [x_need, if_neg hr, zt_inr, if_neg (fun z => hr z.1)]
    exact zXo.thr h rfl
def S_same (σ : zSg) (r q : Int32) : (Int32 ⊕ Nat) × zSg := if zV r ∧ zV q then (.inl (bI (zH σ r = zH σ q)), σ) else (.inr 0, σ)
theorem X_same (h : zXs σ mk rc rl s) (r q : Int32) : zXo (F_X_same r q s) (S_same σ r q) mk rc rl s := by
  obtain ⟨lv, β, π, nb, FL, h1, h2, h3⟩ := id h
  have hnb := h1.1.ok.2
  unfold F_X_same F_X_same_32 S_same
  by_cases hr : zV r
  · rw [x_need, if_pos hr, zt_inl, x_need]
    by_cases hq : zV q
    · rw [if_pos hq, zt_inl, x_keptr h1.1 hr, zb_some, x_keptr h1.1 hq, zb_some, if_pos (show zV r ∧ zV q from ⟨hr, hq⟩)]
      have e : nI (β (zH σ r)) = nI (β (zH σ q)) ↔ zH σ r = zH σ q := ⟨fun z => h1.1.inj (h1.1.root r) (h1.1.root q) (qI_inj (by have := h1.1.live (h1.1.root r); omega) (by have := h1.1.live (h1.1.root q); omega) z), fun z => by rw [z]⟩
      refine zXo.ok (s2 := s) rfl h2 h3 h1 ?_ (zKM.rf s)
      by_cases hz : zH σ r = zH σ q
      · rw [if_pos (e.mpr hz), if_pos z_nar1, bI, if_pos hz]
      · rw [if_neg (fun z => hz (e.mp z)), if_pos z_nar0, bI, if_neg hz]
    · rw [if_neg hq, zt_inr, if_neg (fun z => hq z.2)]
      exact zXo.thr h rfl
  · rw [x_need, if_neg hr, zt_inr, if_neg (fun z => hr z.1)]
    exact zXo.thr h rfl
def S_bits (σ : zSg) : (Int64 ⊕ Nat) × zSg := if gRK σ = 4 then (.inl (gRN σ), σ) else (.inr 1, σ)
theorem X_bits (h : zXs σ mk rc rl s) : zXo (F_X_bits s) (S_bits σ) mk rc rl s := by
  obtain ⟨lv, β, π, nb, FL, h1, h2, h3⟩ := id h
  unfold F_X_bits S_bits
  rw [h1.2.2.2.1, h1.2.2.2.2]
  by_cases hk : gRK σ = 4
  · rw [if_pos hk, if_pos hk]
    exact zXo.ok (s2 := s) rfl h2 h3 h1 rfl (zKM.rf s)
  · rw [if_neg hk, if_neg hk]
    exact zXo.thr h rfl
def S_hold (σ : zSg) (r : Int32) : (Unit ⊕ Nat) × zSg := if zV r then (if gRK σ = 5 then (.inl (), zR σ (rN r) (gR σ 25)) else (.inr 1, σ)) else (.inr 0, σ)
theorem X_hold (h : zXs σ mk rc rl s) (r : Int32) : zXo (F_X_hold r s) (S_hold σ r) mk rc rl s := by
  obtain ⟨lv, β, π, nb, FL, h1, h2, h3⟩ := id h
  unfold F_X_hold S_hold
  rw [x_need]
  by_cases hr : zV r
  · rw [if_pos hr, zt_inl, if_pos hr, h1.2.2.2.1]
    by_cases hk : gRK σ = 5
    · rw [if_pos hk, if_pos hk]
      have e : F_M_kept (25 : Int32) s = some (nI (β (gR σ 25)), s) := x_kept h1.1 (i := 25) (by decide)
      rw [e, zb_some, x_keepr hr, zb_some]
      exact zXo.ok (s2 := sA s 0 (upd (gA s 0) (rN r) (nI (β (gR σ 25))))) rfl h2 h3 ⟨h1.1.keep (by have := (zV_nI hr).2; omega) (h1.1.2.2.2.2.2.2.2 25 (by decide)).2 rfl (fun _ => rfl), h1.2⟩ rfl (zKM.sA _ _)
    · rw [if_neg hk, if_neg hk]
      exact zXo.thr h rfl
  · rw [if_neg hr, zt_inr, if_neg hr]
    exact zXo.thr h rfl
def S_stress (σ : zSg) (n : Int32) : (Unit ⊕ Nat) × zSg := if 0 ≤ n then (.inl (), σ) else (.inr 0, σ)
theorem X_stress (h : zXs σ mk rc rl s) (n : Int32) : zXo (F_X_stress n s) (S_stress σ n) mk rc rl s := by
  obtain ⟨lv, β, π, nb, FL, h1, h2, h3⟩ := id h
  unfold F_X_stress F_M_collectBeforeEach S_stress
  by_cases hn : 0 ≤ n
  · rw [if_pos hn, if_pos hn, zb_some]
    refine zXo.ok (s2 := sI (sI s 5 n) 6 0) rfl h2 h3 ⟨h1.1.other (t := sI (sI s 5 n) 6 0) rfl (fun k a b => by rw [gI_sI, gI_sI, if_neg (by omega), if_neg (by omega)]) rfl rfl rfl rfl, ?_⟩ rfl ((zKM.sI s (by decide) n).tr (zKM.sI _ (by decide) 0))
    exact ⟨by simp [zb_some, zt_inl, zt_inr, zc_inl, zc_inr, gI_sI, gJ_sJ, gA_sA, gB_sB, gI_sJ, gI_sA, gI_sB, gI_sN, gI_sE, gJ_sI, gJ_sA, gJ_sB, gJ_sN, gJ_sE, gA_sI, gA_sJ, gA_sB, gA_sN, gA_sE, gB_sI, gB_sJ, gB_sA, gB_sN, gB_sE, gN_sI, gN_sJ, gN_sA, gN_sB, gN_sN, gN_sE, gE_sI, gE_sJ, gE_sA, gE_sB, gE_sN, gE_sE, gI_zpush, gJ_zpush, gA_zpush, gB_zpush, gN_zpush, gE_zpush, h1.2.1], by simp [zb_some, zt_inl, zt_inr, zc_inl, zc_inr, gI_sI, gJ_sJ, gA_sA, gB_sB, gI_sJ, gI_sA, gI_sB, gI_sN, gI_sE, gJ_sI, gJ_sA, gJ_sB, gJ_sN, gJ_sE, gA_sI, gA_sJ, gA_sB, gA_sN, gA_sE, gB_sI, gB_sJ, gB_sA, gB_sN, gB_sE, gN_sI, gN_sJ, gN_sA, gN_sB, gN_sN, gN_sE, gE_sI, gE_sJ, gE_sA, gE_sB, gE_sN, gE_sE, gI_zpush, gJ_zpush, gA_zpush, gB_zpush, gN_zpush, gE_zpush, h1.2.2.1], by simp [zb_some, zt_inl, zt_inr, zc_inl, zc_inr, gI_sI, gJ_sJ, gA_sA, gB_sB, gI_sJ, gI_sA, gI_sB, gI_sN, gI_sE, gJ_sI, gJ_sA, gJ_sB, gJ_sN, gJ_sE, gA_sI, gA_sJ, gA_sB, gA_sN, gA_sE, gB_sI, gB_sJ, gB_sA, gB_sN, gB_sE, gN_sI, gN_sJ, gN_sA, gN_sB, gN_sN, gN_sE, gE_sI, gE_sJ, gE_sA, gE_sB, gE_sN, gE_sE, gI_zpush, gJ_zpush, gA_zpush, gB_zpush, gN_zpush, gE_zpush, h1.2.2.2.1], by simp [zb_some, zt_inl, zt_inr, zc_inl, zc_inr, gI_sI, gJ_sJ, gA_sA, gB_sB, gI_sJ, gI_sA, gI_sB, gI_sN, gI_sE, gJ_sI, gJ_sA, gJ_sB, gJ_sN, gJ_sE, gA_sI, gA_sJ, gA_sB, gA_sN, gA_sE, gB_sI, gB_sJ, gB_sA, gB_sN, gB_sE, gN_sI, gN_sJ, gN_sA, gN_sB, gN_sN, gN_sE, gE_sI, gE_sJ, gE_sA, gE_sB, gE_sN, gE_sE, gI_zpush, gJ_zpush, gA_zpush, gB_zpush, gN_zpush, gE_zpush, h1.2.2.2.2]⟩
  · rw [if_neg hn, if_neg hn]
    exact zXo.thr h rfl
/-- the numbers that are not a number are one -/
def zNan (b : Int64) : Int64 := if b &&& 9218868437227405312 = 9218868437227405312 ∧ b &&& 4503599627370495 ≠ 0 then 9221120237041090560 else b
theorem n_nan (b : Int64) (s : zSt) : F_N_withOneNaN b s = some (zNan b, s) := by
  unfold F_N_withOneNaN F_N_withOneNaN_26 F_N_withOneNaN_27 F_N_withOneNaN_39 zNan
  by_cases h1 : b &&& 9218868437227405312 = 9218868437227405312
  · rw [if_pos ((lg_cmp_eq _ _).mpr h1)]
    by_cases h2 : b &&& 4503599627370495 = 0
    · rw [if_pos ((lg_cmp_eq _ _).mpr h2), if_pos rfl, if_neg (fun z => z.2 h2)]
    · rw [if_neg (fun z => h2 ((lg_cmp_eq _ _).mp z)), if_neg (by decide), if_pos ⟨h1, h2⟩]
  · rw [if_neg (fun z => h1 ((lg_cmp_eq _ _).mp z)), if_pos rfl, if_neg (fun z => h1 z.1)]
/-- a root's number as bits -/
def zHb (σ : zSg) (b : Int64) : Nat := if 0 ≤ b ∧ b < 24 then zH σ b.toInt32 else 0
def S_operand (σ : zSg) (k : Int32) (b : Int64) : (Unit ⊕ Nat) × zSg := if (0 ≤ k ∧ k ≤ 5) ∧ (k = 5 → zHb σ b ≠ 0) then (.inl (), zOp σ k (if k = 4 then zNan b else 0) (if k = 5 then zHb σ b else 0)) else (.inr 0, σ)
theorem X_operand (h : zXs σ mk rc rl s) (k : Int32) (b : Int64) : zXo (F_X_operand k b s) (S_operand σ k b) mk rc rl s := by
  obtain ⟨lv, β, π, nb, FL, h1, h2, h3⟩ := id h
  have fin : ∀ o : Nat, (o = 0 ∨ o ∈ lv) → zXo (F_X_operand_53 k b (nI (β o)) s) (.inl (), zOp σ k (if k = 4 then zNan b else 0) o) mk rc rl s := by
    intro o ho
    have e : ∀ (x : Int32) (s : zSt), F_M_keep (24 : Int32) x s = some ((), sA s 0 (upd (gA s 0) 24 x)) := fun x s => x_keep (i := 24) (by decide) x s
    unfold F_X_operand_53 F_X_operand_72
    have g : ∀ n : Int64, zXr (zOp σ k n o) lv β π nb FL mk (sA (sJ (sI s 0 k) 0 n) 0 (upd (gA s 0) 24 (nI (β o)))) := by
      intro n
      have h5 : zCm σ lv β π nb FL mk (sJ (sI s 0 k) 0 n) := h1.1.other (t := sJ (sI s 0 k) 0 n) rfl (fun j a c => by rw [gI_sJ, gI_sI, if_neg (by omega)]) rfl rfl rfl rfl
      exact ⟨h5.keep (i := 24) (by decide) ho rfl (fun _ => rfl), by simp [zb_some, zt_inl, zt_inr, zc_inl, zc_inr, gI_sI, gJ_sJ, gA_sA, gB_sB, gI_sJ, gI_sA, gI_sB, gI_sN, gI_sE, gJ_sI, gJ_sA, gJ_sB, gJ_sN, gJ_sE, gA_sI, gA_sJ, gA_sB, gA_sN, gA_sE, gB_sI, gB_sJ, gB_sA, gB_sN, gB_sE, gN_sI, gN_sJ, gN_sA, gN_sB, gN_sN, gN_sE, gE_sI, gE_sJ, gE_sA, gE_sB, gE_sN, gE_sE, gI_zpush, gJ_zpush, gA_zpush, gB_zpush, gN_zpush, gE_zpush, gPK, zOp], by simp [zb_some, zt_inl, zt_inr, zc_inl, zc_inr, gI_sI, gJ_sJ, gA_sA, gB_sB, gI_sJ, gI_sA, gI_sB, gI_sN, gI_sE, gJ_sI, gJ_sA, gJ_sB, gJ_sN, gJ_sE, gA_sI, gA_sJ, gA_sB, gA_sN, gA_sE, gB_sI, gB_sJ, gB_sA, gB_sN, gB_sE, gN_sI, gN_sJ, gN_sA, gN_sB, gN_sN, gN_sE, gE_sI, gE_sJ, gE_sA, gE_sB, gE_sN, gE_sE, gI_zpush, gJ_zpush, gA_zpush, gB_zpush, gN_zpush, gE_zpush, gPN, zOp], by simp [zb_some, zt_inl, zt_inr, zc_inl, zc_inr, gI_sI, gJ_sJ, gA_sA, gB_sB, gI_sJ, gI_sA, gI_sB, gI_sN, gI_sE, gJ_sI, gJ_sA, gJ_sB, gJ_sN, gJ_sE, gA_sI, gA_sJ, gA_sB, gA_sN, gA_sE, gB_sI, gB_sJ, gB_sA, gB_sN, gB_sE, gN_sI, gN_sJ, gN_sA, gN_sB, gN_sN, gN_sE, gE_sI, gE_sJ, gE_sA, gE_sB, gE_sN, gE_sE, gI_zpush, gJ_zpush, gA_zpush, gB_zpush, gN_zpush, gE_zpush, h1.2.2.2.1, gRK, zOp], by simp [zb_some, zt_inl, zt_inr, zc_inl, zc_inr, gI_sI, gJ_sJ, gA_sA, gB_sB, gI_sJ, gI_sA, gI_sB, gI_sN, gI_sE, gJ_sI, gJ_sA, gJ_sB, gJ_sN, gJ_sE, gA_sI, gA_sJ, gA_sB, gA_sN, gA_sE, gB_sI, gB_sJ, gB_sA, gB_sN, gB_sE, gN_sI, gN_sJ, gN_sA, gN_sB, gN_sN, gN_sE, gE_sI, gE_sJ, gE_sA, gE_sB, gE_sN, gE_sE, gI_zpush, gJ_zpush, gA_zpush, gB_zpush, gN_zpush, gE_zpush, h1.2.2.2.2, gRN, zOp]⟩
    by_cases hk : k = 4
    · rw [if_pos hk, n_nan, zb_some, e, zb_some, if_pos hk]
      exact zXo.ok (s2 := sA (sJ (sI s 0 k) 0 (zNan b)) 0 (upd (gA s 0) 24 (nI (β o)))) rfl h2 h3 (g _) rfl (((zKM.sI s (k := 0) (by decide) k).tr (zKM.sJ _ (k := 0) (by decide) _)).tr (zKM.sA _ _))
    · rw [if_neg hk, e, zb_some, if_neg hk]
      exact zXo.ok (s2 := sA (sJ (sI s 0 k) 0 0) 0 (upd (gA s 0) 24 (nI (β o)))) rfl h2 h3 (g _) rfl (((zKM.sI s (k := 0) (by decide) k).tr (zKM.sJ _ (k := 0) (by decide) _)).tr (zKM.sA _ _))
  unfold F_X_operand F_X_operand_9 F_X_operand_47 F_X_operand_48 S_operand
  by_cases k1 : k < 0
  · rw [if_pos k1, if_neg (fun z => absurd k1 (Int32.not_lt.mpr z.1.1))]
    exact zXo.thr h rfl
  · rw [if_neg k1]
    by_cases k2 : k ≤ 5
    · rw [if_pos k2]
      by_cases k5 : k = 5
      · rw [if_pos k5, x_held h1.1, x_held h1.1]
        have hm : ¬ (zH σ (-1) ≠ 0) := fun z => z (by unfold zH; rfl)
        rw [if_neg hm, zt_inr]
        by_cases b1 : b < 0
        · rw [if_pos ((lg_cmp_lt _ _).mpr b1), if_neg (fun z => z.2 k5 (by unfold zHb; rw [if_neg (fun y => absurd b1 (Int64.not_lt.mpr y.1))]))]
          exact zXo.thr h rfl
        · rw [if_neg (fun z => b1 ((lg_cmp_lt _ _).mp z))]
          by_cases b2 : 24 ≤ b
          · rw [if_pos ((lg_cmp_ge _ _).mpr b2), if_neg (fun z => z.2 k5 (by unfold zHb; rw [if_neg (fun y => absurd y.2 (Int64.not_lt.mpr b2))]))]
            exact zXo.thr h rfl
          · rw [if_neg (fun z => b2 ((lg_cmp_ge _ _).mp z))]
            have hb : zHb σ b = zH σ b.toInt32 := by unfold zHb; rw [if_pos ⟨Int64.not_lt.mp b1, Int64.not_le.mp b2⟩]
            rw [hb]
            by_cases h0 : zH σ b.toInt32 = 0
            · rw [if_neg (fun z => z h0), zt_inr, if_neg (fun z => z.2 k5 h0)]
              exact zXo.thr h rfl
            · rw [if_pos h0, zt_inl, if_pos ⟨⟨Int32.not_lt.mp k1, k2⟩, fun _ => h0⟩, if_pos k5]
              exact fin _ (h1.1.root _)
      · rw [if_neg k5, if_pos ⟨⟨Int32.not_lt.mp k1, k2⟩, fun z => absurd z k5⟩, if_neg k5]
        have := fin 0 (Or.inl rfl)
        rw [h1.1.2.2.2.1] at this
        exact this
    · rw [if_neg k2, if_neg (fun z => k2 z.1.2)]
      exact zXo.thr h rfl
end ZX2

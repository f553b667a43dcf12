/-! the model: reading calls -/
theorem zFl_bits : ∀ f ∈ zFd ++ zFa, ∀ m ∈ [(2 : Int32), 16, 32, 64], (f &&& m = m ↔ f &&& m ≠ 0) := by decide
theorem zWp.fl {p : zPr} (h : zWp p) : kF p ∈ zFd ++ zFa := by
  rw [List.mem_append]
  exact h.2.imp (fun q => q.1) (fun q => q.1)
theorem zWp.bit {p : zPr} (h : zWp p) {m : Int32} (hm : m ∈ [(2 : Int32), 16, 32, 64]) : kF p &&& m = m ↔ kF p &&& m ≠ 0 := zFl_bits _ h.fl m hm
theorem zFd_no : ∀ f ∈ zFd, f &&& 64 = 0 := by decide
theorem zFa_acc : ∀ f ∈ zFa, f &&& 64 ≠ 0 := by decide
theorem zWp.data {p : zPr} (h : zWp p) (ha : kF p &&& 64 = 0) : kS p = 0 ∧ zWv (kD p) (kN p) (kO p) := by
  rcases h.2 with q | q
  · exact q.2
  · exact absurd ha (zFa_acc _ q.1)
theorem zWp.acc {p : zPr} (h : zWp p) (ha : kF p &&& 64 ≠ 0) : kN p = 0 ∧ kD p = if kO p = 0 then 0 else 5 := by
  rcases h.2 with q | q
  · exact absurd (zFd_no _ q.1) ha
  · exact q.2
theorem zRs_rs (σ : zSg) (a k : Int32) (b n : Int64) (c o : Nat) : zRs (zRs σ a b c) k n o = zRs σ k n o := by
  show (σ.1, σ.2.1, (fun j => if j = 25 then o else (if j = 25 then c else σ.2.2.1 j)), σ.2.2.2.1, σ.2.2.2.2.1, k, n) = (σ.1, σ.2.1, (fun j => if j = 25 then o else σ.2.2.1 j), σ.2.2.2.1, σ.2.2.2.2.1, k, n)
  have : (fun j => if j = 25 then o else (if j = 25 then c else σ.2.2.1 j)) = (fun j => if j = 25 then o else σ.2.2.1 j) := by
    funext j
    by_cases h : j = 25
    · rw [if_pos h, if_pos h]
    · rw [if_neg h, if_neg h, if_neg h]
  rw [this]
theorem zWv0 : zWv 0 0 0 := ⟨by decide, fun _ => rfl, fun _ => rfl, fun q => absurd q (by decide)⟩
section ZM3
variable {σ : zSg} {ρ : Nat → List Nat} {ow od : Nat → Nat} {nr md : Nat} {s : zSt}
theorem m_hk {α : Type} (h : zMo σ ρ ow od nr md s) (hW : zWf σ) (r : Int32) (k : Int64) (G : Int32 → zSt → Option (α × zSt)) : (zb (F_R_holds r s) fun v1 s2 => if v1 = 0 then G 0 s2 else zb (F_R_isKey k s2) fun v3 s4 => if v3 = 0 then G 0 s4 else G 1 s4) = G (bI (zH σ r ≠ 0 ∧ zKy k)) s := by
  rw [m_holds h hW, zb_some]
  by_cases h1 : zH σ r ≠ 0
  · rw [if_neg (fun q => bI_eq0.mp q h1), m_isKey, zb_some]
    by_cases h2 : zKy k
    · rw [if_neg (fun q => bI_eq0.mp q h2), bI_t ⟨h1, h2⟩]
    · rw [if_pos (bI_eq0.mpr h2), bI_f (fun q => h2 q.2)]
  · rw [if_pos (bI_eq0.mpr h1), bI_f (fun q => h1 q.1)]
theorem zH_V {σ : zSg} {r : Int32} (h : zH σ r ≠ 0) : zV r := by
  unfold zH at h
  by_cases hv : zV r
  · exact hv
  · rw [if_neg hv] at h; exact absurd rfl h
/-- a row's value is given as the result -/
theorem m_give (h : zMo (zRs σ 0 0 0) ρ ow od nr md s) {p : zPr} (hp : zWp p) : zMo (zRs σ (kD p) (kN p) (kO p)) ρ ow od nr md (if kF p &&& 64 = 0 then sJ (sI s 18 (kD p)) 4 (if kD p = 4 ∨ kD p = 5 then zBt (kD p) (kN p) (kO p) else 0) else if kO p = 0 then s else sJ (sI s 18 5) 4 (if (5 : Int32) = 4 ∨ (5 : Int32) = 5 then nL (kO p) else 0)) := by
  by_cases ha : kF p &&& 64 = 0
  · rw [if_pos ha]
    have := h.res (kD p) (kN p) (kO p) (hp.data ha).2
    rw [zRs_rs] at this
    exact this
  · rw [if_neg ha]
    obtain ⟨e1, e2⟩ := hp.acc ha
    by_cases h0 : kO p = 0
    · rw [if_pos h0, e1, e2, if_pos h0, h0]; exact h
    · rw [if_neg h0, e1, e2, if_neg h0]
      have := h.res 5 0 (kO p) ⟨by decide, fun _ => rfl, fun q => absurd rfl q, fun _ => h0⟩
      rw [zRs_rs] at this
      exact this
theorem zKC.ite {c : Prop} [Decidable c] {s a b : zSt} (h1 : zKC s a) (h2 : zKC s b) : zKC s (if c then a else b) := by
  by_cases h : c
  · rw [if_pos h]; exact h1
  · rw [if_neg h]; exact h2
theorem m_say_t {c : Prop} [Decidable c] (h : c) (s : zSt) : F_R_says (bI c) s = some (1, sI s 13 0) := by rw [m_says, if_pos h, bI_t h]
theorem m_say_f {c : Prop} [Decidable c] (h : ¬ c) (s : zSt) : F_R_says (bI c) s = some (0, sI s 13 1) := by rw [m_says, if_neg h, bI_f h]
theorem zRi_some (i : Nat) : zRi (some i) = nI i := rfl
theorem zRi_none : ¬ ((0 : Int32) ≤ zRi none) := by decide
theorem zRi_neg : zRi none < 0 := by decide
theorem z_one : ¬ ((1 : Int32) = 0) := by decide
theorem M_get (h : zMs σ md s) (hW : zWf σ) (r : Int32) (k : Int64) : zMp (F_R_get r k s) (zVl 0 (S_get σ r k)) (zTh (S_get σ r k)) (S_get σ r k).2 md s := by
  obtain ⟨ρ, ow, od, nr, h1⟩ := h
  have hnr := h1.1.2.2.2
  have hw := hW.2.1
  have e0 : F_R_get r k s = F_R_get_21 r k (bI (zH σ r ≠ 0 ∧ zKy k)) s := m_hk h1 hW r k (fun y s => F_R_get_21 r k y s)
  rw [e0]
  unfold F_R_get_21 S_get
  by_cases hc : zH σ r ≠ 0 ∧ zKy k
  · rw [m_say_t hc, zb_some, if_neg z_one, if_pos hc]
    have hv := zH_V hc.1
    have h2 := h1.says 0
    have ht : gI (sI s 13 0) 13 = 0 := by rw [gI_sI, if_pos rfl]
    have hk0 : zKC s (sI s 13 0) := zKC.sI s (by decide) _
    generalize sI s 13 0 = s4 at h2 ht hk0 ⊢
    rw [if_pos (zin_rt hv), h2.root hv, m_lookUp h2 hW k (by omega) (hW.root r), zb_some, m_result, zb_some]
    have h3 := h2.res 0 0 0 zWv0
    have hk3 : zKC s (sJ (sI s4 18 0) 4 (if (0 : Int32) = 4 ∨ (0 : Int32) = 5 then zBt 0 0 0 else 0)) := hk0.tr ((zKC.sI s4 (by decide) _).tr (zKC.sJ _ (by decide) _))
    have ht3 : gI (sJ (sI s4 18 0) 4 (if (0 : Int32) = 4 ∨ (0 : Int32) = 5 then zBt 0 0 0 else 0)) 13 = 0 := by rw [gI_sJ, gI_sI, if_neg (by decide)]; exact ht
    have es : sJ (sI s4 18 0) 4 (if (0 : Int32) = 4 ∨ (0 : Int32) = 5 then 0 else 0) = sJ (sI s4 18 0) 4 (if (0 : Int32) = 4 ∨ (0 : Int32) = 5 then zBt 0 0 0 else 0) := rfl
    rw [es]
    generalize sJ (sI s4 18 0) 4 (if (0 : Int32) = 4 ∨ (0 : Int32) = 5 then zBt 0 0 0 else 0) = s8 at h3 hk3 ht3
    have hat := zLr_at h2 hW k 600 (zH σ r) (hW.root r)
    have hat3 := zLr_at h3 (σ := zRs σ 0 0 0) (by
      obtain ⟨w1, w2, w3, w4, w5, w6, w7⟩ := hW
      refine ⟨w1, w2, fun i hi => ?_, w4, ?_, ?_, ?_⟩
      · show (if i = 25 then 0 else gR σ i) < gn σ
        split
        · exact w1
        · exact w3 i hi
      · exact w5
      · exact zWv0
      · exact w7) k 600 (zH σ r) (hW.root r)
    have eL : ∀ n o, zLu (zRs σ 0 0 0) k n o = zLu σ k n o := by
      intro n
      induction n with
      | zero => intro o; rfl
      | succ n ih => intro o; rw [zLu, zLu]; rw [show gO (zRs σ 0 0 0) = gO σ from rfl]; rw [ih]
    have eR : ∀ n o, zLr (zRs σ 0 0 0) ρ k n o = zLr σ ρ k n o := by
      intro n
      induction n with
      | zero => intro o; rfl
      | succ n ih => intro o; rw [zLr, zLr]; rw [show gO (zRs σ 0 0 0) = gO σ from rfl]; rw [ih]
    rw [eL, eR] at hat3
    rcases hat3 with ⟨q1, q2⟩ | ⟨p, i, q1, q2, q3, q4, q5, q6, q7⟩
    · rw [q1, q2, if_neg (show ¬ ((0 : Int32) ≤ zRi none) by decide)]
      refine ⟨s8, ?_, ht3, ⟨ρ, ow, od, nr, h3⟩, hk3⟩
      rfl
    · rw [q1, q2, zRi_some, Option.getD_some]
      have hi : i < 8400 := by omega
      have q6 : kO p < gn σ := q6
      have hiz : zin (nI i) 8400 := zin_nI' hi (by decide)
      have c8 : gA s8 8 (nI i).toNatClampNeg = gA s8 8 i := by rw [nI_clamp (by omega)]
      have c2 : gB s8 2 (nI i).toNatClampNeg = gB s8 2 i := by rw [nI_clamp (by omega)]
      have c9 : gA s8 9 (nI i).toNatClampNeg = gA s8 9 i := by rw [nI_clamp (by omega)]
      rw [if_pos (qI_nonneg (by omega)), m_has hi q4, zb_some, if_pos hiz, if_pos hiz, if_pos hiz, if_pos hiz]
      have hg := m_give h3 q5
      refine ⟨_, ?_, ?_, ⟨ρ, ow, od, nr, hg⟩, hk3.tr (zKC.ite ((zKC.sI s8 (by decide) _).tr (zKC.sJ _ (by decide) _)) (zKC.ite (zKC.rf s8) ((zKC.sI s8 (by decide) _).tr (zKC.sJ _ (by decide) _))))⟩
      · show _ = some (bI (kF p &&& 64 ≠ 0 ∧ kD p = 5), _)
        by_cases ha : kF p &&& 64 = 0
        · rw [if_pos (bI_eq0.mpr (fun z => (q5.bit (by simp)).mp z ha)), c8, c2, q4.2.2.1, q4.2.2.2.1, if_pos ha, if_pos ha, m_result, zb_some, if_pos ha, bI_f (fun z => z.1 ha)]
        · have he := q5.acc ha
          rw [if_neg (fun z => bI_eq0.mp z ((q5.bit (by simp)).mpr ha)), c9, q4.2.2.2.2.1, if_neg ha, if_neg ha]
          by_cases h0 : kO p = 0
          · rw [if_pos ((qI_eq0 (by omega)).mpr h0), if_pos h0, bI_f (fun z => by
              rw [he.2, if_pos h0] at z
              exact absurd z.2 (by decide))]
          · rw [if_neg (fun z => h0 ((qI_eq0 (by omega)).mp z)), if_neg h0, m_result, zb_some, qI_long (by omega), bI_t ⟨ha, by rw [he.2, if_neg h0]⟩]
      · split
        · rw [gI_sJ, gI_sI, if_neg (by decide)]; exact ht3
        · split
          · exact ht3
          · rw [gI_sJ, gI_sI, if_neg (by decide)]; exact ht3
  · rw [m_say_f hc, zb_some, if_pos rfl, if_neg hc]
    exact ⟨_, rfl, by rw [gI_sI, if_pos rfl]; rfl, ⟨ρ, ow, od, nr, h1.says _⟩, zKC.sI s (by decide) _⟩
end ZM3

/-! the free blocks; sweeping, widening, making -/
def zfl (s : zSt) : List Nat → Prop
  | [] => True
  | b :: r => Wd s b 1 = nL (r.headD 0) ∧ zfl s r
def zFr (nb : Nat) (FL : List Nat) (s : zSt) : Prop := gI s 3 = nI (FL.headD 0) ∧ gI s 4 = nI FL.length ∧ zfl s FL ∧ FL.Nodup ∧ ∀ b ∈ FL, 1 ≤ b ∧ b ≤ nb
theorem zfl_kept {s t : zSt} {l : List Nat} (h : ∀ b ∈ l, Wd t b 1 = Wd s b 1) (hl : zfl s l) : zfl t l := by
  induction l with
  | nil => trivial
  | cons b r ih => exact ⟨(h b List.mem_cons_self).trans hl.1, ih (fun c hc => h c (List.mem_cons_of_mem _ hc)) hl.2⟩
theorem zFr_hd {nb : Nat} {FL : List Nat} {s : zSt} (h : zFr nb FL s) (hnb : nb ≤ 1024) : FL.headD 0 ≤ nb ∧ FL.length ≤ nb := by
  refine ⟨?_, zl_bound h.2.2.2.1 h.2.2.2.2⟩
  cases FL with
  | nil => exact Nat.zero_le _
  | cons b r => exact (h.2.2.2.2 b List.mem_cons_self).2
theorem z_release {nb : Nat} {FL : List Nat} {s : zSt} (hok : zOk nb s) (hF : zFr nb FL s) {b : Nat} (hb1 : 1 ≤ b) (hb2 : b ≤ nb) (hb3 : b ∉ FL) :
    ∃ s2, F_M_release (nI b) s = some ((), s2) ∧ zOk nb s2 ∧ zSame s s2 ∧ gE s2 = gE s ∧ gI s2 2 = gI s 2 ∧ zFr nb (b :: FL) s2 ∧ ∀ c f, f < 8 → ¬ (c = b ∧ f = 1) → Wd s2 c f = Wd s c f := by
  have hnb := hok.2
  obtain ⟨g1, g2⟩ := zFr_hd hF hnb
  obtain ⟨f1, f2, f3, f4, f5⟩ := hF
  unfold F_M_release
  rw [zsw1 hok hb2, zb_some, f1, qI_long (by omega)]
  have hWd : ∀ c f, f < 8 → Wd (sI (sI (sW s b 1 (nL (FL.headD 0))) 3 (nI b)) 4 (gI (sI (sW s b 1 (nL (FL.headD 0))) 3 (nI b)) 4 + 1)) c f = if c = b ∧ f = 1 then nL (FL.headD 0) else Wd s c f := fun c f hf => by
    rw [← Wd_sW (s := s) (v := nL (FL.headD 0)) (show b ≠ 0 by omega) (by decide) hf]
    rfl
  refine ⟨_, rfl, zOk_sW hok _ _ _, (zSame.sW s b 1 _).tr ((zSame.sI _ ⟨by decide, by decide⟩ _).tr (zSame.sI _ ⟨by decide, by decide⟩ _)), sW_E _ _ _ _, ?_, ?_, fun c f hf hne => by rw [hWd c f hf, if_neg hne]⟩
  · simp only [gI_sI]
    exact sW_I _ _ _ _ _
  · refine ⟨?_, ?_, ⟨?_, ?_⟩, List.nodup_cons.mpr ⟨hb3, f4⟩, ?_⟩
    · simp only [gI_sI]
      rfl
    · simp only [gI_sI, sW_I, f2]
      show nI FL.length + 1 = nI (FL.length + 1)
      exact (nI_succ _).symm
    · rw [hWd b 1 (by decide), if_pos ⟨rfl, rfl⟩]
    · refine zfl_kept (fun c hc => ?_) f3
      rw [hWd c 1 (by decide), if_neg (show ¬ (c = b ∧ 1 = 1) from fun q => hb3 (by rw [← q.1]; exact hc))]
    · intro c hc
      rcases List.mem_cons.mp hc with e | e
      · rw [e]; exact ⟨hb1, hb2⟩
      · exact f5 c e
/-- blocks above k are swept -/
def zSw (nb : Nat) (s1 : zSt) (k : Nat) (FL : List Nat) (s : zSt) : Prop := zOk nb s ∧ zSame s1 s ∧ gE s = gE s1 ∧ gI s 2 = gI s1 2 ∧ zFr nb FL s ∧ (∀ c, c ∈ FL ↔ k < c ∧ c ≤ nb ∧ Wd s1 c 0 = 0) ∧ (∀ c, k < c → c ≤ nb → Wd s c 0 = 0) ∧ (∀ c f, f < 8 → (c ≤ k ∨ (1 ≤ f ∧ Wd s1 c 0 ≠ 0)) → Wd s c f = Wd s1 c f)
theorem z_swp {nb : Nat} {s1 : zSt} : ∀ (k n : Nat) (FL : List Nat) (s : zSt), k < n → k ≤ nb → zSw nb s1 k FL s → ∃ s2 FL2, F_M_sweep_15 n (nI k) s = some ((), s2) ∧ zSw nb s1 0 FL2 s2 := by
  intro k
  induction k with
  | zero =>
    intro n FL s hn hk hS
    obtain ⟨m, rfl⟩ : ∃ m, n = m + 1 := ⟨n - 1, by omega⟩
    refine ⟨s, FL, ?_, hS⟩
    rw [F_M_sweep_15, if_pos (by decide)]
  | succ k ih =>
    intro n FL s hn hk hS
    obtain ⟨m, rfl⟩ : ∃ m, n = m + 1 := ⟨n - 1, by omega⟩
    obtain ⟨h1, h2, h3, h4, h5, h6, h7, h8⟩ := hS
    have hnb := h1.2
    have hgt : ¬ (nI (k + 1) ≤ 0) := fun q => by
      have := (qI_le (a := k + 1) (b := 0) (by omega) (by decide)).mp q
      omega
    have hdec : nI (k + 1) + (-1) = nI k := by
      have e : nI (k + 1) + (-1) = nI (k + 1) - nI 1 := by rw [Int32.sub_eq_add_neg]; rfl
      rw [e, qI_sub (by omega)]
      rfl
    rw [F_M_sweep_15, if_neg hgt, zw0 h1 hk, zb_some]
    have hsame0 : Wd s (k + 1) 0 = Wd s1 (k + 1) 0 := h8 _ _ (by decide) (Or.inl (Nat.le_refl _))
    by_cases hm : Wd s (k + 1) 0 = 0
    · rw [if_pos ((lg_cmp_eq _ _).mpr hm)]
      obtain ⟨s2, k1, k2, k3, k4, k5, k6, k7⟩ := z_release h1 h5 (by omega) hk (fun q => by have := (h6 _).mp q; omega)
      rw [k1, zb_some]
      unfold F_M_sweep_45
      rw [hdec]
      refine ih m ((k + 1) :: FL) s2 (by omega) (by omega) ⟨k2, h2.tr k3, k4.trans h3, k5.trans h4, k6, fun c => ?_, fun c hc1 hc2 => ?_, fun c f hf hc => ?_⟩
      · rw [List.mem_cons, h6]
        constructor
        · rintro (e | e)
          · rw [e]; exact ⟨by omega, hk, hsame0 ▸ hm⟩
          · exact ⟨by omega, e.2⟩
        · rintro ⟨e1, e2, e3⟩
          by_cases hck : c = k + 1
          · exact Or.inl hck
          · exact Or.inr ⟨by omega, e2, e3⟩
      · rw [k7 c 0 (by decide) (by omega)]
        by_cases hck : c = k + 1
        · rw [hck]; exact hm
        · exact h7 c (by omega) hc2
      · rw [k7 c f hf (fun q => by
          rcases hc with e | e
          · omega
          · exact e.2 (by rw [q.1, ← hsame0]; exact hm))]
        exact h8 c f hf (hc.imp (fun e => by omega) id)
    · rw [if_neg (fun e => hm ((lg_cmp_eq _ _).mp e)), zsw0 h1 hk, zb_some]
      unfold F_M_sweep_45
      rw [hdec]
      have hWd : ∀ c f, f < 8 → Wd (sW s (k + 1) 0 0) c f = if c = k + 1 ∧ f = 0 then 0 else Wd s c f := fun c f hf => Wd_sW (by omega) (by decide) hf
      refine ih m FL (sW s (k + 1) 0 0) (by omega) (by omega) ⟨zOk_sW h1 _ _ _, h2.tr (zSame.sW _ _ _ _), (sW_E _ _ _ _).trans h3, (sW_I _ _ _ _ _).trans h4, ?_, fun c => ?_, fun c hc1 hc2 => ?_, fun c f hf hc => ?_⟩
      · obtain ⟨f1, f2, f3, f4, f5⟩ := h5
        exact ⟨(sW_I _ _ _ _ _).trans f1, (sW_I _ _ _ _ _).trans f2, zfl_kept (fun c hc => by rw [hWd c 1 (by decide), if_neg (by omega)]) f3, f4, f5⟩
      · rw [h6]
        constructor
        · rintro ⟨e1, e2⟩; exact ⟨by omega, e2⟩
        · rintro ⟨e1, e2, e3⟩
          by_cases hck : c = k + 1
          · exact absurd (by rw [hsame0, ← hck]; exact e3) hm
          · exact ⟨by omega, e2, e3⟩
      · rw [hWd c 0 (by decide)]
        by_cases hck : c = k + 1
        · rw [if_pos ⟨hck, rfl⟩]
        · rw [if_neg (fun q => hck q.1)]; exact h7 c (by omega) hc2
      · rw [hWd c f hf, if_neg (fun q => by omega)]
        exact h8 c f hf (hc.imp (fun e => by omega) id)
theorem z_sweep {nb : Nat} {s : zSt} (hok : zOk nb s) (hn2 : gI s 2 = nI nb) : ∃ s2 FL, F_M_sweep s = some ((), s2) ∧ zSw nb s 0 FL s2 := by
  obtain ⟨s2, FL, h1, h2⟩ := z_swp (s1 := s) nb zFuel [] (sI (sI s 3 0) 4 0) (by have := hok.2; rw [zFuel_eq]; omega) (Nat.le_refl nb)
    ⟨hok, (zSame.sI s ⟨by decide, by decide⟩ _).tr (zSame.sI _ ⟨by decide, by decide⟩ _), rfl, by simp [zb_some, zt_inl, zt_inr, zc_inl, zc_inr, gI_sI, gJ_sJ, gA_sA, gB_sB, gI_sJ, gI_sA, gI_sB, gI_sN, gI_sE, gJ_sI, gJ_sA, gJ_sB, gJ_sN, gJ_sE, gA_sI, gA_sJ, gA_sB, gA_sN, gA_sE, gB_sI, gB_sJ, gB_sA, gB_sN, gB_sE, gN_sI, gN_sJ, gN_sA, gN_sB, gN_sN, gN_sE, gE_sI, gE_sJ, gE_sA, gE_sB, gE_sN, gE_sE, gI_zpush, gJ_zpush, gA_zpush, gB_zpush, gN_zpush, gE_zpush], ⟨by simp [zb_some, zt_inl, zt_inr, zc_inl, zc_inr, gI_sI, gJ_sJ, gA_sA, gB_sB, gI_sJ, gI_sA, gI_sB, gI_sN, gI_sE, gJ_sI, gJ_sA, gJ_sB, gJ_sN, gJ_sE, gA_sI, gA_sJ, gA_sB, gA_sN, gA_sE, gB_sI, gB_sJ, gB_sA, gB_sN, gB_sE, gN_sI, gN_sJ, gN_sA, gN_sB, gN_sN, gN_sE, gE_sI, gE_sJ, gE_sA, gE_sB, gE_sN, gE_sE, gI_zpush, gJ_zpush, gA_zpush, gB_zpush, gN_zpush, gE_zpush]; rfl, by simp [zb_some, zt_inl, zt_inr, zc_inl, zc_inr, gI_sI, gJ_sJ, gA_sA, gB_sB, gI_sJ, gI_sA, gI_sB, gI_sN, gI_sE, gJ_sI, gJ_sA, gJ_sB, gJ_sN, gJ_sE, gA_sI, gA_sJ, gA_sB, gA_sN, gA_sE, gB_sI, gB_sJ, gB_sA, gB_sN, gB_sE, gN_sI, gN_sJ, gN_sA, gN_sB, gN_sN, gN_sE, gE_sI, gE_sJ, gE_sA, gE_sB, gE_sN, gE_sE, gI_zpush, gJ_zpush, gA_zpush, gB_zpush, gN_zpush, gE_zpush]; rfl, trivial, List.nodup_nil, fun b hb => absurd hb List.not_mem_nil⟩, fun c => ⟨fun q => absurd q List.not_mem_nil, fun q => by omega⟩, fun c hc1 hc2 => by omega, fun c f hf hc => rfl⟩
  refine ⟨s2, FL, ?_, h2⟩
  rw [← h1]
  unfold F_M_sweep
  simp only [gI_sI]
  rw [show gI s 2 = nI nb from hn2]
  rfl
theorem z_wid {nb0 nb : Nat} {s1 : zSt} : ∀ (j k n : Nat) (FL : List Nat) (s : zSt), k = nb0 + j → j < n → k ≤ nb → zOk nb s → zFr nb FL s → (∀ c ∈ FL, c ≤ nb0 ∨ k < c) → zSame s1 s → gE s = gE s1 → gI s 2 = gI s1 2 → (∀ c f, f < 8 → (c ≤ nb0 ∨ f ≠ 1) → Wd s c f = Wd s1 c f) →
    ∃ s2 FL2, F_M_widenIfTight_65 n (nI nb0) (nI k) s = some ((), s2) ∧ zOk nb s2 ∧ zFr nb FL2 s2 ∧ (∀ c, c ∈ FL2 ↔ c ∈ FL ∨ (nb0 < c ∧ c ≤ k)) ∧ FL2.length = FL.length + j ∧ zSame s1 s2 ∧ gE s2 = gE s1 ∧ gI s2 2 = gI s1 2 ∧ (∀ c f, f < 8 → (c ≤ nb0 ∨ f ≠ 1) → Wd s2 c f = Wd s1 c f) := by
  intro j
  induction j with
  | zero =>
    intro k n FL s hk hn hkn hok hF hd hS hE hI hW
    obtain ⟨m, rfl⟩ : ∃ m, n = m + 1 := ⟨n - 1, by omega⟩
    have hnb := hok.2
    have hk0 : k = nb0 := by omega
    subst hk0
    refine ⟨s, FL, ?_, hok, hF, fun c => ⟨Or.inl, fun q => q.resolve_right (by omega)⟩, rfl, hS, hE, hI, hW⟩
    rw [F_M_widenIfTight_65, if_pos ((qI_le (by omega) (by omega)).mpr (Nat.le_refl _))]
  | succ j ih =>
    intro k n FL s hk hn hkn hok hF hd hS hE hI hW
    obtain ⟨m, rfl⟩ : ∃ m, n = m + 1 := ⟨n - 1, by omega⟩
    have hnb := hok.2
    have hgt : ¬ (nI k ≤ nI nb0) := fun q => by
      have := (qI_le (a := k) (b := nb0) (by omega) (by omega)).mp q
      omega
    have hdec : nI k + (-1) = nI (k - 1) := by
      have e : nI k + (-1) = nI k - nI 1 := by rw [Int32.sub_eq_add_neg]; rfl
      rw [e, qI_sub (by omega)]
    obtain ⟨s2, k1, k2, k3, k4, k5, k6, k7⟩ := z_release hok hF (b := k) (by omega) hkn (fun q => by have := hd k q; omega)
    rw [F_M_widenIfTight_65, if_neg hgt, k1, zb_some, hdec]
    obtain ⟨s3, FL3, w1, w2, w3, w4, w5, w6, w7, w8, w9⟩ := ih (k - 1) m (k :: FL) s2 (by omega) (by omega) (by omega) k2 k6 (fun c hc => by
      rcases List.mem_cons.mp hc with e | e
      · omega
      · have := hd c e; omega) (hS.tr k3) (k4.trans hE) (k5.trans hI) (fun c f hf hc => by rw [k7 c f hf (by omega)]; exact hW c f hf hc)
    refine ⟨s3, FL3, w1, w2, w3, fun c => ?_, by rw [w5, List.length_cons]; omega, w6, w7, w8, w9⟩
    rw [w4, List.mem_cons]
    constructor
    · rintro ((e | e) | e)
      · exact Or.inr (by omega)
      · exact Or.inl e
      · exact Or.inr (by omega)
    · rintro (e | e)
      · exact Or.inl (Or.inr e)
      · by_cases hck : c = k
        · exact Or.inl (Or.inl hck)
        · exact Or.inr (by omega)
theorem z_div4 {nb : Nat} (h : nb ≤ 1024) : (0 : Int32) ≤ nI nb / 4 := by
  rw [Int32.le_iff_toInt_le, Int32.toInt_div, nI_toInt (by omega)]
  show (0 : Int) ≤ ((nb : Int).tdiv 4).bmod (2 ^ 32)
  rw [Int.tdiv_eq_ediv_of_nonneg (by omega), Int.bmod_eq_of_le (by omega) (by omega)]
  omega
def zPw (nb : Nat) : Prop := nb = 64 ∨ nb = 128 ∨ nb = 256 ∨ nb = 512 ∨ nb = 1024
/-- the memory is widened, or it is not tight -/
theorem z_widen {nb : Nat} {FL : List Nat} {s : zSt} (hpw : zPw nb) (hok : zOk nb s) (hn2 : gI s 2 = nI nb) (hF : zFr nb FL s) (hm : ∀ c, 1 ≤ c → c ≤ nb → Wd s c 0 = 0) :
    ∃ s2 FL2 nb2, F_M_widenIfTight s = some ((), s2) ∧ nb ≤ nb2 ∧ zPw nb2 ∧ zOk nb2 s2 ∧ gI s2 2 = nI nb2 ∧ zFr nb2 FL2 s2 ∧ zSame s s2 ∧ (FL2 ≠ [] ∨ nb2 = 1024 ∧ FL2 = FL ∧ nb = 1024) ∧ (∀ c, c ∈ FL2 ↔ c ∈ FL ∨ (nb < c ∧ c ≤ nb2)) ∧ FL2.length + nb = FL.length + nb2 ∧ (∀ c, 1 ≤ c → c ≤ nb2 → Wd s2 c 0 = 0) ∧ (∀ c f, f < 8 → c ≤ nb → Wd s2 c f = Wd s c f) ∧ zeC (gE s2) ≤ zeC (gE s) + 16 * (nb2 - nb) ∧ zeL (gE s2) ≤ zeL (gE s) + (nb2 - nb) := by
  have hnb := hok.2
  obtain ⟨g1, g2⟩ := zFr_hd hF hnb
  unfold F_M_widenIfTight F_M_widenIfTight_23
  rw [hn2]
  by_cases ht : nI nb / 4 < gI s 4
  · rw [if_pos ht]
    have hne : FL ≠ [] := by
      intro e
      have h0 : gI s 4 = nI 0 := by rw [hF.2.1, e]; rfl
      rw [h0] at ht
      exact absurd (Int32.lt_of_le_of_lt (z_div4 hnb) ht) (by decide)
    exact ⟨s, FL, nb, rfl, Nat.le_refl _, hpw, hok, hn2, hF, zSame.rf s, Or.inl hne, fun c => ⟨Or.inl, fun q => q.resolve_right (by omega)⟩, rfl, hm, fun _ _ _ _ => rfl, by omega, by omega⟩
  · rw [if_neg ht]
    by_cases hf : nb = 1024
    · rw [if_neg (fun q => by
        have := (qI_lt (a := nb) (b := 1024) (by omega) (by decide)).mp q
        omega)]
      exact ⟨s, FL, nb, rfl, Nat.le_refl _, hpw, hok, hn2, hF, zSame.rf s, Or.inr ⟨hf, rfl, hf⟩, fun c => ⟨Or.inl, fun q => q.resolve_right (by omega)⟩, rfl, hm, fun _ _ _ _ => rfl, by omega, by omega⟩
    · rw [if_pos (show nI nb < 1024 from (qI_lt (a := nb) (b := 1024) (by omega) (by decide)).mpr (by omega))]
      have hpw2 : zPw (2 * nb) ∧ 2 * nb ≤ 1024 := by
        unfold zPw at hpw ⊢
        omega
      have hmul : (2 : Int32) * nI nb = nI (2 * nb) := qI_mul 2 nb
      have hmin : F_JM_min ((2 : Int32) * nI nb) (1024 : Int32) s = some (nI (2 * nb), s) := by
        unfold F_JM_min F_JM_min_10
        rw [hmul, if_neg (fun q => by
          have := (qI_lt (a := 1024) (b := 2 * nb) (by decide) (by omega)).mp q
          omega)]
      have h8 : nI (2 * nb) * 8 = nI (2 * nb * 8) := qI_mul (2 * nb) 8
      have hcl : (nI (2 * nb * 8)).toNatClampNeg = 2 * nb * 8 := nI_clamp (by omega)
      rw [hmin, zb_some]
      unfold zwiden
      simp only [gI_sI, gN_sI, gB_sI, gE_sI, if_true]
      have hn64 : 64 ≤ nb := by unfold zPw at hpw; omega
      rw [h8, hcl, if_pos (show nI (2 * nb * 8) = nI (2 * nb * 8) ∧ gN s < 2 * nb * 8 ∧ 2 * nb * 8 ≤ 1000000 from ⟨rfl, by have := hok.1; omega, by have := hpw2.2; omega⟩), zb_some]
      generalize hs4 : sE (sN (sB (sI s 2 (nI (2 * nb))) 0 (va_cpy (gB s 0) (fun _ => 0) 0 0 (gN s))) (2 * nb * 8)) (zwE (gE s) (2 * nb * 8) (zcB (gN s) (gB s 0))) = s4
      have e0 : gB s4 0 = va_cpy (gB s 0) (fun _ => 0) 0 0 (gN s) := by rw [← hs4]; simp [zb_some, zt_inl, zt_inr, zc_inl, zc_inr, gI_sI, gJ_sJ, gA_sA, gB_sB, gI_sJ, gI_sA, gI_sB, gI_sN, gI_sE, gJ_sI, gJ_sA, gJ_sB, gJ_sN, gJ_sE, gA_sI, gA_sJ, gA_sB, gA_sN, gA_sE, gB_sI, gB_sJ, gB_sA, gB_sN, gB_sE, gN_sI, gN_sJ, gN_sA, gN_sB, gN_sN, gN_sE, gE_sI, gE_sJ, gE_sA, gE_sB, gE_sN, gE_sE, gI_zpush, gJ_zpush, gA_zpush, gB_zpush, gN_zpush, gE_zpush]
      have e1 : gI s4 2 = nI (2 * nb) := by rw [← hs4]; simp [zb_some, zt_inl, zt_inr, zc_inl, zc_inr, gI_sI, gJ_sJ, gA_sA, gB_sB, gI_sJ, gI_sA, gI_sB, gI_sN, gI_sE, gJ_sI, gJ_sA, gJ_sB, gJ_sN, gJ_sE, gA_sI, gA_sJ, gA_sB, gA_sN, gA_sE, gB_sI, gB_sJ, gB_sA, gB_sN, gB_sE, gN_sI, gN_sJ, gN_sA, gN_sB, gN_sN, gN_sE, gE_sI, gE_sJ, gE_sA, gE_sB, gE_sN, gE_sE, gI_zpush, gJ_zpush, gA_zpush, gB_zpush, gN_zpush, gE_zpush]
      have e2 : zSame s s4 := by
        rw [← hs4]
        exact ⟨fun k hk => by simp only [gI_sE, gI_sN, gI_sB, gI_sI]; rw [if_neg (by omega)], fun _ => rfl, fun _ => rfl, fun k => by simp only [gB_sE, gB_sN, gB_sB]; rw [if_neg (by omega)]; rfl⟩
      have e3 : gN s4 = 2 * nb * 8 := by rw [← hs4]; rfl
      have e4 : gE s4 = zwE (gE s) (2 * nb * 8) (zcB (gN s) (gB s 0)) := by rw [← hs4]; rfl
      have e5 : gI s4 3 = gI s 3 ∧ gI s4 4 = gI s 4 := by rw [← hs4]; simp [zb_some, zt_inl, zt_inr, zc_inl, zc_inr, gI_sI, gJ_sJ, gA_sA, gB_sB, gI_sJ, gI_sA, gI_sB, gI_sN, gI_sE, gJ_sI, gJ_sA, gJ_sB, gJ_sN, gJ_sE, gA_sI, gA_sJ, gA_sB, gA_sN, gA_sE, gB_sI, gB_sJ, gB_sA, gB_sN, gB_sE, gN_sI, gN_sJ, gN_sA, gN_sB, gN_sN, gN_sE, gE_sI, gE_sJ, gE_sA, gE_sB, gE_sN, gE_sE, gI_zpush, gJ_zpush, gA_zpush, gB_zpush, gN_zpush, gE_zpush]
      have hW1 : ∀ c f, f < 8 → c ≤ nb → Wd s4 c f = Wd s c f := by
        intro c f hf hc
        unfold Wd
        by_cases h0 : c = 0
        · rw [if_pos h0, if_pos h0]
        · rw [if_neg h0, if_neg h0, e0]
          unfold va_cpy
          rw [if_pos ⟨Nat.zero_le _, by rw [hok.1]; omega⟩]
          simp
      have hW2 : ∀ c f, f < 8 → nb < c → c ≤ 2 * nb → Wd s4 c f = 0 := by
        intro c f hf hc hc2
        unfold Wd
        rw [if_neg (by omega), e0]
        unfold va_cpy
        rw [if_neg (fun q => by have := q.2; rw [hok.1] at this; omega)]
      have hok4 : zOk (2 * nb) s4 := ⟨by rw [e3]; omega, by omega⟩
      have hF4 : zFr (2 * nb) FL s4 := by
        obtain ⟨f1, f2, f3, f4, f5⟩ := hF
        exact ⟨e5.1.trans f1, e5.2.trans f2, zfl_kept (fun c hc => hW1 c 1 (by decide) (f5 c hc).2) f3, f4, fun c hc => by have := f5 c hc; omega⟩
      obtain ⟨s5, FL5, w1, w2, w3, w4, w5, w6, w7, w8, w9⟩ := z_wid (nb0 := nb) (s1 := s4) nb (2 * nb) zFuel FL s4 (by omega) (by rw [zFuel_eq]; omega) (Nat.le_refl _) hok4 hF4 (fun c hc => Or.inl (hF.2.2.2.2 c hc).2) (zSame.rf s4) rfl rfl (fun _ _ _ _ => rfl)
      rw [e1]
      refine ⟨s5, FL5, 2 * nb, w1, by omega, hpw2.1, w2, w8.trans e1, w3, e2.tr w6, Or.inl (fun q => ?_), w4, by omega, fun c hc1 hc2 => ?_, fun c f hf hc => (w9 c f hf (Or.inl hc)).trans (hW1 c f hf hc), ?_, ?_⟩
      · rw [q] at w5
        have := hpw
        unfold zPw at this
        rw [List.length_nil] at w5
        omega
      · rw [w9 c 0 (by decide) (Or.inr (by decide))]
        by_cases hc : c ≤ nb
        · rw [hW1 c 0 (by decide) hc]; exact hm c hc1 hc
        · exact hW2 c 0 (by decide) (by omega) hc2
      · rw [w7, e4, zeC_wide]; omega
      · rw [w7, e4, zeL_wide]
        have := hpw
        unfold zPw at this
        omega

theorem z_zero {nb b : Nat} (hb1 : 1 ≤ b) (hb2 : b ≤ nb) : ∀ (j f n : Nat) (s : zSt), j + f = 8 → j < n → zOk nb s → ∃ s2, F_M_make_60 n (nI b) (nI f) s = some (nI b, s2) ∧ zOk nb s2 ∧ zSame s s2 ∧ gE s2 = gE s ∧ (∀ k, gI s2 k = gI s k) ∧ ∀ c g, g < 8 → Wd s2 c g = if c = b ∧ f ≤ g then 0 else Wd s c g := by
  intro j
  induction j with
  | zero =>
    intro f n s hf hn hok
    obtain ⟨m, rfl⟩ : ∃ m, n = m + 1 := ⟨n - 1, by omega⟩
    have hf8 : f = 8 := by omega
    subst hf8
    refine ⟨s, ?_, hok, zSame.rf s, rfl, fun _ => rfl, fun c g hg => by rw [if_neg (by omega)]⟩
    rw [F_M_make_60, if_pos (by decide)]
  | succ j ih =>
    intro f n s hf hn hok
    obtain ⟨m, rfl⟩ : ∃ m, n = m + 1 := ⟨n - 1, by omega⟩
    have hlt : ¬ ((8 : Int32) ≤ nI f) := fun q => by
      have := (qI_le (a := 8) (b := f) (by decide) (by omega)).mp q
      omega
    rw [F_M_make_60, if_neg hlt, zsw hok hb2 (by omega), zb_some]
    have e1 : nI f + 1 = nI (f + 1) := (nI_succ f).symm
    rw [e1]
    obtain ⟨s2, k1, k2, k3, k4, k5, k6⟩ := ih (f + 1) m (sW s b f 0) (by omega) (by omega) (zOk_sW hok _ _ _)
    refine ⟨s2, k1, k2, (zSame.sW s b f 0).tr k3, k4.trans (sW_E _ _ _ _), fun k => (k5 k).trans (sW_I _ _ _ _ _), fun c g hg => ?_⟩
    rw [k6 c g hg, Wd_sW (by omega) (by omega) hg]
    by_cases hc : c = b
    · by_cases hg2 : f + 1 ≤ g
      · rw [if_pos ⟨hc, hg2⟩, if_pos ⟨hc, by omega⟩]
      · rw [if_neg (by omega)]
        by_cases hg3 : g = f
        · rw [if_pos ⟨hc, hg3⟩, if_pos ⟨hc, by omega⟩]
        · rw [if_neg (by omega), if_neg (by omega)]
    · rw [if_neg (by omega), if_neg (by omega), if_neg (by omega)]
theorem z_take {nb b : Nat} {r : List Nat} {s : zSt} (hok : zOk nb s) (hF : zFr nb (b :: r) s) : ∃ s2, F_M_make_26 s = some (nI b, s2) ∧ zOk nb s2 ∧ gI s2 2 = gI s 2 ∧ zFr nb r s2 ∧ zSame s s2 ∧ gE s2 = gE s ∧ (∀ f, f < 8 → Wd s2 b f = 0) ∧ ∀ c f, f < 8 → c ≠ b → Wd s2 c f = Wd s c f := by
  obtain ⟨f1, f2, f3, f4, f5⟩ := hF
  have hnb := hok.2
  obtain ⟨hb1, hb2⟩ := f5 b List.mem_cons_self
  rw [List.nodup_cons] at f4
  have f1 : gI s 3 = nI b := f1
  have hr : r.headD 0 ≤ nb := by
    cases r with
    | nil => exact Nat.zero_le _
    | cons c q => exact (f5 c (by simp [zb_some, zt_inl, zt_inr, zc_inl, zc_inr, gI_sI, gJ_sJ, gA_sA, gB_sB, gI_sJ, gI_sA, gI_sB, gI_sN, gI_sE, gJ_sI, gJ_sA, gJ_sB, gJ_sN, gJ_sE, gA_sI, gA_sJ, gA_sB, gA_sN, gA_sE, gB_sI, gB_sJ, gB_sA, gB_sN, gB_sE, gN_sI, gN_sJ, gN_sA, gN_sB, gN_sN, gN_sE, gE_sI, gE_sJ, gE_sA, gE_sB, gE_sN, gE_sE, gI_zpush, gJ_zpush, gA_zpush, gB_zpush, gN_zpush, gE_zpush])).2
  have hrl : r.length ≤ nb := zl_bound f4.2 (fun x hx => f5 x (List.mem_cons_of_mem _ hx))
  unfold F_M_make_26
  rw [f1, if_neg (fun e => by have := (qI_eq0 (a := b) (by omega)).mp e; omega), zw1 hok hb2, zb_some, f3.1, qL_int]
  simp only [gI_sI]
  have h4 : gI s 4 - 1 = nI r.length := by
    rw [f2]
    have : nI (b :: r).length - nI 1 = nI ((b :: r).length - 1) := qI_sub (by simp [zb_some, zt_inl, zt_inr, zc_inl, zc_inr, gI_sI, gJ_sJ, gA_sA, gB_sB, gI_sJ, gI_sA, gI_sB, gI_sN, gI_sE, gJ_sI, gJ_sA, gJ_sB, gJ_sN, gJ_sE, gA_sI, gA_sJ, gA_sB, gA_sN, gA_sE, gB_sI, gB_sJ, gB_sA, gB_sN, gB_sE, gN_sI, gN_sJ, gN_sA, gN_sB, gN_sN, gN_sE, gE_sI, gE_sJ, gE_sA, gE_sB, gE_sN, gE_sE, gI_zpush, gJ_zpush, gA_zpush, gB_zpush, gN_zpush, gE_zpush])
    exact this
  rw [if_neg (by decide), h4]
  obtain ⟨s2, k1, k2, k3, k4, k5, k6⟩ := z_zero hb1 hb2 8 0 zFuel (sI (sI s 3 (nI (r.headD 0))) 4 (nI r.length)) (by decide) (by decide) hok
  refine ⟨s2, k1, k2, (k5 2).trans (by simp [zb_some, zt_inl, zt_inr, zc_inl, zc_inr, gI_sI, gJ_sJ, gA_sA, gB_sB, gI_sJ, gI_sA, gI_sB, gI_sN, gI_sE, gJ_sI, gJ_sA, gJ_sB, gJ_sN, gJ_sE, gA_sI, gA_sJ, gA_sB, gA_sN, gA_sE, gB_sI, gB_sJ, gB_sA, gB_sN, gB_sE, gN_sI, gN_sJ, gN_sA, gN_sB, gN_sN, gN_sE, gE_sI, gE_sJ, gE_sA, gE_sB, gE_sN, gE_sE, gI_zpush, gJ_zpush, gA_zpush, gB_zpush, gN_zpush, gE_zpush]), ⟨(k5 3).trans (by simp [zb_some, zt_inl, zt_inr, zc_inl, zc_inr, gI_sI, gJ_sJ, gA_sA, gB_sB, gI_sJ, gI_sA, gI_sB, gI_sN, gI_sE, gJ_sI, gJ_sA, gJ_sB, gJ_sN, gJ_sE, gA_sI, gA_sJ, gA_sB, gA_sN, gA_sE, gB_sI, gB_sJ, gB_sA, gB_sN, gB_sE, gN_sI, gN_sJ, gN_sA, gN_sB, gN_sN, gN_sE, gE_sI, gE_sJ, gE_sA, gE_sB, gE_sN, gE_sE, gI_zpush, gJ_zpush, gA_zpush, gB_zpush, gN_zpush, gE_zpush]), (k5 4).trans (by simp [zb_some, zt_inl, zt_inr, zc_inl, zc_inr, gI_sI, gJ_sJ, gA_sA, gB_sB, gI_sJ, gI_sA, gI_sB, gI_sN, gI_sE, gJ_sI, gJ_sA, gJ_sB, gJ_sN, gJ_sE, gA_sI, gA_sJ, gA_sB, gA_sN, gA_sE, gB_sI, gB_sJ, gB_sA, gB_sN, gB_sE, gN_sI, gN_sJ, gN_sA, gN_sB, gN_sN, gN_sE, gE_sI, gE_sJ, gE_sA, gE_sB, gE_sN, gE_sE, gI_zpush, gJ_zpush, gA_zpush, gB_zpush, gN_zpush, gE_zpush]), zfl_kept (fun c hc => ?_) f3.2, f4.2, fun c hc => f5 c (List.mem_cons_of_mem _ hc)⟩, ((zSame.sI s ⟨by decide, by decide⟩ _).tr (zSame.sI _ ⟨by decide, by decide⟩ _)).tr k3, k4, fun f hf => ?_, fun c f hf hc => ?_⟩
  · rw [k6 c 1 (by decide), if_neg (show ¬ (c = b ∧ 0 ≤ 1) from fun q => f4.1 (by rw [← q.1]; exact hc))]
    rfl
  · rw [k6 b f hf, if_pos ⟨rfl, Nat.zero_le _⟩]
  · rw [k6 c f hf, if_neg (fun q => hc q.1)]
    rfl
def zMd (nb mk : Nat) (U : List Nat) (sl : Nat → Nat) (lk : Nat → Nat → Nat) (s s2 : zSt) (FL2 : List Nat) (nb2 b : Nat) (S : List Nat) : Prop := nb ≤ nb2 ∧ zPw nb2 ∧ zOk nb2 s2 ∧ gI s2 2 = nI nb2 ∧ zFr nb2 FL2 s2 ∧ zSame s s2 ∧ (1 ≤ b ∧ b ≤ nb2) ∧ b ∉ FL2 ∧ (∀ f, f < 8 → Wd s2 b f = 0) ∧ (∀ c, 1 ≤ c → c ≤ nb2 → Wd s2 c 0 = 0) ∧ nb2 ≤ mk + 1 + FL2.length ∧ zeC (gE s2) ≤ zeC (gE s) + 16 * (nb2 - nb) ∧ zeL (gE s2) ≤ zeL (gE s) + (nb2 - nb) ∧
      (∀ c ∈ S, c ∈ U) ∧ (∀ i, i < 27 → sl i = 0 ∨ sl i ∈ S) ∧ (∀ c ∈ S, ∀ f, 1 ≤ f → f < 4 → lk c f = 0 ∨ lk c f ∈ S) ∧ ∀ c ∈ S, c ≠ b ∧ c ∉ FL2 ∧ ∀ f, f < 8 → Wd s2 c f = Wd s c f
/-- a new block: what slots lead to stays as it was -/
theorem z_make {nb mk : Nat} {FL U : List Nat} {s : zSt} {sl : Nat → Nat} {lk : Nat → Nat → Nat} (hpw : zPw nb) (hok : zOk nb s) (hn2 : gI s 2 = nI nb) (hF : zFr nb FL s) (hm0 : ∀ b, 1 ≤ b → b ≤ nb → Wd s b 0 = 0) (hU : ∀ b ∈ U, 1 ≤ b ∧ b ≤ nb) (hUn : U.Nodup) (hdis : ∀ b ∈ U, b ∉ FL)
    (hsl : ∀ i, i < 27 → gA s 0 i = nI (sl i) ∧ (sl i = 0 ∨ sl i ∈ U)) (hl : ∀ b ∈ U, ∀ f, 1 ≤ f → f < 4 → Wd s b f = nL (lk b f) ∧ (lk b f = 0 ∨ lk b f ∈ U)) (hcap : nb ≤ mk + FL.length) (hmk : mk < 1024) :
    ∃ s2 FL2 nb2 b S, F_M_make s = some (nI b, s2) ∧ zMd nb mk U sl lk s s2 FL2 nb2 b S := by
  have hnb := hok.2
  -- taking the first free block
  have take : ∀ (s1 : zSt) (FL1 : List Nat) (nb1 : Nat) (S : List Nat), zOk nb1 s1 → gI s1 2 = nI nb1 → zFr nb1 FL1 s1 → zSame s s1 → nb ≤ nb1 → zPw nb1 → FL1 ≠ [] → (∀ c, 1 ≤ c → c ≤ nb1 → Wd s1 c 0 = 0) → nb1 ≤ mk + FL1.length → zeC (gE s1) ≤ zeC (gE s) + 16 * (nb1 - nb) → zeL (gE s1) ≤ zeL (gE s) + (nb1 - nb) → (∀ c ∈ S, c ∈ U) → (∀ i, i < 27 → sl i = 0 ∨ sl i ∈ S) → (∀ c ∈ S, ∀ f, 1 ≤ f → f < 4 → lk c f = 0 ∨ lk c f ∈ S) → (∀ c ∈ S, c ∉ FL1 ∧ ∀ f, f < 8 → Wd s1 c f = Wd s c f) →
      ∃ s2 FL2 nb2 b S, F_M_make_26 s1 = some (nI b, s2) ∧ zMd nb mk U sl lk s s2 FL2 nb2 b S := by
    intro s1 FL1 nb1 S a1 a2 a3 a4 a5 a6 a7 a8 a9 a10 a11 a12 a13 a14 a15
    cases FL1 with
    | nil => exact absurd rfl a7
    | cons b r =>
      obtain ⟨s2, k1, k2, k3, k4, k5, k6, k7, k8⟩ := z_take a1 a3
      refine ⟨s2, r, nb1, b, S, k1, a5, a6, k2, k3.trans a2, k4, a4.tr k5, a3.2.2.2.2 b List.mem_cons_self, (List.nodup_cons.mp a3.2.2.2.1).1, k7, fun c hc1 hc2 => ?_, ?_, by rw [k6]; exact a10, by rw [k6]; exact a11, a12, a13, a14, fun c hc => ?_⟩
      · by_cases hcb : c = b
        · rw [hcb]; exact k7 0 (by decide)
        · rw [k8 c 0 (by decide) hcb]; exact a8 c hc1 hc2
      · rw [List.length_cons] at a9; omega
      · obtain ⟨q1, q2⟩ := a15 c hc
        have hcb : c ≠ b := fun e => q1 (by rw [e]; exact List.mem_cons_self)
        exact ⟨hcb, fun q => q1 (List.mem_cons_of_mem _ q), fun f hf => (k8 c f hf hcb).trans (q2 f hf)⟩
  -- behind a collection
  have coll : ∀ s1 : zSt, zOk nb s1 → gI s1 2 = nI nb → zFr nb FL s1 → zSame s s1 → gE s1 = gE s → (∀ c f, Wd s1 c f = Wd s c f) →
      ∃ s2 FL2 nb2 b S, F_M_make_14 s1 = some (nI b, s2) ∧ zMd nb mk U sl lk s s2 FL2 nb2 b S := by
    intro s1 a1 a2 a3 a4 a5 a6
    obtain ⟨s2, D, b1, b2, b3⟩ := z_markAll (s := s1) a1 a2 hU (sl := sl) (fun i hi => by rw [a4.2.2.1 0]; exact hsl i hi) (lk := lk) (fun b hb f h1 h2 => by rw [a6]; exact hl b hb f h1 h2) (fun b h1 h2 => by rw [a6]; exact hm0 b h1 h2)
    obtain ⟨i1, i2, iE, i3, i4, i5, i6, i7, i8, i9, i10, i11⟩ := b2
    simp only [List.nil_append, List.append_nil] at i6 i7 i8 i10
    obtain ⟨s3, FL3, c1, c2⟩ := z_sweep i1 (i3.trans a2)
    obtain ⟨d1, d2, d3, d4, d5, d6, d7, d8⟩ := c2
    obtain ⟨s4, FL4, nb4, e1, e2, e3, e4, e5, e6, e7, e8, e9, e10, e11, e12, e13, e14⟩ := z_widen hpw d1 (d4.trans (i3.trans a2)) d5 (fun c h1 h2 => d7 c (by omega) h2)
    have hDU : ∀ c ∈ D, 1 ≤ c ∧ c ≤ nb := fun c hc => hU c (i7 c hc)
    have hDm : ∀ c ∈ D, Wd s2 c 0 ≠ 0 := fun c hc => (i8 c (hDU c hc).1 (hDU c hc).2).mpr hc
    -- how many are free now
    have hcnt : nb ≤ mk + FL3.length := by
      have h1 : (D ++ FL).Nodup := by
        rw [List.nodup_append]
        exact ⟨i6, hF.2.2.2.1, fun x hx y hy e => hdis x (i7 x hx) (by rw [e]; exact hy)⟩
      have h2 : (D ++ FL).length ≤ nb := zl_bound h1 (fun x hx => by
        rcases List.mem_append.mp hx with q | q
        · exact hDU x q
        · exact hF.2.2.2.2 x q)
      have h3 : nb ≤ (D ++ FL3).length := by
        have := zl_le (l := List.range' 1 nb) (m := D ++ FL3) (List.nodup_range') (fun x hx => by
          rw [List.mem_range'_1] at hx
          rw [List.mem_append]
          by_cases hz : Wd s2 x 0 = 0
          · exact Or.inr ((d6 x).mpr ⟨by omega, by omega, hz⟩)
          · exact Or.inl ((i8 x (by omega) (by omega)).mp hz))
        rwa [List.length_range'] at this
      rw [List.length_append] at h2 h3
      omega
    have h41 : FL4 ≠ [] := by
      rcases e8 with q | ⟨q1, q2, q3⟩
      · exact q
      · intro q
        rw [q2] at q
        rw [q, List.length_nil] at hcnt
        omega
    unfold F_M_make_14
    rw [b1, zb_some, c1, zb_some, e1, zb_some]
    refine take s4 FL4 nb4 D e4 e5 e6 ((a4.tr i2).tr (d2.tr e7)) e2 e3 h41 e11 (by omega) ?_ ?_ i7 b3 (fun c hc f h1 h2 => ?_) (fun c hc => ⟨fun q => ?_, fun f hf => ?_⟩)
    · rw [d3, iE, a5] at e13; exact e13
    · rw [d3, iE, a5] at e14; exact e14
    · obtain ⟨q1, q2⟩ := hl c (i7 c hc) f h1 h2
      refine i10 c hc f h1 h2 (lk c f) (by rw [a6]; exact q1) ?_
      rcases q2 with q | q
      · omega
      · have := hU _ q; omega
    · rcases (e9 c).mp q with q | q
      · exact hDm c hc ((d6 c).mp q).2.2
      · have := hDU c hc; omega
    · rw [e12 c f hf (hDU c hc).2]
      by_cases hf0 : f = 0
      · rw [hf0, d7 c (by have := (hDU c hc).1; omega) (hDU c hc).2]
        exact (hm0 c (hDU c hc).1 (hDU c hc).2).symm
      · rw [d8 c f hf (Or.inr ⟨by omega, hDm c hc⟩), i11 c f (by omega) hf, a6]
  -- nothing due
  have quick : ∀ s1 : zSt, zOk nb s1 → gI s1 2 = nI nb → zFr nb FL s1 → zSame s s1 → gE s1 = gE s → (∀ c f, Wd s1 c f = Wd s c f) → FL ≠ [] → ∃ s2 FL2 nb2 b S, F_M_make_26 s1 = some (nI b, s2) ∧ zMd nb mk U sl lk s s2 FL2 nb2 b S := by
    intro s1 a1 a2 a3 a4 a5 a6 a7
    exact take s1 FL nb U a1 a2 a3 a4 (Nat.le_refl _) hpw a7 (fun c h1 h2 => by rw [a6]; exact hm0 c h1 h2) hcap (by rw [a5]; omega) (by rw [a5]; omega) (fun c hc => hc) (fun i hi => (hsl i hi).2) (fun c hc f h1 h2 => (hl c hc f h1 h2).2) (fun c hc => ⟨hdis c hc, fun f hf => a6 c f⟩)
  have s6 : ∀ v : Int32, zOk nb (sI s 6 v) ∧ gI (sI s 6 v) 2 = nI nb ∧ zFr nb FL (sI s 6 v) ∧ zSame s (sI s 6 v) := fun v => ⟨hok, by simp [zb_some, zt_inl, zt_inr, zc_inl, zc_inr, gI_sI, gJ_sJ, gA_sA, gB_sB, gI_sJ, gI_sA, gI_sB, gI_sN, gI_sE, gJ_sI, gJ_sA, gJ_sB, gJ_sN, gJ_sE, gA_sI, gA_sJ, gA_sB, gA_sN, gA_sE, gB_sI, gB_sJ, gB_sA, gB_sN, gB_sE, gN_sI, gN_sJ, gN_sA, gN_sB, gN_sN, gN_sE, gE_sI, gE_sJ, gE_sA, gE_sB, gE_sN, gE_sE, gI_zpush, gJ_zpush, gA_zpush, gB_zpush, gN_zpush, gE_zpush, hn2], ⟨by simp [zb_some, zt_inl, zt_inr, zc_inl, zc_inr, gI_sI, gJ_sJ, gA_sA, gB_sB, gI_sJ, gI_sA, gI_sB, gI_sN, gI_sE, gJ_sI, gJ_sA, gJ_sB, gJ_sN, gJ_sE, gA_sI, gA_sJ, gA_sB, gA_sN, gA_sE, gB_sI, gB_sJ, gB_sA, gB_sN, gB_sE, gN_sI, gN_sJ, gN_sA, gN_sB, gN_sN, gN_sE, gE_sI, gE_sJ, gE_sA, gE_sB, gE_sN, gE_sE, gI_zpush, gJ_zpush, gA_zpush, gB_zpush, gN_zpush, gE_zpush, hF.1], by simp [zb_some, zt_inl, zt_inr, zc_inl, zc_inr, gI_sI, gJ_sJ, gA_sA, gB_sB, gI_sJ, gI_sA, gI_sB, gI_sN, gI_sE, gJ_sI, gJ_sA, gJ_sB, gJ_sN, gJ_sE, gA_sI, gA_sJ, gA_sB, gA_sN, gA_sE, gB_sI, gB_sJ, gB_sA, gB_sN, gB_sE, gN_sI, gN_sJ, gN_sA, gN_sB, gN_sN, gN_sE, gE_sI, gE_sJ, gE_sA, gE_sB, gE_sN, gE_sE, gI_zpush, gJ_zpush, gA_zpush, gB_zpush, gN_zpush, gE_zpush, hF.2.1], zfl_kept (s := s) (fun _ _ => rfl) hF.2.2.1, hF.2.2.2⟩, zSame.sI s ⟨by decide, by decide⟩ v⟩
  have s66 : ∀ v w : Int32, zOk nb (sI (sI s 6 v) 6 w) ∧ gI (sI (sI s 6 v) 6 w) 2 = nI nb ∧ zFr nb FL (sI (sI s 6 v) 6 w) ∧ zSame s (sI (sI s 6 v) 6 w) := fun v w => ⟨hok, by simp [zb_some, zt_inl, zt_inr, zc_inl, zc_inr, gI_sI, gJ_sJ, gA_sA, gB_sB, gI_sJ, gI_sA, gI_sB, gI_sN, gI_sE, gJ_sI, gJ_sA, gJ_sB, gJ_sN, gJ_sE, gA_sI, gA_sJ, gA_sB, gA_sN, gA_sE, gB_sI, gB_sJ, gB_sA, gB_sN, gB_sE, gN_sI, gN_sJ, gN_sA, gN_sB, gN_sN, gN_sE, gE_sI, gE_sJ, gE_sA, gE_sB, gE_sN, gE_sE, gI_zpush, gJ_zpush, gA_zpush, gB_zpush, gN_zpush, gE_zpush, hn2], ⟨by simp [zb_some, zt_inl, zt_inr, zc_inl, zc_inr, gI_sI, gJ_sJ, gA_sA, gB_sB, gI_sJ, gI_sA, gI_sB, gI_sN, gI_sE, gJ_sI, gJ_sA, gJ_sB, gJ_sN, gJ_sE, gA_sI, gA_sJ, gA_sB, gA_sN, gA_sE, gB_sI, gB_sJ, gB_sA, gB_sN, gB_sE, gN_sI, gN_sJ, gN_sA, gN_sB, gN_sN, gN_sE, gE_sI, gE_sJ, gE_sA, gE_sB, gE_sN, gE_sE, gI_zpush, gJ_zpush, gA_zpush, gB_zpush, gN_zpush, gE_zpush, hF.1], by simp [zb_some, zt_inl, zt_inr, zc_inl, zc_inr, gI_sI, gJ_sJ, gA_sA, gB_sB, gI_sJ, gI_sA, gI_sB, gI_sN, gI_sE, gJ_sI, gJ_sA, gJ_sB, gJ_sN, gJ_sE, gA_sI, gA_sJ, gA_sB, gA_sN, gA_sE, gB_sI, gB_sJ, gB_sA, gB_sN, gB_sE, gN_sI, gN_sJ, gN_sA, gN_sB, gN_sN, gN_sE, gE_sI, gE_sJ, gE_sA, gE_sB, gE_sN, gE_sE, gI_zpush, gJ_zpush, gA_zpush, gB_zpush, gN_zpush, gE_zpush, hF.2.1], zfl_kept (s := s) (fun _ _ => rfl) hF.2.2.1, hF.2.2.2⟩, (zSame.sI s ⟨by decide, by decide⟩ v).tr (zSame.sI _ ⟨by decide, by decide⟩ w)⟩
  have hff : ∀ s1 : zSt, zFr nb FL s1 → (gI s1 3 = 0 ↔ FL = []) := by
    intro s1 h1
    rw [h1.1]
    cases FL with
    | nil => exact ⟨fun _ => rfl, fun _ => rfl⟩
    | cons c r =>
      have := h1.2.2.2.2 c List.mem_cons_self
      exact ⟨fun q => by have := (qI_eq0 (a := c) (by omega)).mp q; omega, fun q => by cases q⟩
  have both : ∀ s1 : zSt, zOk nb s1 → gI s1 2 = nI nb → zFr nb FL s1 → zSame s s1 → gE s1 = gE s → (∀ c f, Wd s1 c f = Wd s c f) → ∃ s2 FL2 nb2 b S, (if gI s1 3 = 0 then F_M_make_14 s1 else F_M_make_26 s1) = some (nI b, s2) ∧ zMd nb mk U sl lk s s2 FL2 nb2 b S := by
    intro s1 a1 a2 a3 a4 a5 a6
    by_cases hz : gI s1 3 = 0
    · rw [if_pos hz]; exact coll s1 a1 a2 a3 a4 a5 a6
    · rw [if_neg hz]; exact quick s1 a1 a2 a3 a4 a5 a6 (fun q => hz ((hff s1 a3).mpr q))
  unfold F_M_make F_M_isCollectionDue
  by_cases h5 : gI s 5 = 0
  · rw [if_pos h5, zb_some, if_pos rfl]
    exact both s hok hn2 hF (zSame.rf s) rfl (fun _ _ => rfl)
  · rw [if_neg h5]
    split
    · rw [zb_some, if_neg (by decide)]
      obtain ⟨q1, q2, q3, q4⟩ := s66 (gI s 6 + 1) 0
      exact coll _ q1 q2 q3 q4 rfl (fun _ _ => rfl)
    · rw [zb_some, if_pos rfl]
      obtain ⟨q1, q2, q3, q4⟩ := s6 (gI s 6 + 1)
      exact both _ q1 q2 q3 q4 rfl (fun _ _ => rfl)

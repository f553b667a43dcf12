/-! finding rows -/
def zRx (k : Int64) : List Nat → List zPr → Option Nat
  | i :: is, p :: ps => if kK p = k then some i else zRx k is ps
  | _, _ => none
def zRi (x : Option Nat) : Int32 := match x with
  | some i => nI i
  | none => -1
theorem zRx_at {s : zSt} {k : Int64} : ∀ {is : List Nat} {ps : List zPr}, zRw s is ps → (zG k ps = none ∧ zRx k is ps = none) ∨ ∃ p i, zG k ps = some p ∧ zRx k is ps = some i ∧ i ∈ is ∧ p ∈ ps ∧ zR1 s i p ∧ kK p = k := by
  intro is
  induction is with
  | nil => intro ps h; cases ps with
    | nil => exact Or.inl ⟨rfl, rfl⟩
    | cons p ps => exact h.elim
  | cons i is ih => intro ps h; cases ps with
    | nil => exact h.elim
    | cons p ps =>
      show ((if kK p = k then some p else zG k ps) = none ∧ (if kK p = k then some i else zRx k is ps) = none) ∨ ∃ q j, (if kK p = k then some p else zG k ps) = some q ∧ (if kK p = k then some i else zRx k is ps) = some j ∧ j ∈ i :: is ∧ q ∈ p :: ps ∧ zR1 s j q ∧ kK q = k
      by_cases hk : kK p = k
      · rw [if_pos hk, if_pos hk]
        exact Or.inr ⟨p, i, rfl, rfl, List.mem_cons_self, List.mem_cons_self, h.1, hk⟩
      · rw [if_neg hk, if_neg hk]
        rcases ih h.2 with q | ⟨q, j, g1, g2, g3, g4, g5, g6⟩
        · exact Or.inl q
        · exact Or.inr ⟨q, j, g1, g2, List.mem_cons_of_mem _ g3, List.mem_cons_of_mem _ g4, g5, g6⟩
/-- a row of an object is that of its key -/
theorem zRx_of {s : zSt} {k : Int64} : ∀ {is : List Nat} {ps : List zPr}, zRw s is ps → ps.Pairwise (fun p q => kK p ≠ kK q) → ∀ i ∈ is, gB s 1 i = k → zRx k is ps = some i := by
  intro is
  induction is with
  | nil => intro ps _ _ i hi; cases hi
  | cons j is ih => intro ps h hd i hi hk; cases ps with
    | nil => exact h.elim
    | cons p ps =>
      rw [List.pairwise_cons] at hd
      show (if kK p = k then some j else zRx k is ps) = some i
      rcases List.mem_cons.mp hi with e | e
      · subst e
        rw [if_pos (h.1.1.symm.trans hk)]
      · have h2 := ih h.2 hd.2 i e hk
        have hne : kK p ≠ k := by
          rcases zRx_at (k := k) h.2 with ⟨-, q⟩ | ⟨q, -, -, -, -, g4, -, g6⟩
          · rw [h2] at q; cases q
          · rw [← g6]; exact hd.1 q g4
        rw [if_neg hne, h2]
section ZM2
variable {σ : zSg} {ρ : Nat → List Nat} {ow od : Nat → Nat} {nr md : Nat} {s : zSt}
theorem zMo.obj (h : zMo σ ρ ow od nr md s) {o : Nat} (h1 : 1 ≤ o) (h2 : o < gn σ) : zRw s (ρ o) (oL (gO σ o)) ∧ (ρ o).Nodup ∧ (∀ i, i ∈ ρ o ↔ i < nr ∧ ow i = o) ∧ (ρ o).Pairwise (fun i j => gB s 1 i < 0 → gB s 1 j < 0 → od i < od j) := h.2.2.2.2.2.2 o h1 h2
theorem zMo.own_eq (h : zMo σ ρ ow od nr md s) (hW : zWf σ) {i o : Nat} (hi : i < nr) (h1 : 1 ≤ o) (h2 : o < gn σ) : gA s 5 i = nI o ↔ i ∈ ρ o := by
  obtain ⟨a1, a2, -⟩ := h.2.2.2.2.2.1 i hi
  have hw := hW.2.1
  rw [a1, (h.obj h1 h2).2.2.1 i]
  exact ⟨fun q => ⟨hi, qI_inj (by omega) (by omega) q⟩, fun q => by rw [q.2]⟩
theorem m_find3 (h : zMo σ ρ ow od nr md s) (hW : zWf σ) {o : Nat} (h1 : 1 ≤ o) (h2 : o < gn σ) (k : Int64) : ∀ (d j n : Nat), d + j = nr → d < n → (∀ i, i < j → i ∈ ρ o → gB s 1 i ≠ k) → F_R_find_3 n (nI o) k (nI j) s = some (zRi (zRx k (ρ o) (oL (gO σ o))), s) := by
  obtain ⟨a1, a2, a3, a4, a5⟩ := h.1
  have hobj := h.obj h1 h2
  have hpd := zBf_ne (hW.2.2.2.1 o h1 h2).2.2.1
  intro d
  induction d with
  | zero =>
    intro j n hd hn hno
    obtain ⟨m, rfl⟩ : ∃ m, n = m + 1 := ⟨n - 1, by omega⟩
    have hj : j = nr := by omega
    rw [F_R_find_3, a2, if_pos ((qI_le (by omega) (by omega)).mpr (by omega))]
    rcases zRx_at (k := k) hobj.1 with ⟨-, q⟩ | ⟨p, i, -, q, q1, -, q2, q3⟩
    · rw [q]; rfl
    · exfalso
      have hi := (hobj.2.2.1 i).mp q1
      exact hno i (by omega) q1 (q2.1.trans q3)
  | succ d ih =>
    intro j n hd hn hno
    obtain ⟨m, rfl⟩ : ∃ m, n = m + 1 := ⟨n - 1, by omega⟩
    have c5 : gA s 5 (nI j).toNatClampNeg = gA s 5 j := by rw [nI_clamp (by omega)]
    have c1 : gB s 1 (nI j).toNatClampNeg = gB s 1 j := by rw [nI_clamp (by omega)]
    rw [F_R_find_3, a2, if_neg (fun q => by have := (qI_le (a := nr) (b := j) (by omega) (by omega)).mp q; omega), if_pos (zin_nI' (by omega) (by decide)), c5, c1]
    unfold F_R_find_38
    have e1 : nI j + 1 = nI (j + 1) := (nI_succ j).symm
    have next : (j ∈ ρ o → gB s 1 j ≠ k) → F_R_find_3 m (nI o) k (nI j + 1) s = some (zRi (zRx k (ρ o) (oL (gO σ o))), s) := by
      intro hj
      rw [e1]
      refine ih (j + 1) m (by omega) (by omega) (fun i hi hm => ?_)
      by_cases hij : i = j
      · rw [hij] at hm ⊢; exact hj hm
      · exact hno i (by omega) hm
    by_cases ho : gA s 5 j = nI o
    · have hm := (h.own_eq hW (by omega) h1 h2).mp ho
      rw [if_pos ho, if_pos (zin_nI' (by omega) (by decide))]
      by_cases hk : gB s 1 j = k
      · rw [if_pos ((lg_cmp_eq _ _).mpr hk), zRx_of hobj.1 hpd j hm hk]
        rfl
      · rw [if_neg (fun q => hk ((lg_cmp_eq _ _).mp q))]
        exact next (fun _ => hk)
    · rw [if_neg ho]
      exact next (fun hm => absurd ((h.own_eq hW (by omega) h1 h2).mpr hm) ho)
theorem m_find (h : zMo σ ρ ow od nr md s) (hW : zWf σ) {o : Nat} (h1 : 1 ≤ o) (h2 : o < gn σ) (k : Int64) : F_R_find (nI o) k s = some (zRi (zRx k (ρ o) (oL (gO σ o))), s) :=
  m_find3 h hW h1 h2 k nr 0 zFuel (by omega) (by have := h.1.2.2.2; rw [zFuel_eq]; omega) (fun i hi => by omega)
/-- the row of the property that lookup finds -/
def zLr (σ : zSg) (ρ : Nat → List Nat) (k : Int64) : Nat → Nat → Option Nat
  | 0, _ => none
  | n + 1, o => if o = 0 then none else match zRx k (ρ o) (oL (gO σ o)) with
    | some i => some i
    | none => zLr σ ρ k n (oP (gO σ o))
theorem zLr_at (h : zMo σ ρ ow od nr md s) (hW : zWf σ) (k : Int64) : ∀ (n o : Nat), o < gn σ → (zLu σ k n o = none ∧ zLr σ ρ k n o = none) ∨ ∃ p i, zLu σ k n o = some p ∧ zLr σ ρ k n o = some i ∧ i < nr ∧ zR1 s i p ∧ zWp p ∧ kO p < gn σ ∧ kS p < gn σ := by
  intro n
  induction n with
  | zero => intro o _; exact Or.inl ⟨rfl, rfl⟩
  | succ n ih =>
    intro o ho
    rw [zLu, zLr]
    by_cases h0 : o = 0
    · rw [if_pos h0, if_pos h0]; exact Or.inl ⟨rfl, rfl⟩
    · rw [if_neg h0, if_neg h0]
      have hobj := h.obj (by omega) ho
      have hwo := hW.2.2.2.1 o (by omega) ho
      rcases zRx_at (k := k) hobj.1 with ⟨q1, q2⟩ | ⟨p, i, q1, q2, q3, q4, q5, q6⟩
      · rw [q1, q2]; exact ih _ (by have := hwo.1; omega)
      · rw [q1, q2]
        obtain ⟨w1, w2, w3⟩ := hwo.2.1 p q4
        exact Or.inr ⟨p, i, rfl, rfl, ((hobj.2.2.1 i).mp q3).1, q5, w1, w2, w3⟩
theorem m_look (h : zMo σ ρ ow od nr md s) (hW : zWf σ) (k : Int64) : ∀ (o n m : Nat), 1 ≤ o → o < gn σ → o < n → o < m → F_R_lookUp_12 n k (nI o) (zRi (zRx k (ρ o) (oL (gO σ o)))) s = some (zRi (zLr σ ρ k m o), s) := by
  have hw := hW.2.1
  have hnr := h.1.2.2.2
  intro o
  induction o using Nat.strongRecOn with
  | ind o ih =>
    intro n m h1 h2 hn hm
    obtain ⟨n, rfl⟩ : ∃ k, n = k + 1 := ⟨n - 1, by omega⟩
    obtain ⟨m, rfl⟩ : ∃ k, m = k + 1 := ⟨m - 1, by omega⟩
    have hobj := h.obj h1 h2
    rw [F_R_lookUp_12, zLr, if_neg (show ¬ o = 0 by omega)]
    unfold F_R_lookUp_48
    rcases zRx_at (k := k) hobj.1 with ⟨q1, q2⟩ | ⟨p, i, q1, q2, q3, q4, q5, q6⟩
    · rw [q2]
      have e0 : ¬ ((0 : Int32) ≤ zRi none) := by decide
      have hp := (hW.2.2.2.1 o h1 h2).1
      have c2 : gA s 2 (nI o).toNatClampNeg = nI (oP (gO σ o)) := by rw [nI_clamp (by omega), (h.2.1 o h1 h2).1]
      rw [if_neg e0, if_pos (zin_nI' (by omega) (by decide)), c2]
      by_cases hp0 : oP (gO σ o) = 0
      · rw [if_pos ((qI_le0 (by omega)).mpr hp0), hp0]
        have : zLr σ ρ k m 0 = none := by cases m <;> rfl
        rw [this]
      · rw [if_neg (fun q => hp0 ((qI_le0 (by omega)).mp q)), if_pos (zin_nI' (by omega) (by decide)), m_find h hW (by omega) (by omega), zb_some]
        exact ih (oP (gO σ o)) hp n m (by omega) (by omega) (by omega) (by omega)
    · rw [q2]
      have hi := ((hobj.2.2.1 i).mp q3).1
      have e0 : (0 : Int32) ≤ zRi (some i) := qI_nonneg (by omega)
      rw [if_pos e0]
theorem m_lookUp (h : zMo σ ρ ow od nr md s) (hW : zWf σ) (k : Int64) {o : Nat} (h1 : 1 ≤ o) (h2 : o < gn σ) : F_R_lookUp (nI o) k s = some (zRi (zLr σ ρ k 600 o), s) := by
  have hw := hW.2.1
  unfold F_R_lookUp
  rw [m_find h hW h1 h2, zb_some]
  exact m_look h hW k o zFuel 600 h1 h2 (by rw [zFuel_eq]; omega) (by omega)
theorem m_has {i : Nat} {m : Int32} {p : zPr} (hi : i < 8400) (hp : zR1 s i p) : F_R_has_0 (nI i) m s = some (bI (kF p &&& m = m), s) := by
  unfold F_R_has_0 F_R_has_0_17
  rw [if_pos (zin_nI' hi (by decide)), nI_clamp (by omega), hp.2.1]
  by_cases hc : kF p &&& m = m
  · rw [bI_t hc]
    first
      | rw [if_pos hc, if_pos z_nar1]
      | rw [if_neg (fun q => q hc), if_pos z_nar1]
  · rw [bI_f hc]
    first
      | rw [if_neg hc, if_pos z_nar0]
      | rw [if_pos hc, if_pos z_nar0]
end ZM2

/-! the law's loop -/
theorem law_loop {X : zkX} (hX : X.1 ≤ 4096) {R L : Nat} : ∀ (d c n : Nat) (σ : zSg) (s : zSt), zLI R L σ c s → X.1 ≤ 8 * (c + d) + 7 → 8 * c ≤ X.1 → d < n → ∃ t σ2 c2, c2 ≤ 512 ∧ F_L_law_23 X n (nI (8 * c)) s = some (1, t) ∧ zLI R L σ2 c2 t := by
  intro d
  induction d with
  | zero =>
    intro c n σ s h h1 h2 hn
    obtain ⟨m, rfl⟩ : ∃ m, n = m + 1 := ⟨n - 1, by omega⟩
    have hlt : ((Int32.ofNat X.1) - (8 : Int32)) < nI (8 * c) := by
      rw [Int32.lt_iff_toInt_lt, qI_toInt (by omega)]
      have e : ((Int32.ofNat X.1) - (8 : Int32)).toInt = (X.1 : Int) - 8 := by
        rw [Int32.toInt_sub]
        have e1 : (Int32.ofNat X.1).toInt = (X.1 : Int) := qI_toInt (by omega)
        have e2 : (8 : Int32).toInt = 8 := rfl
        rw [e1, e2]
        exact Int.bmod_eq_of_le (by omega) (by omega)
      rw [e]
      omega
    rw [F_L_law_23, if_pos hlt]
    exact ⟨s, σ, c, by omega, rfl, h⟩
  | succ d ih =>
    intro c n σ s h h1 h2 hn
    obtain ⟨m, rfl⟩ : ∃ m, n = m + 1 := ⟨n - 1, by omega⟩
    have e : ((Int32.ofNat X.1) - (8 : Int32)).toInt = (X.1 : Int) - 8 := by
      rw [Int32.toInt_sub]
      have e1 : (Int32.ofNat X.1).toInt = (X.1 : Int) := qI_toInt (by omega)
      have e2 : (8 : Int32).toInt = 8 := rfl
      rw [e1, e2]
      exact Int.bmod_eq_of_le (by omega) (by omega)
    by_cases hlt : ((Int32.ofNat X.1) - (8 : Int32)) < nI (8 * c)
    · rw [F_L_law_23, if_pos hlt]
      exact ⟨s, σ, c, by omega, rfl, h⟩
    · have hle : 8 * c + 8 ≤ X.1 := by
        apply Classical.byContradiction
        intro hq
        apply hlt
        rw [Int32.lt_iff_toInt_lt, qI_toInt (by omega), e]
        omega
      have hz : ∀ j : Nat, j < 8 → zin (nI (8 * c) + nI j) X.1 := by
        intro j hj
        rw [qI_add]
        exact zin_nI' (by omega) (by omega)
      obtain ⟨u, σ2, e1, e2⟩ := law_step m h (by omega) hlt (zin_nI' (by omega) (by omega)) (hz 1 (by decide)) (hz 2 (by decide)) (hz 3 (by decide)) (hz 4 (by decide)) (hz 5 (by decide)) (hz 6 (by decide)) (hz 7 (by decide))
      have e3 : nI (8 * c) + 8 = nI (8 * (c + 1)) := by
        have := qI_add (8 * c) 8
        rw [show 8 * (c + 1) = 8 * c + 8 by omega, ← this]
        rfl
      rw [e1, e3]
      exact ih (c + 1) m σ2 u e2 (by omega) (by omega) (by omega)
theorem law_all {X : zkX} (hX : X.1 ≤ 4096) {R L : Nat} {σ : zSg} {s : zSt} (h : zLI R L σ 0 s) : ∃ t σ2 c2, c2 ≤ 512 ∧ F_L_law X s = some (1, t) ∧ zLI R L σ2 c2 t := law_loop hX 512 0 zFuel σ s h (by omega) (by omega) (by rw [zFuel_eq]; omega)
theorem law_room {R L : Nat} {σ : zSg} {c : Nat} {s : zSt} (h : zLI R L σ c s) (hc : c ≤ 512) (hR : R ≤ 100000) (hL : L ≤ 1000) : (zHp s).2.length ≤ 601025 ∧ (zHp s).1 ≤ 7293034 := by
  obtain ⟨e1, e2⟩ := zHp_room s
  obtain ⟨lv, β, π, nb, FL, h1, h2, h3⟩ := h.2.2.1
  have hnb := h1.1.ok.2
  omega
theorem law_W {X : zkX} (hX : X.1 ≤ 4096) {R L : Nat} {σ : zSg} {s : zSt} (h : zLI R L σ 0 s) (hR : R ≤ 100000) (hL : L ≤ 1000) : zk_W X 11 m_L_law (20, [(0, .ref 0), (1, .ref 1), (2, .ref 7), (3, .ref 20)], [], zHp s) zk_Lq := by
  obtain ⟨t, σ2, c2, hc, e, hI⟩ := law_all hX h
  obtain ⟨n, o, h1, h2⟩ := zF_L_law s _ e
  obtain ⟨r1, r2⟩ := law_room hI hc hR hL
  refine ⟨n, o, h1, ?_⟩
  rw [h2]
  exact ⟨rfl, r1, r2⟩

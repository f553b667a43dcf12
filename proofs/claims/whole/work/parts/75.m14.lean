/-! the model: define, put -/
theorem zG_upne {k k2 : Int64} {q : zPr} (hq : kK q = k) (hk : k2 ≠ k) : ∀ ps : List zPr, zG k2 (zUp k q ps) = zG k2 ps := by
  intro ps
  induction ps with
  | nil => rfl
  | cons p r ih =>
    show zG k2 (if kK p = k then q :: r else p :: zUp k q r) = (if kK p = k2 then some p else zG k2 r)
    by_cases h : kK p = k
    · rw [if_pos h, if_neg (fun z => hk (z.symm.trans h))]
      show (if kK q = k2 then _ else zG k2 r) = _
      rw [if_neg (fun z => hk (z.symm.trans hq))]
    · rw [if_neg h]
      show (if kK p = k2 then some p else zG k2 (zUp k q r)) = _
      rw [ih]
theorem zG_insne {k k2 : Int64} {q : zPr} (hq : kK q = k) (hk : k2 ≠ k) : ∀ ps : List zPr, zG k2 (zIns k q ps) = zG k2 ps := by
  intro ps
  induction ps with
  | nil =>
    show (if kK q = k2 then some q else none) = none
    rw [if_neg (fun z => hk (z.symm.trans hq))]
  | cons p r ih =>
    show zG k2 (if zAh (kK p) k then p :: zIns k q r else q :: p :: r) = (if kK p = k2 then some p else zG k2 r)
    by_cases h : zAh (kK p) k
    · rw [if_pos h]
      show (if kK p = k2 then some p else zG k2 (zIns k q r)) = _
      rw [ih]
    · rw [if_neg h]
      show (if kK q = k2 then some q else if kK p = k2 then some p else zG k2 r) = _
      rw [if_neg (fun z => hk (z.symm.trans hq))]
theorem z_lenf {d : zDs} {on : Int32} {p : zPr} (hF : dF d = on &&& dT d &&& 50) (hf : kF p = 0 ∨ kF p = 2) (hx : zFix d p = false) : dT d &&& 12 = 0 ∧ (kF (zBec d p) = 0 ∨ kF (zBec d p) = 2) := by
  have h64 : kF p &&& 64 = 0 := by rcases hf with e | e <;> rw [e] <;> rfl
  have h16 : kF p &&& 16 = 0 := by rcases hf with e | e <;> rw [e] <;> rfl
  unfold zFix at hx
  by_cases h32 : dF d &&& 32 ≠ 0
  · rw [if_pos h32] at hx; cases hx
  · rw [if_neg h32] at hx
    have h32' : dF d &&& 32 = 0 := Classical.byContradiction h32
    by_cases hb : dT d &&& 16 ≠ 0 ∧ ¬ (bI (dF d &&& 16 ≠ 0) = bI (kF p &&& 16 ≠ 0))
    · rw [if_pos hb] at hx; cases hx
    · rw [if_neg hb, if_neg (fun z => z h64)] at hx
      have h16' : dF d &&& 16 = 0 := by
        by_cases ht : dT d &&& 16 = 0
        · rw [hF, i_dF (by decide), ht, Int32.and_zero]
        · apply Classical.byContradiction
          intro z
          apply hb
          refine ⟨ht, fun e => ?_⟩
          rw [bI_t z, bI_f (fun w => w h16)] at e
          exact absurd e (by decide)
      by_cases h12 : dT d &&& 12 ≠ 0
      · rw [if_pos h12] at hx; cases hx
      · have h12' : dT d &&& 12 = 0 := Classical.byContradiction h12
        refine ⟨h12', ?_⟩
        have hdf : dF d = dF d &&& 2 := by
          have e1 : dF d = dF d &&& 50 := by
            rw [hF, Int32.and_assoc (on &&& dT d) 50 50, show (50 : Int32) &&& 50 = 50 from rfl]
          have e2 := i_and50 (dF d)
          rw [h32', h16', Int32.or_zero, Int32.or_zero, ← e1] at e2
          exact e2.symm
        have hdf2 : dF d = 0 ∨ dF d = 2 := by
          rcases i_b2 (dF d) with e | e
          · exact Or.inl (hdf.trans e)
          · exact Or.inr (hdf.trans e)
        have hkf : ∀ y : Int32, kF p &&& y = 0 ∨ kF p &&& y = 2 := by
          intro y
          rcases hf with e | e
          · rw [e]; exact Or.inl Int32.zero_and
          · rw [e, Int32.and_comm]; exact i_b2 y
        have b1 : zB1 d p = p := by unfold zB1; rw [if_pos h64, if_pos h12']
        have ek : kF (zBec d p) = (kF p &&& ((dT d &&& 50) ^^^ (-1))) ||| dF d := by
          unfold zBec
          rw [b1]
          unfold zB5 zB4 zB3 zB2
          split <;> split <;> split <;> rfl
        rw [ek]
        rcases hkf ((dT d &&& 50) ^^^ (-1)) with e | e <;> rcases hdf2 with e2 | e2 <;> rw [e, e2]
        · exact Or.inl rfl
        · exact Or.inr rfl
        · exact Or.inr rfl
        · exact Or.inr rfl
theorem zPl_len {x : zOb} {k : Int64} {d : zDs} {on : Int32} {pl : zPr} (hF : dF d = on &&& dT d &&& 50) (hg : zG (-1) (oL x) = some pl) (hkp : kK pl = -1) (hf : kF pl = 0 ∨ kF pl = 2) (hD : kD pl = 4) (hk1 : k = -1 → dT d &&& 1 = 0) (h0 : (zPl x k d).1 = 0) : ∃ p2, zG (-1) (oL (zPl x k d).2) = some p2 ∧ (kF p2 = 0 ∨ kF p2 = 2) ∧ kD p2 = 4 ∧ kK p2 = -1 := by
  unfold zPl at h0 ⊢
  by_cases hk : k = -1
  · subst hk
    rw [hg] at h0 ⊢
    dsimp only at h0 ⊢
    by_cases hc : zChg d pl = true
    · rw [if_pos hc] at h0; exact absurd (show (2 : Int32) = 0 from h0) (by decide)
    · rw [if_neg hc] at h0 ⊢
      have h32 : kF pl &&& 32 = 0 := by rcases hf with e | e <;> rw [e] <;> rfl
      have hx : zFix d pl = false := by
        unfold zChg at hc
        rw [decide_eq_true h32, Bool.true_and] at hc
        cases hz : zFix d pl with
        | false => rfl
        | true => exact absurd hz hc
      obtain ⟨e1, e2⟩ := z_lenf hF hf hx
      refine ⟨zBec d pl, zG_up ((kK_bec d pl).trans hkp) (by rw [hg]; exact fun z => by cases z), e2, ?_, (kK_bec d pl).trans hkp⟩
      have h64 : kF pl &&& 64 = 0 := by rcases hf with e | e <;> rw [e] <;> rfl
      have b1 : zB1 d pl = pl := by unfold zB1; rw [if_pos h64, if_pos e1]
      have e3 : ∀ p, zB3 d p = p := fun p => if_pos (hk1 rfl)
      have e4 : ∀ p, zB4 d p = p := fun p => if_pos (i_sub (by decide) e1)
      have e5 : ∀ p, zB5 d p = p := fun p => if_pos (i_sub (by decide) e1)
      unfold zBec
      rw [b1, e5, e4, e3]
      exact hD
  · refine ⟨pl, ?_, hf, hD, hkp⟩
    cases hz : zG k (oL x) with
    | some p =>
      rw [hz] at h0
      dsimp only at h0 ⊢
      by_cases hc : zChg d p = true
      · rw [if_pos hc]; exact hg
      · rw [if_neg hc]
        have hkk : kK p = k := by
          have : ∀ ps : List zPr, zG k ps = some p → kK p = k := by
            intro ps
            induction ps with
            | nil => intro h; cases h
            | cons a r ih =>
              intro h
              have h : (if kK a = k then some a else zG k r) = some p := h
              by_cases e : kK a = k
              · rw [if_pos e] at h; rw [← Option.some.inj h]; exact e
              · rw [if_neg e] at h; exact ih h
          exact this _ hz
        show zG (-1) (zUp k (zBec d p) (oL x)) = some pl
        rw [zG_upne ((kK_bec d p).trans hkk) (fun z => hk z.symm)]; exact hg
    | none =>
      rw [hz] at h0
      dsimp only at h0 ⊢
      cases hE : oE x with
      | true =>
        rw [if_pos rfl]
        show zG (-1) (zIns k (zBec d (k, 0, 0, 0, 0, 0)) (oL x)) = some pl
        rw [zG_insne (k := k) ((kK_bec d (k, 0, 0, 0, 0, 0)).trans rfl) (fun z => hk z.symm)]; exact hg
      | false => rw [if_neg (by decide)]; exact hg
theorem zWo.len {σ : zSg} {o : Nat} (h : zWo σ o) (ha : oA (gO σ o) = true) : ∃ pl, zG (-1) (oL (gO σ o)) = some pl ∧ kK pl = -1 ∧ (kF pl = 0 ∨ kF pl = 2) ∧ kD pl = 4 := by
  obtain ⟨p, hp, hk, hf, hD⟩ := h.2.2.2 ha
  exact ⟨p, zG_mem (zBf_ne h.2.2.1) hp hk, hk, hf, hD⟩
section ZMF
variable {σ : zSg} {ρ : Nat → List Nat} {ow od : Nat → Nat} {nr md : Nat} {s t : zSt}
theorem m_own (h : zMo σ ρ ow od nr md s) (hW : zWf σ) (hmd : md < 600) {o : Nat} (h1 : 1 ≤ o) (h2 : o < gn σ) {d : zDs} {told on kd : Int32} {b : Int64} {pair : Int32} (hd : zDn d told on kd b pair) {k : Int64} (hk : zKy k) :
    ∃ t ρ2 ow2 od2 nr2 md2, F_R_defineOwn (nI o) k told on kd b pair s = some ((zDp (gO σ o) k d).1, t) ∧ md2 ≤ md + 1 ∧ zMo (zSO σ o (zDp (gO σ o) k d).2) ρ2 ow2 od2 nr2 md2 t ∧ zKC s t ∧ gI t 13 = gI s 13 := by
  have hw := hW.2.1
  have hwo := hW.2.2.2.1 o h1 h2
  have hz : zin (nI o) 4200 := zin_nI' (by omega) (by decide)
  have c3 : gA s 3 (nI o).toNatClampNeg = bI (oA (gO σ o) = true) := by rw [nI_clamp (by omega), (h.2.1 o h1 h2).2.1]
  have hpl : ∃ t ρ2 ow2 od2 nr2 md2, F_R_defineOwn_59 (nI o) k told on kd b pair s = some ((zPl (gO σ o) k d).1, t) ∧ md2 ≤ md + 1 ∧ zMo (zSO σ o (zPl (gO σ o) k d).2) ρ2 ow2 od2 nr2 md2 t ∧ zKC s t ∧ gI t 13 = gI s 13 := by
    obtain ⟨t, ρ2, ow2, od2, nr2, md2, r1, r2, r3, r4, r5, r6⟩ := m_plain h hW hmd h1 h2 hd.1 k
    unfold F_R_defineOwn_59
    rw [r1, zb_some]
    exact ⟨t, ρ2, ow2, od2, nr2, md2, rfl, r2, r3, r4, r5⟩
  unfold F_R_defineOwn zDp
  rw [if_pos hz, c3]
  cases hA : oA (gO σ o) with
  | false =>
    rw [if_pos (bI_eq0.mpr (by decide)), if_neg (by decide)]
    unfold F_R_defineOwn_40
    rw [if_pos hz, c3, hA, if_pos (bI_eq0.mpr (by decide))]
    exact hpl
  | true =>
    rw [if_neg (fun z => bI_eq0.mp z rfl), if_pos rfl]
    obtain ⟨pl, hg, hkp, hf, hD⟩ := hwo.len hA
    have h64 : kF pl &&& 64 = 0 := by rcases hf with e | e <;> rw [e] <;> rfl
    obtain ⟨g1, g2, g3, g4⟩ := h.obj h1 h2
    obtain ⟨i9, hx, hi9, hr9, hm9⟩ : ∃ i9, zRx (-1) (ρ o) (oL (gO σ o)) = some i9 ∧ i9 < nr ∧ zR1 s i9 pl ∧ pl ∈ oL (gO σ o) := by
      rcases zRx_at (k := -1) g1 with ⟨q1, -⟩ | ⟨p2, i, q1, q2, q3, q4, q5, q6⟩
      · rw [hg] at q1; cases q1
      · rw [hg] at q1
        have e1 := Option.some.inj q1
        subst e1
        exact ⟨i, q2, ((g3 _).mp q3).1, q5, q4⟩
    have hnr := h.1.2.2.2
    obtain ⟨w1, w2, w3⟩ := hwo.2.1 pl hm9
    rw [hg, Option.getD_some]
    have p40 : (k = -1 → told &&& 1 = 0) → ∃ t ρ2 ow2 od2 nr2 md2, F_R_defineOwn_40 (nI o) k told on kd b pair s = some ((if k < cAl (kD pl) (kN pl) then zPl (gO σ o) k d else if kF pl &&& 2 = 0 then (2, gO σ o) else if (zPl (gO σ o) k d).1 = 0 then (0, zSL (zPl (gO σ o) k d).2 (zUp (-1) (zWl (k + 1) ((zG (-1) (oL (zPl (gO σ o) k d).2)).getD zp0)) (oL (zPl (gO σ o) k d).2))) else zPl (gO σ o) k d).1, t) ∧ md2 ≤ md + 1 ∧ zMo (zSO σ o (if k < cAl (kD pl) (kN pl) then zPl (gO σ o) k d else if kF pl &&& 2 = 0 then (2, gO σ o) else if (zPl (gO σ o) k d).1 = 0 then (0, zSL (zPl (gO σ o) k d).2 (zUp (-1) (zWl (k + 1) ((zG (-1) (oL (zPl (gO σ o) k d).2)).getD zp0)) (oL (zPl (gO σ o) k d).2))) else zPl (gO σ o) k d).2) ρ2 ow2 od2 nr2 md2 t ∧ zKC s t ∧ gI t 13 = gI s 13 := by
      intro hk1
      unfold F_R_defineOwn_40 F_R_defineOwn_134
      rw [if_pos hz, c3, hA, if_neg (fun z => bI_eq0.mp z rfl), m_lengthOf h hW h1 h2 hx hg h64 hD, zb_some]
      by_cases hlt : k < cAl (kD pl) (kN pl)
      · rw [if_neg (fun z => absurd hlt (Int64.not_lt.mpr ((z_lc _ _).mp z))), if_pos hlt]
        exact hpl
      · have hge := Int64.not_lt.mp hlt
        rw [if_pos ((z_lc _ _).mpr hge), if_neg hlt, m_find h hW h1 h2, zb_some, hx, zRi_some, m_has (by omega) hr9, zb_some]
        by_cases hF2 : kF pl &&& 2 = 0
        · rw [if_pos (bI_eq0.mpr (fun z => (w1.bit (by simp)).mp z hF2)), if_pos hF2]
          exact ⟨s, ρ, ow, od, nr, md, rfl, by omega, by rw [zSO_self]; exact h, zKC.rf s, rfl⟩
        · rw [if_neg (fun z => bI_eq0.mp z ((w1.bit (by simp)).mpr hF2)), if_neg hF2]
          obtain ⟨t, ρ2, ow2, od2, nr2, md2, r1, r2, r3, r4, r5, r6⟩ := m_plain h hW hmd h1 h2 hd.1 k
          rw [r1, zb_some]
          by_cases h0 : (zPl (gO σ o) k d).1 = 0
          · rw [if_pos h0, if_pos h0]
            obtain ⟨m, hm1, hm2⟩ : ∃ m, m < 2 ^ 32 ∧ k + 1 = nL m := by
              by_cases hk0 : 0 ≤ k
              · obtain ⟨m, k1, k2, k3⟩ := z_k1 hk0 hk.2
                exact ⟨m + 1, by omega, k3⟩
              · have hk0' := Int64.not_le.mp hk0
                have : k = -1 := by
                  rcases cAl_bd (kD pl) (kN pl) with e | ⟨m, e1, e2⟩
                  · rw [e] at hge
                    apply Int64.toInt_inj.mp
                    have a1 := Int64.le_iff_toInt_le.mp hge
                    have a2 := Int64.lt_iff_toInt_lt.mp hk0'
                    rw [show (-1 : Int64).toInt = -1 from rfl] at a1 ⊢
                    rw [show (0 : Int64).toInt = 0 from rfl] at a2
                    omega
                  · rw [e2] at hge
                    have := Int64.le_trans ((w_le (a := 0) (b := m) (by decide) (by omega)).mpr (by omega)) hge
                    exact absurd this hk0
                exact ⟨0, by decide, by rw [this]; rfl⟩
            rw [hm2, m_bitsOf hm1, zb_some, if_pos (zin_nI' (by omega) (by decide)), nI_clamp (by omega)]
            obtain ⟨p2, e1, e2, e3, e4⟩ := zPl_len (x := gO σ o) (k := k) (d := d) (on := on) (by rw [hd.1.2.1, hd.1.1]) hg hkp hf hD (fun z => by rw [hd.1.1]; exact hk1 z) h0
            rw [e1, Option.getD_some]
            have r6' := r6 (-1) i9 hx
            have p64 : kF p2 &&& 64 = 0 := by rcases e2 with e | e <;> rw [e] <;> rfl
            obtain ⟨o1, o2, o3, o4⟩ := r3.obj h1 h2
            rw [gO_own] at o1
            have hrp : zR1 t i9 p2 := by
              rcases zRx_at (k := -1) o1 with ⟨q1, -⟩ | ⟨p3, i, q1, q2, q3, q4, q5, q6⟩
              · rw [e1] at q1; cases q1
              · rw [e1] at q1
                rw [r6'] at q2
                have e1 := Option.some.inj q1
                have e2 := Option.some.inj q2
                subst e1 e2
                exact q5
            have hT := zRTp.of hrp
            unfold zRTp at hT
            rw [if_pos p64, if_pos p64, if_pos p64, if_pos p64, e3] at hT
            have hT2 : zRTp t (sBu t 2 i9 (cOf (nL m))) i9 (zWl (nL m) p2) := by
              unfold zRTp
              show zRT t _ i9 (kF p2) (if kF p2 &&& 64 = 0 then 4 else 0) (if kF p2 &&& 64 = 0 then zBt 4 (cOf (nL m)) 0 else 0) (if kF p2 &&& 64 = 0 then 0 else nI 0) (if kF p2 &&& 64 = 0 then 0 else nI (kS p2))
              rw [if_pos p64, if_pos p64, if_pos p64, if_pos p64]
              exact hT.s2 (cOf (nL m))
            have hrow := r3.row h1 h2 (k := -1) (i := i9) (q := zWl (nL m) p2) (by rw [gO_own]; exact r6') e4 hT2
            rw [zSO_SO, gO_own] at hrow
            exact ⟨_, ρ2, ow2, od2, nr2, md2, by rw [h0]; rfl, r2, hrow, r4.tr hT2.1.1.2, hT2.1.2.1.1.trans r5⟩
          · rw [if_neg h0, if_neg h0]
            exact ⟨t, ρ2, ow2, od2, nr2, md2, rfl, r2, r3, r4, r5⟩
    by_cases hk1 : k = -1
    · rw [if_pos ((lg_cmp_eq _ _).mpr hk1), m_told, zb_some]
      by_cases h1t : told &&& 1 = 0
      · rw [if_pos (bI_eq0.mpr (fun z => z h1t)), if_neg (fun z => z.2 (by rw [hd.1.1]; exact h1t))]
        exact p40 (fun _ => h1t)
      · rw [if_neg (fun z => bI_eq0.mp z h1t), if_pos ⟨hk1, by rw [hd.1.1]; exact h1t⟩]
        obtain ⟨t, ρ2, ow2, od2, nr2, md2, r1, r2, r3, r4, r5⟩ := m_defl h hW hmd h1 h2 hd h1t hg hf hD
        rw [r1, zb_some]
        exact ⟨t, ρ2, ow2, od2, nr2, md2, rfl, r2, r3, r4, r5⟩
    · rw [if_neg (fun z => hk1 ((lg_cmp_eq _ _).mp z)), if_neg (fun z => hk1 z.1)]
      exact p40 (fun z => absurd z hk1)
theorem m_isPart (h : zMo σ ρ ow od nr md s) (hW : zWf σ) (r : Int32) : F_R_isPart r s = some (bI (r = -1 ∨ zH σ r ≠ 0), s) := by
  unfold F_R_isPart F_R_isPart_13 F_R_isPart_18
  simp only [z_nar1, z_nar0, if_true]
  by_cases h1 : r = -1
  · rw [if_pos h1, bI_t (Or.inl h1)]
  · rw [if_neg h1, m_holds h hW, zb_some]
    by_cases h2 : zH σ r = 0
    · rw [if_pos (bI_eq0.mpr (fun z => z h2)), bI_f (fun z => z.elim h1 (fun w => w h2))]
    · rw [if_neg (fun z => bI_eq0.mp z h2), bI_t (Or.inr h2)]
theorem z_pair {g q : Nat} (hg : g < 600) (hq : q < 600) : (nI g * 4200 + nI q) / 4200 = nI g ∧ (nI g * 4200 + nI q) - (nI g * 4200 + nI q) / 4200 * 4200 = nI q := by
  have e1 : nI g * 4200 + nI q = nI (g * 4200 + q) := by
    rw [← qI_add, ← qI_mul]; rfl
  have e2 : nI (g * 4200 + q) / 4200 = nI g := by
    have := Int32.ofNat_div (a := g * 4200 + q) (b := 4200) (by omega) (by decide)
    rw [show (g * 4200 + q) / 4200 = g by omega] at this
    exact this.symm
  rw [e1, e2]
  refine ⟨rfl, ?_⟩
  have e3 : nI g * 4200 = nI (g * 4200) := by rw [← qI_mul]; rfl
  rw [e3, qI_sub (by omega), show g * 4200 + q - g * 4200 = q by omega]
theorem M_define (h : zMs σ md s) (hW : zWf σ) (hmd : md < 600) (r : Int32) (k : Int64) (told on g q : Int32) : zMq (F_R_define r k told on g q s) (zVl 0 (S_define σ r k told on g q)) (zTh (S_define σ r k told on g q)) (S_define σ r k told on g q).2 md s := by
  obtain ⟨ρ, ow, od, nr, h1⟩ := h
  have hw := hW.2.1
  have h63 : ((0 : Int64) ≤ told.toInt64 ∧ told.toInt64 ≤ 63) ↔ (0 ≤ told ∧ told ≤ 63) := by
    rw [show (0 : Int64) = (0 : Int32).toInt64 from rfl, show (63 : Int64) = (63 : Int32).toInt64 from rfl, z_le64, z_le64]
  have e0 : F_R_define r k told on g q s = F_R_define_110 r k told on g q (bI (((zH σ r ≠ 0 ∧ zKy k) ∧ zTd told) ∧ (told &&& 4 ≠ 0 → g = -1 ∨ zH σ g ≠ 0) ∧ (told &&& 8 ≠ 0 → q = -1 ∨ zH σ q ≠ 0))) s := by
    unfold F_R_define F_R_define_32 F_R_define_33 F_R_define_55 F_R_define_59 F_R_define_60 F_R_define_86 F_R_define_105 F_R_define_109
    rw [m_holds h1 hW, zb_some]
    by_cases c1 : zH σ r ≠ 0
    · rw [if_neg (fun z => bI_eq0.mp z c1), m_isKey, zb_some]
      by_cases c2 : zKy k
      · rw [if_neg (fun z => bI_eq0.mp z c2), m_in, zb_some]
        by_cases c3 : 0 ≤ told ∧ told ≤ 63
        · rw [if_neg (fun z => bI_eq0.mp z (h63.mpr c3)), if_neg z_one, if_neg z_one, if_pos rfl, m_told, zb_some, m_isPart h1 hW, zb_some, m_told, zb_some, m_isPart h1 hW, zb_some]
          have rest : ∀ hT : zTd told, (if bI (told &&& 4 ≠ 0) = 0 then (if bI (told &&& 8 ≠ 0) = 0 then F_R_define_110 r k told on g q 1 s else if bI (q = -1 ∨ zH σ q ≠ 0) = 0 then F_R_define_110 r k told on g q 0 s else F_R_define_110 r k told on g q 1 s) else if bI (g = -1 ∨ zH σ g ≠ 0) = 0 then F_R_define_110 r k told on g q 0 s else (if bI (told &&& 8 ≠ 0) = 0 then F_R_define_110 r k told on g q 1 s else if bI (q = -1 ∨ zH σ q ≠ 0) = 0 then F_R_define_110 r k told on g q 0 s else F_R_define_110 r k told on g q 1 s)) = F_R_define_110 r k told on g q (bI (((zH σ r ≠ 0 ∧ zKy k) ∧ zTd told) ∧ (told &&& 4 ≠ 0 → g = -1 ∨ zH σ g ≠ 0) ∧ (told &&& 8 ≠ 0 → q = -1 ∨ zH σ q ≠ 0))) s := by
            intro hT
            have r8 : (told &&& 4 ≠ 0 → g = -1 ∨ zH σ g ≠ 0) → (if bI (told &&& 8 ≠ 0) = 0 then F_R_define_110 r k told on g q 1 s else if bI (q = -1 ∨ zH σ q ≠ 0) = 0 then F_R_define_110 r k told on g q 0 s else F_R_define_110 r k told on g q 1 s) = F_R_define_110 r k told on g q (bI (((zH σ r ≠ 0 ∧ zKy k) ∧ zTd told) ∧ (told &&& 4 ≠ 0 → g = -1 ∨ zH σ g ≠ 0) ∧ (told &&& 8 ≠ 0 → q = -1 ∨ zH σ q ≠ 0))) s := by
              intro h4
              by_cases t8 : told &&& 8 = 0
              · rw [if_pos (bI_eq0.mpr (fun z => z t8)), bI_t (c := ((zH σ r ≠ 0 ∧ zKy k) ∧ zTd told) ∧ _) ⟨⟨⟨c1, c2⟩, hT⟩, h4, fun z => absurd t8 z⟩]
              · rw [if_neg (fun z => bI_eq0.mp z t8)]
                by_cases hq : q = -1 ∨ zH σ q ≠ 0
                · rw [if_neg (fun z => bI_eq0.mp z hq), bI_t (c := ((zH σ r ≠ 0 ∧ zKy k) ∧ zTd told) ∧ _) ⟨⟨⟨c1, c2⟩, hT⟩, h4, fun _ => hq⟩]
                · rw [if_pos (bI_eq0.mpr hq), bI_f (c := ((zH σ r ≠ 0 ∧ zKy k) ∧ zTd told) ∧ _) (fun z => hq (z.2.2 t8))]
            by_cases t4 : told &&& 4 = 0
            · rw [if_pos (bI_eq0.mpr (fun z => z t4))]
              exact r8 (fun z => absurd t4 z)
            · rw [if_neg (fun z => bI_eq0.mp z t4)]
              by_cases hg : g = -1 ∨ zH σ g ≠ 0
              · rw [if_neg (fun z => bI_eq0.mp z hg)]
                exact r8 (fun _ => hg)
              · rw [if_pos (bI_eq0.mpr hg), bI_f (c := ((zH σ r ≠ 0 ∧ zKy k) ∧ zTd told) ∧ _) (fun z => hg (z.2.1 t4))]
          by_cases t3 : told &&& 3 = 0
          · rw [if_pos t3]
            exact rest ⟨c3, Or.inl t3⟩
          · rw [if_neg t3]
            by_cases t12 : told &&& 12 = 0
            · rw [if_pos t12]
              exact rest ⟨c3, Or.inr t12⟩
            · rw [if_neg t12, bI_f (c := ((zH σ r ≠ 0 ∧ zKy k) ∧ zTd told) ∧ _) (fun z => z.1.2.2.elim t3 t12)]
        · rw [if_pos (bI_eq0.mpr (fun z => c3 (h63.mp z))), if_pos rfl, if_pos rfl, bI_f (c := ((zH σ r ≠ 0 ∧ zKy k) ∧ zTd told) ∧ _) (fun z => c3 z.1.2.1)]
      · rw [if_pos (bI_eq0.mpr c2), if_pos rfl, if_pos rfl, bI_f (c := ((zH σ r ≠ 0 ∧ zKy k) ∧ zTd told) ∧ _) (fun z => c2 z.1.1.2)]
    · rw [if_pos (bI_eq0.mpr c1), if_pos rfl, if_pos rfl, bI_f (c := ((zH σ r ≠ 0 ∧ zKy k) ∧ zTd told) ∧ _) (fun z => c1 z.1.1.1)]
  rw [e0]
  unfold F_R_define_110 F_R_define_142 S_define
  by_cases hc : ((zH σ r ≠ 0 ∧ zKy k) ∧ zTd told) ∧ (told &&& 4 ≠ 0 → g = -1 ∨ zH σ g ≠ 0) ∧ (told &&& 8 ≠ 0 → q = -1 ∨ zH σ q ≠ 0)
  · rw [m_say_t hc, zb_some, if_neg z_one, if_pos hc]
    have hv := zH_V hc.1.1.1
    have h2 := h1.says 0
    have ht : gI (sI s 13 0) 13 = 0 := by rw [gI_sI, if_pos rfl]
    have hk0 : zKC s (sI s 13 0) := zKC.sI s (by decide) _
    generalize sI s 13 0 = s4 at h2 ht hk0 ⊢
    have hr := hW.root r
    have hGlt : (if told &&& 4 = 0 then 0 else zH σ g) < gn σ := by
      split
      · exact hW.1
      · exact hW.root g
    have hSlt : (if told &&& 8 = 0 then 0 else zH σ q) < gn σ := by
      split
      · exact hW.1
      · exact hW.root q
    have part : ∀ x : Int32, (x = -1 ∨ zH σ x ≠ 0) → x < 0 → zH σ x = 0 := by
      intro x _ hx
      unfold zH
      rw [if_neg (fun z => absurd hx (Int32.not_lt.mpr z.1))]
    have part2 : ∀ x : Int32, (x = -1 ∨ zH σ x ≠ 0) → ¬ x < 0 → zV x := by
      intro x h0 hx
      rcases h0 with e | e
      · rw [e] at hx; exact absurd (by decide) hx
      · exact zH_V e
    have e143 : ∀ y0 : Int32, F_R_define_143 r k told on q y0 s4 = F_R_define_171 r k told on y0 (nI (if told &&& 8 = 0 then 0 else zH σ q)) s4 := by
      intro y0
      unfold F_R_define_143 F_R_define_170
      rw [m_told, zb_some]
      by_cases t8 : told &&& 8 = 0
      · rw [if_pos (bI_eq0.mpr (fun z => z t8)), if_pos t8]; rfl
      · rw [if_neg (fun z => bI_eq0.mp z t8), if_neg t8]
        by_cases hq : q < 0
        · rw [if_pos hq, part q (hc.2.2 t8) hq]; rfl
        · have hvq := part2 q (hc.2.2 t8) hq
          rw [if_neg hq, if_pos (zin_rt hvq), h2.root hvq]
    have e110 : (zb (F_R_isTold told 4 s4) (fun v5 s6 => (if v5 = 0 then F_R_define_143 r k told on q 0 s6 else (if g < 0 then F_R_define_143 r k told on q 0 s6 else (if zin g 24 then F_R_define_143 r k told on q (gA s6 1 g.toNatClampNeg) s6 else none))))) = F_R_define_171 r k told on (nI (if told &&& 4 = 0 then 0 else zH σ g)) (nI (if told &&& 8 = 0 then 0 else zH σ q)) s4 := by
      rw [m_told, zb_some]
      by_cases t4 : told &&& 4 = 0
      · rw [if_pos (bI_eq0.mpr (fun z => z t4)), if_pos t4, e143]; rfl
      · rw [if_neg (fun z => bI_eq0.mp z t4), if_neg t4]
        by_cases hg : g < 0
        · rw [if_pos hg, part g (hc.2.1 t4) hg, e143]; rfl
        · have hvg := part2 g (hc.2.1 t4) hg
          rw [if_neg hg, if_pos (zin_rt hvg), h2.root hvg, e143]
    rw [e110]
    unfold F_R_define_171
    obtain ⟨p1, p2⟩ := z_pair (g := if told &&& 4 = 0 then 0 else zH σ g) (q := if told &&& 8 = 0 then 0 else zH σ q) (by omega) (by omega)
    have hop := h2.2.2.2.2.1
    have h24 := hW.2.2.1 24 (by decide)
    rw [if_pos (zin_rt hv), h2.root hv, hop.1, hop.2.1]
    obtain ⟨t, ρ2, ow2, od2, nr2, md2, r1, r2, r3, r4, r5⟩ := m_own h2 hW hmd (o := zH σ r) (by omega) hr (d := (told, on &&& told &&& 50, gPK σ, gPN σ, gR σ 24, if told &&& 4 = 0 then 0 else zH σ g, if told &&& 8 = 0 then 0 else zH σ q)) (told := told) (on := on) (kd := gPK σ) (b := zBt (gPK σ) (gPN σ) (gR σ 24)) (pair := nI (if told &&& 4 = 0 then 0 else zH σ g) * 4200 + nI (if told &&& 8 = 0 then 0 else zH σ q)) ⟨⟨rfl, rfl, rfl, rfl, p1, p2, by show (if told &&& 4 = 0 then 0 else zH σ g) < 600; omega, by show (if told &&& 8 = 0 then 0 else zH σ q) < 600; omega, by show gR σ 24 < 600; omega, hW.2.2.2.2.1, hc.1.2⟩, fun z => if_pos z, fun z => if_pos z⟩ hc.1.1.2
    rw [r1, zb_some]
    exact ⟨t, md2, rfl, r5.trans ht, r2, ⟨ρ2, ow2, od2, nr2, r3⟩, hk0.tr r4⟩
  · rw [m_say_f hc, zb_some, if_pos rfl, if_neg hc]
    exact (m_no h1 0).q
end ZMF

/-! the model: defining the length, defining a property of an object -/
theorem i_or2 {on t : Int32} (h : t &&& 2 = 2) : (on ||| 2) &&& t &&& 50 = (on &&& t &&& 50) ||| 2 := by
  have h2 : ∀ i, i < 32 → (t.toBitVec.getLsbD i && (2 : Int32).toBitVec.getLsbD i) = (2 : Int32).toBitVec.getLsbD i := by
    intro i hi
    have := congrArg (fun x : Int32 => x.toBitVec.getLsbD i) h
    simp only [Int32.toBitVec_and, BitVec.getLsbD_and] at this
    exact this
  have h3 : ∀ i, i < 32 → ((2 : Int32).toBitVec.getLsbD i && (50 : Int32).toBitVec.getLsbD i) = (2 : Int32).toBitVec.getLsbD i := by decide
  apply Int32.toBitVec_inj.mp
  apply BitVec.eq_of_getLsbD_eq
  intro i hi
  have a1 := h2 i hi
  have a2 := h3 i hi
  simp only [Int32.toBitVec_and, Int32.toBitVec_or, BitVec.getLsbD_and, BitVec.getLsbD_or]
  revert a1 a2
  cases on.toBitVec.getLsbD i <;> cases t.toBitVec.getLsbD i <;> cases (2 : Int32).toBitVec.getLsbD i <;> cases (50 : Int32).toBitVec.getLsbD i <;> decide
/-- the description as the model's arguments, with nothing that is not told -/
def zDn (d : zDs) (told on k : Int32) (b : Int64) (pair : Int32) : Prop := zDm d told on k b (pair / 4200) (pair - pair / 4200 * 4200) ∧ (told &&& 4 = 0 → dG d = 0) ∧ (told &&& 8 = 0 → dS d = 0)
theorem zWv4 (n : Int64) : zWv 4 n 0 := ⟨by decide, fun q => absurd rfl q, fun _ => rfl, fun q => absurd q (by decide)⟩
theorem zDn.d1 {d : zDs} {told on k : Int32} {b : Int64} {pair : Int32} (h : zDn d told on k b pair) (h12 : told &&& 12 = 0) : zDm (zD1 d) told on 4 (cOf (cAl (dK d) (dN d))) (0 / 4200) (0 - 0 / 4200 * 4200) := by
  obtain ⟨⟨d1, d2, d3, d4, d5, d6, d7, d8, d9, d10, d11⟩, hG, hS⟩ := h
  refine ⟨d1, d2, rfl, rfl, ?_, ?_, d7, d8, by show (0 : Nat) < 600; omega, zWv4 _, d11⟩
  · show _ = nI (dG d)
    rw [hG (i_sub (by decide) h12)]; rfl
  · show _ = nI (dS d)
    rw [hS (i_sub (by decide) h12)]; rfl
theorem zDn.d2 {d : zDs} {told on k : Int32} {b : Int64} {pair : Int32} (h : zDn d told on k b pair) (h12 : told &&& 12 = 0) (h2 : told &&& 2 ≠ 0) : zDm (zD2 d) told (on ||| 2) 4 (cOf (cAl (dK d) (dN d))) (0 / 4200) (0 - 0 / 4200 * 4200) := by
  obtain ⟨⟨d1, d2, d3, d4, d5, d6, d7, d8, d9, d10, d11⟩, hG, hS⟩ := h
  refine ⟨d1, ?_, rfl, rfl, ?_, ?_, d7, d8, by show (0 : Nat) < 600; omega, zWv4 _, d11⟩
  · show dF d ||| 2 = _
    rw [d2, i_or2 ((i_b2 told).resolve_left h2)]
  · show _ = nI (dG d)
    rw [hG (i_sub (by decide) h12)]; rfl
  · show _ = nI (dS d)
    rw [hS (i_sub (by decide) h12)]; rfl
/-- the length, told anew, is a number -/
theorem z_lenq {d : zDs} {on : Int32} {p : zPr} (hF : dF d = on &&& dT d &&& 50) (h1 : dT d &&& 1 ≠ 0) (h12 : dT d &&& 12 = 0) (h64 : kF p &&& 64 = 0) : kF (zBec d p) &&& 64 = 0 ∧ kD (zBec d p) = dK d ∧ kN (zBec d p) = dN d ∧ kO (zBec d p) = dO d := by
  have b1 : zB1 d p = p := by unfold zB1; rw [if_pos h64, if_pos h12]
  have e4 : ∀ p, zB4 d p = p := fun p => if_pos (i_sub (by decide) h12)
  have e5 : ∀ p, zB5 d p = p := fun p => if_pos (i_sub (by decide) h12)
  unfold zBec
  rw [b1, e5, e4, zB2_mi d on p hF]
  unfold zB3
  rw [if_neg h1]
  refine ⟨?_, rfl, rfl, rfl⟩
  show zMi (kF p) on (dT d &&& 50) &&& 64 = 0
  rw [zMi64]; exact h64
section ZME
variable {σ : zSg} {ρ : Nat → List Nat} {ow od : Nat → Nat} {nr md : Nat} {s t : zSt}
/-- the length is written at the end -/
theorem m_182 {o : Nat} (h1 : 1 ≤ o) (h : zMo σ ρ ow od nr md s) (h2 : o < gn σ) {i9 : Nat} {q : zPr} (hx : zRx (-1) (ρ o) (oL (gO σ o)) = some i9) (hg : zG (-1) (oL (gO σ o)) = some q) (h64 : kF q &&& 64 = 0) (hD : kD q = 4) (hO : kO q = 0) {asked left : Int64} (hN : kN q = cOf asked) {v : Int32} (c : Prop) [Decidable c] (hv : (v = -1 ∧ left = asked) ∨ ∃ b, v = nI b ∧ b < 600 ∧ left = gB s 1 b + 1 ∧ left ≠ asked ∧ 0 ≤ gB s 1 b ∧ gB s 1 b ≤ 4294967294) :
    ∃ u, F_R_defineLength_182 (nI i9) (bI c) v s = some (if left = asked then 0 else 2, u) ∧ zMo (zSO σ o (zSL (gO σ o) (zUp (-1) (if c then zNw (zWl left q) else zWl left q) (oL (gO σ o))))) ρ ow od nr md u ∧ zKC s u ∧ gI u 13 = gI s 13 := by
  have hnr := h.1.2.2.2
  obtain ⟨g1, g2, g3, g4⟩ := h.obj h1 h2
  obtain ⟨hi, hr, hkq⟩ : i9 < nr ∧ zR1 s i9 q ∧ kK q = -1 := by
    rcases zRx_at (k := -1) g1 with ⟨q1, -⟩ | ⟨p2, i, q1, q2, q3, q4, q5, q6⟩
    · rw [hg] at q1; cases q1
    · rw [hg] at q1
      rw [hx] at q2
      have e1 := Option.some.inj q1
      have e2 := Option.some.inj q2
      subst e1 e2
      exact ⟨((g3 _).mp q3).1, q5, q6⟩
  have hz : zin (nI i9) 8400 := zin_nI' (by omega) (by decide)
  have h0 := zRTp.of hr
  have hwl : ∀ (t : zSt) (n : Int64), zRT s t i9 (kF q) 4 n 0 0 → n = cOf left → zRTp s t i9 (zWl left q) := by
    intro t n ht en
    subst en
    unfold zRTp
    show zRT s t i9 (kF q) (if kF q &&& 64 = 0 then 4 else 0) (if kF q &&& 64 = 0 then zBt 4 (cOf left) 0 else 0) (if kF q &&& 64 = 0 then 0 else nI 0) (if kF q &&& 64 = 0 then 0 else nI (kS q))
    rw [if_pos h64, if_pos h64, if_pos h64, if_pos h64]
    exact ht
  unfold zRTp at h0
  rw [if_pos h64, if_pos h64, if_pos h64, if_pos h64, hD, hN, hO] at h0
  have p219 : ∀ u : zSt, F_R_defineLength_219 v u = some (if left = asked then 0 else 2, u) := by
    intro u
    unfold F_R_defineLength_219 F_R_defineLength_229
    rcases hv with ⟨e1, e2⟩ | ⟨b, e1, e2, e3, e4, e5, e6⟩
    · rw [if_pos (by rw [e1]; decide), if_pos e2]
    · rw [if_neg (by rw [e1]; exact qI_notneg (by omega)), if_neg e4]
  have p206 : ∀ t, zRTp s t i9 (zWl left q) → ∃ u, F_R_defineLength_206 (nI i9) (bI c) v t = some (if left = asked then 0 else 2, u) ∧ zMo (zSO σ o (zSL (gO σ o) (zUp (-1) (if c then zNw (zWl left q) else zWl left q) (oL (gO σ o))))) ρ ow od nr md u ∧ zKC s u ∧ gI u 13 = gI s 13 := by
    intro t ht
    unfold F_R_defineLength_206
    by_cases hc : c
    · rw [if_neg (fun z => bI_eq0.mp z hc), if_pos hc]
      obtain ⟨u, u1, u2⟩ := ht.put (i := i9) (by omega) 2 0
      rw [u1, zb_some, p219]
      have e64 : (kF q &&& (-3)) &&& 64 = 0 := by
        rw [Int32.and_assoc, show (-3 : Int32) &&& 64 = 64 from rfl]; exact h64
      have u3 : zRTp s u i9 (zNw (zWl left q)) := by
        unfold zRTp
        show zRT s u i9 (kF q &&& (-3)) (if (kF q &&& (-3)) &&& 64 = 0 then 4 else 0) (if (kF q &&& (-3)) &&& 64 = 0 then zBt 4 (cOf left) 0 else 0) (if (kF q &&& (-3)) &&& 64 = 0 then 0 else nI 0) (if (kF q &&& (-3)) &&& 64 = 0 then 0 else nI (kS q))
        rw [if_pos e64, if_pos e64, if_pos e64, if_pos e64]
        have u2' : zRT s u i9 (kF q &&& (2 ^^^ (-1))) (if kF q &&& 64 = 0 then 4 else 0) (if kF q &&& 64 = 0 then zBt 4 (cOf left) 0 else 0) (if kF q &&& 64 = 0 then 0 else nI 0) (if kF q &&& 64 = 0 then 0 else nI (kS q)) := u2
        rw [if_pos h64, if_pos h64, if_pos h64, if_pos h64] at u2'
        exact u2'
      exact ⟨u, rfl, h.row h1 h2 hx hkq u3, u3.1.1.2, u3.1.2.1.1⟩
    · rw [if_pos (bI_eq0.mpr hc), p219, if_neg hc]
      exact ⟨t, rfl, h.row h1 h2 hx hkq ht, ht.1.1.2, ht.1.2.1.1⟩
  unfold F_R_defineLength_182
  rcases hv with ⟨e1, e2⟩ | ⟨b, e1, e2, e3, e4, e5, e6⟩
  · rw [if_pos (by rw [e1]; decide)]
    exact p206 s (hwl s _ h0 (by rw [e2]; rfl))
  · obtain ⟨m, k1, k2, k3⟩ := z_k1 e5 e6
    have cb : gB s 1 v.toNatClampNeg = gB s 1 b := by rw [e1, nI_clamp (by omega)]
    rw [if_neg (by rw [e1]; exact qI_notneg (by omega)), if_pos (by rw [e1]; exact zin_nI' (by omega) (by decide)), cb, k3, m_bitsOf (by omega), zb_some, if_pos hz, nI_clamp (by omega)]
    exact p206 _ (hwl _ _ (h0.s2 (cOf (nL (m + 1)))) (by rw [e3, k3]))
theorem m_lengthOf (h : zMo σ ρ ow od nr md s) (hW : zWf σ) {o : Nat} (h1 : 1 ≤ o) (h2 : o < gn σ) {pl : zPr} {i9 : Nat} (hx : zRx (-1) (ρ o) (oL (gO σ o)) = some i9) (hg : zG (-1) (oL (gO σ o)) = some pl) (h64 : kF pl &&& 64 = 0) (hD : kD pl = 4) : F_R_lengthOf (nI o) s = some (cAl (kD pl) (kN pl), s) := by
  have hnr := h.1.2.2.2
  obtain ⟨g1, g2, g3, g4⟩ := h.obj h1 h2
  obtain ⟨hi, hr⟩ : i9 < nr ∧ zR1 s i9 pl := by
    rcases zRx_at (k := -1) g1 with ⟨q1, -⟩ | ⟨p2, i, q1, q2, q3, q4, q5, q6⟩
    · rw [hg] at q1; cases q1
    · rw [hg] at q1
      rw [hx] at q2
      have e1 := Option.some.inj q1
      have e2 := Option.some.inj q2
      subst e1 e2
      exact ⟨((g3 _).mp q3).1, q5⟩
  unfold F_R_lengthOf
  rw [m_find h hW h1 h2, zb_some, hx, zRi_some, if_pos (zin_nI' (by omega) (by decide)), nI_clamp (by omega), m_wholeOf, zb_some, hr.2.2.2.1, if_pos h64, hD]
  rfl
theorem m_defl (h : zMo σ ρ ow od nr md s) (hW : zWf σ) (hmd : md < 600) {o : Nat} (h1 : 1 ≤ o) (h2 : o < gn σ) {d : zDs} {told on kd : Int32} {b : Int64} {pair : Int32} (hd : zDn d told on kd b pair) (ht1 : told &&& 1 ≠ 0) {pl : zPr} (hg : zG (-1) (oL (gO σ o)) = some pl) (hF : kF pl = 0 ∨ kF pl = 2) (hD : kD pl = 4) :
    ∃ t ρ2 ow2 od2 nr2 md2, F_R_defineLength (nI o) told on kd b s = some ((zDl (gO σ o) d pl).1, t) ∧ md2 ≤ md + 1 ∧ zMo (zSO σ o (zDl (gO σ o) d pl).2) ρ2 ow2 od2 nr2 md2 t ∧ zKC s t ∧ gI t 13 = gI s 13 := by
  have hw := hW.2.1
  have hnr := h.1.2.2.2
  obtain ⟨g1, g2, g3, g4⟩ := h.obj h1 h2
  have hd' := hd
  obtain ⟨⟨d1, d2, d3, d4, d5, d6, d7, d8, d9, d10, d11⟩, hG, hS⟩ := hd
  have h12 : told &&& 12 = 0 := d11.2.resolve_left (fun z => ht1 (i_sub (by decide) z))
  have h64 : kF pl &&& 64 = 0 := by rcases hF with e | e <;> rw [e] <;> rfl
  have hwo := hW.2.2.2.1 o h1 h2
  have idl : ∀ v : Int32, ∃ t ρ2 ow2 od2 nr2 md2, (some (v, s) : Option (Int32 × zSt)) = some (v, t) ∧ md2 ≤ md + 1 ∧ zMo (zSO σ o (gO σ o)) ρ2 ow2 od2 nr2 md2 t ∧ zKC s t ∧ gI t 13 = gI s 13 := fun v => ⟨s, ρ, ow, od, nr, md, rfl, by omega, by rw [zSO_self]; exact h, zKC.rf s, rfl⟩
  obtain ⟨i9, hx, hi9, hr9, hk9⟩ : ∃ i9, zRx (-1) (ρ o) (oL (gO σ o)) = some i9 ∧ i9 < nr ∧ zR1 s i9 pl ∧ pl ∈ oL (gO σ o) := by
    rcases zRx_at (k := -1) g1 with ⟨q1, -⟩ | ⟨p2, i, q1, q2, q3, q4, q5, q6⟩
    · rw [hg] at q1; cases q1
    · rw [hg] at q1
      have e1 := Option.some.inj q1
      subst e1
      exact ⟨i, q2, ((g3 _).mp q3).1, q5, q4⟩
  obtain ⟨w1, w2, w3⟩ := hwo.2.1 pl hk9
  -- the bits that are told are read by their kind
  have hb : cAl kd b = cAl (dK d) (dN d) := by
    rw [cAl_eq, cAl_eq, d3]
    by_cases h4 : kd = 4
    · rw [if_pos h4, if_pos h4, ← d4]
      unfold zBt
      rw [if_neg (by rw [d3, h4]; decide)]
    · rw [if_neg h4, if_neg h4]
  unfold F_R_defineLength zDl
  rw [m_asLength (by rw [← d3]; exact d10.1), zb_some, hb]
  by_cases hn : cAl (dK d) (dN d) = -1
  · rw [if_neg (fun z => (cAl_neg _ _).mp ((z_lc0 _).mp z) hn), if_pos hn]
    exact idl 3
  · have hge := (cAl_neg _ _).mpr hn
    obtain ⟨am, am1, am2⟩ : ∃ m, m < 2 ^ 32 ∧ cAl (dK d) (dN d) = nL m := (cAl_bd _ _).resolve_left hn
    rw [if_pos ((z_lc0 _).mpr hge), if_neg hn, if_pos h12, m_lengthOf h hW h1 h2 hx hg h64 hD, zb_some]
    have hbits : ∀ s, F_R_bitsOf (cAl (dK d) (dN d)) s = some (cOf (cAl (dK d) (dN d)), s) := fun s => by rw [am2]; exact m_bitsOf am1 s
    by_cases hlt : cAl (dK d) (dN d) < cAl (kD pl) (kN pl)
    · rw [if_pos ((lg_cmp_lt _ _).mpr hlt), if_pos hlt]
      unfold F_R_defineLength_54 F_R_defineLength_96 F_R_defineLength_97
      rw [m_find h hW h1 h2, zb_some, hx, zRi_some, m_has (by omega) hr9, zb_some]
      by_cases hF2 : kF pl &&& 2 = 0
      · rw [if_pos (bI_eq0.mpr (fun z => (w1.bit (by simp)).mp z hF2)), if_pos hF2]
        exact idl 2
      · rw [if_neg (fun z => bI_eq0.mp z ((w1.bit (by simp)).mpr hF2)), if_neg hF2, m_told, zb_some, m_told, zb_some]
        have f2 : dF d &&& 2 ≠ 0 ↔ told &&& 2 ≠ 0 ∧ on &&& 2 ≠ 0 := by rw [d2]; exact i_dFn (by decide) (i_b2 _)
        have go : ∀ (on' : Int32), zDm (zDd d) told on' 4 (cOf (cAl (dK d) (dN d))) (0 / 4200) (0 - 0 / 4200 * 4200) →
            ∃ t ρ2 ow2 od2 nr2 md2, F_R_defineLength_117 (nI o) (cAl (dK d) (dN d)) (nI i9) (bI (zCl2 d)) on' told (-1) (nI o) s = some ((if zChg (zDd d) pl = true then (2, gO σ o) else zDe (gO σ o) d (zBec (zDd d) pl)).1, t) ∧ md2 ≤ md + 1 ∧ zMo (zSO σ o (if zChg (zDd d) pl = true then (2, gO σ o) else zDe (gO σ o) d (zBec (zDd d) pl)).2) ρ2 ow2 od2 nr2 md2 t ∧ zKC s t ∧ gI t 13 = gI s 13 := by
          intro on' hdm
          unfold F_R_defineLength_117
          rw [hbits, zb_some]
          obtain ⟨t, ρ2, ow2, od2, nr2, md2, r1, r2, r3, r4, r5, r6⟩ := m_plain h hW hmd h1 h2 hdm (-1)
          have eP : zPl (gO σ o) (-1) (zDd d) = if zChg (zDd d) pl = true then (2, gO σ o) else (0, zSL (gO σ o) (zUp (-1) (zBec (zDd d) pl) (oL (gO σ o)))) := by
            unfold zPl
            rw [hg]
          rw [eP] at r1 r3 r6
          by_cases hc : zChg (zDd d) pl = true
          · rw [if_pos hc] at r1 r3
            rw [if_pos hc, r1, zb_some, if_neg (show ¬ (2 : Int32) ≤ 0 by decide)]
            exact ⟨t, ρ2, ow2, od2, nr2, md2, rfl, r2, r3, r4, r5⟩
          · rw [if_neg hc] at r1 r3 r6
            rw [if_neg hc, r1, zb_some, if_pos (show (0 : Int32) ≤ 0 by decide)]
            have r3' : zMo (zSO σ o (zSL (gO σ o) (zUp (-1) (zBec (zDd d) pl) (oL (gO σ o))))) ρ2 ow2 od2 nr2 md2 t := r3
            have r6' := r6 (-1) i9 hx
            have r6'' : zRx (-1) (ρ2 o) (zUp (-1) (zBec (zDd d) pl) (oL (gO σ o))) = some i9 := r6'
            -- the new length
            have dT' : dT (zDd d) = told := by unfold zDd; split <;> exact d1
            have hq := z_lenq (d := zDd d) (on := on') (p := pl) (by rw [hdm.2.1, dT']) (by rw [dT']; exact ht1) (by rw [dT']; exact h12) h64
            have hkq : kK (zBec (zDd d) pl) = -1 := (kK_bec _ _).trans (by
              rcases zRx_at (k := -1) g1 with ⟨q1, -⟩ | ⟨p2, i, q1, q2, q3, q4, q5, q6⟩
              · rw [hg] at q1; cases q1
              · rw [hg] at q1
                have e1 := Option.some.inj q1
                subst e1
                exact q6)
            have dK' : dK (zDd d) = 4 := by unfold zDd; split <;> rfl
            have dN' : dN (zDd d) = cOf (cAl (dK d) (dN d)) := by unfold zDd; split <;> rfl
            have dO' : dO (zDd d) = 0 := by unfold zDd; split <;> rfl
            rw [dK', dN', dO'] at hq
            generalize hQ : zBec (zDd d) pl = Q at r3' r6'' hq hkq ⊢
            have hgQ : zG (-1) (zUp (-1) Q (oL (gO σ o))) = some Q := zG_up hkq (by rw [hg]; exact fun z => by cases z)
            -- the order of the keys is kept
            have hpw : (zUp (-1) Q (oL (gO σ o))).Pairwise (fun p q => zBf (kK p) (kK q)) := by
              have e : (zUp (-1) Q (oL (gO σ o))).map kK = (oL (gO σ o)).map kK := by
                have : ∀ ps : List zPr, (zUp (-1) Q ps).map kK = ps.map kK := by
                  intro ps
                  induction ps with
                  | nil => rfl
                  | cons p r ih =>
                    show (if kK p = -1 then Q :: r else p :: zUp (-1) Q r).map kK = kK p :: r.map kK
                    by_cases hk : kK p = -1
                    · rw [if_pos hk, List.map_cons, hkq, hk]
                    · rw [if_neg hk, List.map_cons, ih]
                exact this _
              have : ((oL (gO σ o)).map kK).Pairwise zBf := List.pairwise_map.mpr hwo.2.2.1
              rw [← e] at this
              exact List.pairwise_map.mp this
            obtain ⟨a, N, hl, ha, hN⟩ := z_split _ hpw
            have hmem : ∀ p ∈ zUp (-1) Q (oL (gO σ o)), p = Q ∨ p ∈ oL (gO σ o) := by
              have : ∀ ps : List zPr, ∀ p ∈ zUp (-1) Q ps, p = Q ∨ p ∈ ps := by
                intro ps
                induction ps with
                | nil => intro p hp; cases hp
                | cons c r ih =>
                  intro p hp
                  have hp : p ∈ (if kK c = -1 then Q :: r else c :: zUp (-1) Q r) := hp
                  by_cases hk : kK c = -1
                  · rw [if_pos hk] at hp
                    exact (List.mem_cons.mp hp).imp id (List.mem_cons_of_mem _)
                  · rw [if_neg hk] at hp
                    rcases List.mem_cons.mp hp with e | e
                    · exact Or.inr (by rw [e]; exact List.mem_cons_self)
                    · exact (ih p e).imp id (List.mem_cons_of_mem _)
              exact this _
            have hawp : ∀ p ∈ a, 0 ≤ kK p ∧ zWp p := by
              intro p hp
              refine ⟨ha p hp, ?_⟩
              rcases hmem p (by rw [hl]; exact List.mem_append_left _ hp) with e | e
              · have := ha p hp
                rw [e, hkq] at this
                exact absurd this (by decide)
              · exact (hwo.2.1 p e).1
            have hal : a.length < zFuel := by
              have hlen := zRw_len _ _ (r3'.obj h1 h2).1
              rw [gO_own] at hlen
              have hl2 : (zUp (-1) Q (oL (gO σ o))).length = a.length + N.length := by rw [hl, List.length_append]
              have hlen' : (ρ2 o).length = (zUp (-1) Q (oL (gO σ o))).length := hlen
              have o3 := r3'.obj h1 h2
              have := zCn_len (fun i => ow2 i = o) nr2 (ρ2 o) o3.2.1 (fun i => o3.2.2.1 i)
              have := zCn_le (fun i => ow2 i = o) nr2
              have := r3'.1.2.2.2
              rw [zFuel_eq]
              omega
            obtain ⟨v0, e0, -⟩ := m_highest r3' hw h1 h2 (cAl (dK d) (dN d))
            rw [e0, zb_some]
            obtain ⟨v, t2, ρ3, ow3, od3, left, l2, c1, c2, c3, c4, c5, c6, c7, c8⟩ := m_cut (x9 := nI i9) (x10 := bI (zCl2 d)) (i9 := i9) h1 hge a.length _ ρ2 ow2 od2 nr2 zFuel t a N v0 rfl hal r3' hw h2 (by rw [gO_own]; exact hl) (by rw [← hl]; exact hpw) hawp hN (by rw [gO_own]; exact r6'') e0
            rw [c1]
            rw [zSO_SO, gO_own] at c3
            have c3' : zMo (zSO σ o (zSL (gO σ o) l2)) ρ3 ow3 od3 nr2 md2 t2 := c3
            rw [← hl, hgQ] at c6
            obtain ⟨u, u1, u2, u3, u4⟩ := m_182 h1 c3' h2 (i9 := i9) (q := Q) (by rw [gO_own]; exact c5) (by rw [gO_own]; exact c6) hq.1 hq.2.1 hq.2.2.2 (asked := cAl (dK d) (dN d)) (left := left) hq.2.2.1 (zCl2 d) c4
            rw [zSO_SO, gO_own] at u2
            rw [u1]
            rw [← hl] at c2
            refine ⟨u, ρ3, ow3, od3, nr2, md2, ?_, r2, ?_, r4.tr (c7.tr u3), u4.trans (c8.trans r5)⟩
            · unfold zDe
              rw [c2]
            · unfold zDe
              rw [c2]
              exact u2
        by_cases h2t : told &&& 2 = 0
        · rw [if_pos (bI_eq0.mpr (fun z => z h2t))]
          have hcl : ¬ zCl2 d := fun z => z.1 (by rw [d1]; exact h2t)
          have e := go on (by unfold zDd; rw [if_neg hcl]; exact hd'.d1 h12)
          rw [bI_f hcl] at e
          exact e
        · rw [if_neg (fun z => bI_eq0.mp z h2t)]
          by_cases ho : on &&& 2 = 0
          · rw [if_pos (bI_eq0.mpr (fun z => z ho))]
            have hcl : zCl2 d := ⟨by rw [d1]; exact h2t, Classical.byContradiction (fun z => (f2.mp z).2 ho)⟩
            have e := go (on ||| 2) (by unfold zDd; rw [if_pos hcl]; exact hd'.d2 h12 h2t)
            rw [bI_t hcl] at e
            rw [if_neg z_one]
            exact e
          · rw [if_neg (fun z => bI_eq0.mp z ho)]
            have hcl : ¬ zCl2 d := fun z => f2.mpr ⟨h2t, ho⟩ z.2
            have e := go on (by unfold zDd; rw [if_neg hcl]; exact hd'.d1 h12)
            rw [bI_f hcl] at e
            exact e
    · rw [if_neg (fun z => hlt ((lg_cmp_lt _ _).mp z)), if_neg hlt, hbits, zb_some]
      obtain ⟨t, ρ2, ow2, od2, nr2, md2, r1, r2, r3, r4, r5, r6⟩ := m_plain h hW hmd h1 h2 (hd'.d1 h12) (-1)
      rw [r1, zb_some]
      unfold zPl at r3 ⊢
      rw [hg] at r3 ⊢
      exact ⟨t, ρ2, ow2, od2, nr2, md2, rfl, r2, r3, r4, r5⟩
end ZME

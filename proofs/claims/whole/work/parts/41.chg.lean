/-! a property changes by a description -/
section ZP2
variable {nb b : Nat} {s : zSt} {β : Nat → Nat} {p : zPr} {d : zDs} {lv : List Nat}
theorem z_become (hok : zOk nb s) (hb1 : 1 ≤ b) (hb : b ≤ nb) (h0 : β 0 = 0) (hβ : ∀ o, (o = 0 ∨ o ∈ lv) → β o ≤ 1024 ∧ (nI (β o) = 0 ↔ o = 0)) (hD : zDr d β lv s) (hp : zPw1 s β b p) : ∃ t, F_O_become (nI b) s = some ((), t) ∧ zBu b s t ∧ zPw1 t β b (zBec d p) := by
  have hb0 : b ≠ 0 := by omega
  obtain ⟨D1, D2, D3, D4, D5, D6, D7, D8, D9, D10⟩ := id hD
  -- the last step: the setter
  have st5 : ∀ (u : zSt) (q : zPr), zBu b s u → zPw1 u β b q → ∃ t, F_O_become_113 (nI b) u = some ((), t) ∧ zBu b s t ∧ zPw1 t β b (zB5 d q) := by
    intro u q hu hq
    have hDu := hD.bu hu
    have hou := hu.ok hok
    unfold F_O_become_113 F_O_become_136 zB5
    rw [d_tells, zb_some, hDu.1]
    by_cases h8 : dT d &&& 8 = 0
    · rw [if_pos (bI_eq0.mpr (fun z => z h8)), if_pos h8]
      exact ⟨u, rfl, hu, hq⟩
    · rw [if_neg (fun z => bI_eq0.mp z h8), if_neg h8, hDu.2.2.2.2.2.2.1 h8, qI_long (by have := (hβ _ D10).1; omega), zsw3 hou hb, zb_some]
      refine ⟨_, rfl, hu.tr (zBu.sW u _ hb0 (by decide)), ?_⟩
      obtain ⟨q1, q2, q3, q4, q5, q6⟩ := hq
      refine ⟨?_, ?_, ?_, ?_, ?_, ?_⟩ <;> rw [Wd_sW hb0 (by decide) (by decide)]
      · rw [if_neg (by omega)]; exact q1
      · rw [if_pos ⟨rfl, rfl⟩]; rfl
      · rw [if_neg (by omega)]; exact q3
      · rw [if_neg (by omega)]; exact q4
      · rw [if_neg (by omega)]; exact q5
      · rw [if_neg (by omega)]; exact q6
  -- a value is written
  have wv : ∀ (u : zSt) (q : zPr) (kd : Int32) (n : Int64) (o : Nat), zBu b s u → zPw1 u β b q → (o = 0 ∨ o ∈ lv) → ∃ t, F_O_writeValue (nI b) kd n (nI (β o)) u = some ((), t) ∧ zBu b s t ∧ zPw1 t β b (kK q, kF q, kd, n, o, kS q) := by
    intro u q kd n o hu hq ho
    obtain ⟨t, g1, g2, g3, g4, g5, g6, g7, g8⟩ := z_wv (hu.ok hok) hb1 hb kd n (c := β o) (by have := (hβ o ho).1; omega)
    obtain ⟨q1, q2, q3, q4, q5, q6⟩ := hq
    exact ⟨t, g1, hu.tr g2, g3, g4.trans q2, g5.trans q3, g6.trans q4, g7, g8⟩
  have st4 : ∀ (u : zSt) (q : zPr), zBu b s u → zPw1 u β b q → ∃ t, F_O_become_83 (nI b) u = some ((), t) ∧ zBu b s t ∧ zPw1 t β b (zB5 d (zB4 d q)) := by
    intro u q hu hq
    have hDu := hD.bu hu
    unfold F_O_become_83 F_O_become_105
    rw [d_tells, zb_some, hDu.1]
    by_cases h4 : dT d &&& 4 = 0
    · rw [if_pos (bI_eq0.mpr (fun z => z h4)), show zB4 d q = q by unfold zB4; rw [if_pos h4]]
      exact st5 u q hu hq
    · rw [if_neg (fun z => bI_eq0.mp z h4), hDu.2.2.2.2.2.1 h4, show zB4 d q = (kK q, kF q, if dG d = 0 then 0 else 5, 0, dG d, kS q) by unfold zB4; rw [if_neg h4]]
      by_cases hg : dG d = 0
      · rw [if_pos ((hβ _ D9).2.mpr hg), if_pos hg]
        obtain ⟨t, g1, g2, g3⟩ := wv u q 0 0 (dG d) hu hq D9
        rw [g1, zb_some]
        exact st5 t _ g2 g3
      · rw [if_neg (fun z => hg ((hβ _ D9).2.mp z)), if_neg hg]
        obtain ⟨t, g1, g2, g3⟩ := wv u q 5 0 (dG d) hu hq D9
        rw [g1, zb_some]
        exact st5 t _ g2 g3
  have st2 : ∀ (u : zSt) (q : zPr), zBu b s u → zPw1 u β b q → ∃ t, F_O_become_26 (nI b) u = some ((), t) ∧ zBu b s t ∧ zPw1 t β b (zB5 d (zB4 d (zB3 d (zB2 d q)))) := by
    intro u q hu hq
    have hDu := hD.bu hu
    have hou := hu.ok hok
    unfold F_O_become_26
    rw [r_att hou hb hq, zb_some, hDu.1, hDu.2.1, zsw5 hou hb, zb_some]
    have hu2 : zBu b s (sW u b 5 ((kF q &&& (dT d &&& 50 ^^^ -1) ||| dF d).toInt64)) := hu.tr (zBu.sW u _ hb0 (by decide))
    have hq2 : zPw1 (sW u b 5 ((kF q &&& (dT d &&& 50 ^^^ -1) ||| dF d).toInt64)) β b (zB2 d q) := by
      obtain ⟨q1, q2, q3, q4, q5, q6⟩ := hq
      refine ⟨?_, ?_, ?_, ?_, ?_, ?_⟩ <;> rw [Wd_sW hb0 (by decide) (by decide)]
      · rw [if_neg (by omega)]; exact q1
      · rw [if_neg (by omega)]; exact q2
      · rw [if_neg (by omega)]; exact q3
      · rw [if_pos ⟨rfl, rfl⟩]; rfl
      · rw [if_neg (by omega)]; exact q5
      · rw [if_neg (by omega)]; exact q6
    have hD2 := hD.bu hu2
    rw [d_tells, zb_some, hD2.1]
    by_cases h1 : dT d &&& 1 = 0
    · rw [if_pos (bI_eq0.mpr (fun z => z h1)), show zB3 d (zB2 d q) = zB2 d q by unfold zB3; rw [if_pos h1]]
      exact st4 _ _ hu2 hq2
    · rw [if_neg (fun z => bI_eq0.mp z h1), hD2.2.2.1, hD2.2.2.2.1, hD2.2.2.2.2.1, show zB3 d (zB2 d q) = (kK (zB2 d q), kF (zB2 d q), dK d, dN d, dO d, kS (zB2 d q)) by unfold zB3; rw [if_neg h1]]
      obtain ⟨t, g1, g2, g3⟩ := wv _ _ (dK d) (dN d) (dO d) hu2 hq2 D8
      rw [g1, zb_some]
      exact st4 t _ g2 g3
  have st1 : ∀ y : Int32, y = (if kF p &&& 64 = 0 then 12 else 3) → ∃ t, F_O_become_15 (nI b) y s = some ((), t) ∧ zBu b s t ∧ zPw1 t β b (zBec d p) := by
    intro y hy
    unfold F_O_become_15 zBec zB1
    rw [d_tells, zb_some, D1, ← hy]
    by_cases hz : dT d &&& y = 0
    · rw [if_pos (bI_eq0.mpr (fun z => z hz)), if_pos hz]
      exact st2 s p (zBu.rf b s) hp
    · rw [if_neg (fun z => bI_eq0.mp z hz), if_neg hz]
      obtain ⟨t, g1, g2, g3⟩ := z_turn hok hb1 hb h0 hp
      rw [g1, zb_some]
      exact st2 t _ g2 g3
  unfold F_O_become
  rw [r_acc hok hb hp, zb_some]
  by_cases ha : kF p &&& 64 = 0
  · rw [if_pos (bI_eq0.mpr (fun z => z ha))]
    exact st1 12 (by rw [if_pos ha])
  · rw [if_neg (fun z => bI_eq0.mp z ha)]
    exact st1 3 (by rw [if_neg ha])
theorem z_isv (hok : zOk nb s) (hb : b ≤ nb) (hin : ∀ o1 o2, (o1 = 0 ∨ o1 ∈ lv) → (o2 = 0 ∨ o2 ∈ lv) → (nI (β o1) = nI (β o2) ↔ o1 = o2)) (ho : kO p = 0 ∨ kO p ∈ lv) (hD : zDr d β lv s) (hp : zPw1 s β b p) : F_O_isValue (nI b) s = some (bI (zSv d p), s) := by
  obtain ⟨D1, D2, D3, D4, D5, D6, D7, D8, D9, D10⟩ := hD
  unfold F_O_isValue F_O_isValue_41 F_O_isValue_42
  rw [r_kind hok hb hp, zb_some, D3]
  by_cases h1 : kD p = dK d
  · rw [if_pos h1, r_num hok hb hp, zb_some, D4]
    by_cases h2 : kN p = dN d
    · rw [if_pos ((lg_cmp_eq _ _).mpr h2), r_obj hok hb hp, zb_some, D5]
      by_cases h3 : kO p = dO d
      · rw [if_pos ((hin _ _ ho D8).mpr h3), if_pos z_nar1, bI_t ⟨h1, h2, h3⟩]
      · rw [if_neg (fun z => h3 ((hin _ _ ho D8).mp z)), if_pos z_nar0, bI_f (fun z => h3 z.2.2)]
    · rw [if_neg (fun z => h2 ((lg_cmp_eq _ _).mp z)), if_pos z_nar0, bI_f (fun z => h2 z.2.1)]
  · rw [if_neg h1, if_pos z_nar0, bI_f (fun z => h1 z.1)]
theorem z_fixed (hok : zOk nb s) (hb : b ≤ nb) (hin : ∀ o1 o2, (o1 = 0 ∨ o1 ∈ lv) → (o2 = 0 ∨ o2 ∈ lv) → (nI (β o1) = nI (β o2) ↔ o1 = o2)) (ho : kO p = 0 ∨ kO p ∈ lv) (hs : kS p = 0 ∨ kS p ∈ lv) (hD : zDr d β lv s) (hp : zPw1 s β b p) : F_O_isFixed (nI b) s = some (bI (zFix d p = true), s) := by
  obtain ⟨D1, D2, D3, D4, D5, D6, D7, D8, D9, D10⟩ := id hD
  have fin38 : F_O_isFixed_38 (nI b) s = some (bI ((if kF p &&& 64 ≠ 0 then decide (dT d &&& 3 ≠ 0 ∨ (dT d &&& 4 ≠ 0 ∧ dG d ≠ kO p) ∨ (dT d &&& 8 ≠ 0 ∧ dS d ≠ kS p)) else if dT d &&& 12 ≠ 0 then true else decide (kF p &&& 2 = 0 ∧ (dF d &&& 2 ≠ 0 ∨ (dT d &&& 1 ≠ 0 ∧ ¬ zSv d p)))) = true), s) := by
    unfold F_O_isFixed_38
    rw [r_acc hok hb hp, zb_some]
    by_cases ha : kF p &&& 64 = 0
    · rw [if_pos (bI_eq0.mpr (fun z => z ha)), if_neg (show ¬ (kF p &&& 64 ≠ 0) from fun z => z ha), d_tells, zb_some, D1]
      by_cases h12 : dT d &&& 12 = 0
      · rw [if_pos (bI_eq0.mpr (fun z => z h12)), if_neg (show ¬ (dT d &&& 12 ≠ 0) from fun z => z h12), r_any hok hb hp, zb_some]
        unfold F_O_isFixed_146 F_O_isFixed_150 F_O_isFixed_151
        by_cases h2 : kF p &&& 2 = 0
        · rw [if_pos (bI_eq0.mpr (fun z => z h2)), d_true, zb_some, D2]
          by_cases h3 : dF d &&& 2 = 0
          · rw [if_pos (bI_eq0.mpr (fun z => z h3)), d_tells, zb_some, D1]
            by_cases h1 : dT d &&& 1 = 0
            · rw [if_pos (bI_eq0.mpr (fun z => z h1)), if_pos z_nar0, bI_f]
              simp [h2, h3, h1]
            · rw [if_neg (fun z => bI_eq0.mp z h1), z_isv hok hb hin ho hD hp, zb_some]
              by_cases hv : zSv d p
              · rw [if_neg (fun z => bI_eq0.mp z hv), if_pos z_nar0, bI_f]
                simp [h2, h3, hv]
              · rw [if_pos (bI_eq0.mpr hv), if_pos z_nar1, bI_t]
                simp only [decide_eq_true_eq]
                exact ⟨h2, Or.inr ⟨h1, hv⟩⟩
          · rw [if_neg (fun z => bI_eq0.mp z h3), if_pos z_nar1, bI_t]
            simp only [decide_eq_true_eq]
            exact ⟨h2, Or.inl h3⟩
        · rw [if_neg (fun z => bI_eq0.mp z h2), if_pos z_nar0, bI_f]
          simp [h2]
      · rw [if_neg (fun z => bI_eq0.mp z h12), if_pos (show dT d &&& 12 ≠ 0 from h12), bI_t rfl]
    · rw [if_neg (fun z => bI_eq0.mp z ha), if_pos (show kF p &&& 64 ≠ 0 from ha), d_tells, zb_some, D1]
      unfold F_O_isFixed_74 F_O_isFixed_95 F_O_isFixed_99 F_O_isFixed_100
      by_cases h3 : dT d &&& 3 = 0
      · rw [if_pos (bI_eq0.mpr (fun z => z h3)), d_tells, zb_some, D1]
        have f74 : (zb (F_D_tells 8 s) fun v21 s22 => if v21 = 0 then (if vp_nar .boolean 0 = (0 : Int32) then some ((0 : Int32), s22) else none) else zb (F_O_setterOf (nI b) s22) fun v23 s24 => if gI s22 12 = v23 then (if vp_nar .boolean 0 = (0 : Int32) then some ((0 : Int32), s24) else none) else (if vp_nar .boolean 1 = (1 : Int32) then some ((1 : Int32), s24) else none)) = some (bI (dT d &&& 8 ≠ 0 ∧ dS d ≠ kS p), s) := by
          rw [d_tells, zb_some, D1]
          by_cases h8 : dT d &&& 8 = 0
          · rw [if_pos (bI_eq0.mpr (fun z => z h8)), if_pos z_nar0, bI_f (fun z => z.1 h8)]
          · rw [if_neg (fun z => bI_eq0.mp z h8), r_set hok hb hp, zb_some, D7 h8]
            by_cases he : dS d = kS p
            · rw [if_pos ((hin _ _ D10 hs).mpr he), if_pos z_nar0, bI_f (fun z => z.2 he)]
            · rw [if_neg (fun z => he ((hin _ _ D10 hs).mp z)), if_pos z_nar1, bI_t ⟨h8, he⟩]
        by_cases h4 : dT d &&& 4 = 0
        · rw [if_pos (bI_eq0.mpr (fun z => z h4)), f74]
          congr 2
          simp [h3, h4]
        · rw [if_neg (fun z => bI_eq0.mp z h4), r_obj hok hb hp, zb_some, D6 h4]
          by_cases he : dG d = kO p
          · rw [if_pos ((hin _ _ D9 ho).mpr he), f74]
            congr 2
            simp [h3, he]
          · rw [if_neg (fun z => he ((hin _ _ D9 ho).mp z)), if_pos z_nar1, bI_t]
            simp only [decide_eq_true_eq]
            exact Or.inr (Or.inl ⟨h4, he⟩)
      · rw [if_neg (fun z => bI_eq0.mp z h3), if_pos z_nar1, bI_t]
        simp only [decide_eq_true_eq]
        exact Or.inl h3
  unfold F_O_isFixed zFix
  rw [d_true, zb_some, D2]
  by_cases h32 : dF d &&& 32 = 0
  · rw [if_pos (bI_eq0.mpr (fun z => z h32)), if_neg (show ¬ (dF d &&& 32 ≠ 0) from fun z => z h32), d_tells, zb_some, D1]
    by_cases h16 : dT d &&& 16 = 0
    · rw [if_pos (bI_eq0.mpr (fun z => z h16)), if_neg (fun z => z.1 h16), fin38]
    · rw [if_neg (fun z => bI_eq0.mp z h16), d_true, zb_some, D2, r_any hok hb hp, zb_some]
      by_cases he : bI (dF d &&& 16 ≠ 0) = bI (kF p &&& 16 ≠ 0)
      · rw [if_pos he, if_neg (fun z => z.2 he), fin38]
      · rw [if_neg he, if_pos ⟨h16, he⟩, bI_t rfl]
  · rw [if_neg (fun z => bI_eq0.mp z h32), if_pos (show dF d &&& 32 ≠ 0 from h32), bI_t rfl]
theorem z_change (hok : zOk nb s) (hb1 : 1 ≤ b) (hb : b ≤ nb) (h0 : β 0 = 0) (hβ : ∀ o, (o = 0 ∨ o ∈ lv) → β o ≤ 1024 ∧ (nI (β o) = 0 ↔ o = 0)) (hin : ∀ o1 o2, (o1 = 0 ∨ o1 ∈ lv) → (o2 = 0 ∨ o2 ∈ lv) → (nI (β o1) = nI (β o2) ↔ o1 = o2)) (ho : kO p = 0 ∨ kO p ∈ lv) (hs : kS p = 0 ∨ kS p ∈ lv) (hD : zDr d β lv s) (hp : zPw1 s β b p) :
    (zChg d p = true ∧ F_O_change (nI b) s = some (2, s)) ∨ (zChg d p = false ∧ ∃ t, F_O_change (nI b) s = some (0, t) ∧ zBu b s t ∧ zPw1 t β b (zBec d p)) := by
  obtain ⟨t, g1, g2, g3⟩ := z_become hok hb1 hb h0 hβ hD hp
  unfold F_O_change F_O_change_21 zChg
  rw [r_any hok hb hp, zb_some]
  by_cases h32 : kF p &&& 32 = 0
  · rw [if_pos (bI_eq0.mpr (fun z => z h32)), z_fixed hok hb hin ho hs hD hp, zb_some, decide_eq_true h32, Bool.true_and]
    cases hf : zFix d p with
    | true =>
      rw [bI_t rfl, if_neg (by decide)]
      exact Or.inl ⟨rfl, rfl⟩
    | false =>
      rw [bI_f (by decide), if_pos rfl, g1, zb_some]
      exact Or.inr ⟨rfl, t, rfl, g2, g3⟩
  · rw [if_neg (fun z => bI_eq0.mp z h32), decide_eq_false h32, Bool.false_and, g1, zb_some]
    exact Or.inr ⟨rfl, t, rfl, g2, g3⟩
end ZP2

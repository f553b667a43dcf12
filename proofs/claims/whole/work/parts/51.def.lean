/-! defining a property -/
def zFk (s t : zSt) : Prop := (∀ k, (k < 2 ∨ 13 ≤ k) → gI t k = gI s k) ∧ (∀ k, k ≠ 2 → gJ t k = gJ s k) ∧ (∀ k, gA t k = gA s k) ∧ ∀ k, gB t (k + 1) = gB s (k + 1)
theorem zFk.of {s t : zSt} (h : zSame s t) : zFk s t := ⟨fun k hk => h.1 k (by omega), fun k _ => h.2.1 k, h.2.2.1, h.2.2.2⟩
theorem zFk.tr {a b c : zSt} (h1 : zFk a b) (h2 : zFk b c) : zFk a c := ⟨fun k hk => (h2.1 k hk).trans (h1.1 k hk), fun k hk => (h2.2.1 k hk).trans (h1.2.1 k hk), fun k => (h2.2.2.1 k).trans (h1.2.2.1 k), fun k => (h2.2.2.2 k).trans (h1.2.2.2 k)⟩
theorem zFk.sI (s : zSt) {k : Nat} (hk : 7 ≤ k ∧ k < 13) (v : Int32) : zFk s (sI s k v) := ⟨fun j hj => by rw [gI_sI, if_neg (by omega)], fun _ _ => rfl, fun _ => rfl, fun _ => rfl⟩
theorem zFk.sJ (s : zSt) (v : Int64) : zFk s (sJ s 2 v) := ⟨fun _ _ => rfl, fun j hj => by rw [gJ_sJ, if_neg hj], fun _ => rfl, fun _ => rfl⟩
def zDp (x : zOb) (k : Int64) (d : zDs) : Int32 × zOb := if oA x = true then
    (if k = -1 ∧ dT d &&& 1 ≠ 0 then zDl x d ((zG (-1) (oL x)).getD zp0)
    else if k < cAl (kD ((zG (-1) (oL x)).getD zp0)) (kN ((zG (-1) (oL x)).getD zp0)) then zPl x k d
    else if kF ((zG (-1) (oL x)).getD zp0) &&& 2 = 0 then (2, x)
    else if (zPl x k d).1 = 0 then (0, zSL (zPl x k d).2 (zUp (-1) (zWl (k + 1) ((zG (-1) (oL (zPl x k d).2)).getD zp0)) (oL (zPl x k d).2))) else zPl x k d)
  else zPl x k d
section ZC9
variable {σ : zSg} {lv : List Nat} {β : Nat → Nat} {π : Nat → List Nat} {nb : Nat} {FL : List Nat} {mk rc rl : Nat} {s : zSt}
theorem r_len (h : zCm σ lv β π nb FL mk s) {o : Nat} (ho : o ∈ lv) {pl : zPr} (hg : zG (-1) (oL (gO σ o)) = some pl) : F_O_readLength (nI (zBk (-1) (π o) (oL (gO σ o)))) s = some (cAl (kD pl) (kN pl), s) := by
  obtain ⟨p, w1, w2, w3, w4, w5⟩ := h.own ho (-1)
  rcases w5 with ⟨z, -⟩ | ⟨z, z2, z3⟩
  · rw [z] at hg; cases hg
  · have e : p = pl := Option.some.inj (z.symm.trans hg)
    subst e
    unfold F_O_readLength
    rw [r_kind h.ok w1 w2, zb_some, r_num h.ok w1 w2, zb_some, n_asl, zb_some]
theorem z_deflen (h : zCm σ lv β π nb FL mk s) {o : Nat} (ho : o ∈ lv) {d : zDs} (hD : zDr d β lv s) {pl : zPr} (hg : zG (-1) (oL (gO σ o)) = some pl) :
    ∃ t π2, F_O_defineLength (nI (β o)) (nI (zBk (-1) (π o) (oL (gO σ o)))) s = some ((zDl (gO σ o) d pl).1, t) ∧ zCm (zSO σ o (zDl (gO σ o) d pl).2) lv β π2 nb FL mk t ∧ zFk s t ∧ gE t = gE s := by
  have h0 := h.2.2.2.1
  have hnb := h.ok.2
  obtain ⟨D1, D2, D3, D4, D5, D6, D7, D8, D9, D10⟩ := id hD
  have hid : ∀ t : zSt, zCm σ lv β π nb FL mk t → zCm (zSO σ o (gO σ o)) lv β π nb FL mk t := fun t q => q.other (t := t) rfl (fun _ _ _ => rfl) rfl rfl (zSO_id σ o) rfl
  unfold F_O_defineLength zDl
  rw [D3, D4, n_asl, zb_some]
  by_cases hm1 : cAl (dK d) (dN d) = -1
  · rw [if_pos ((lg_cmp_eq _ _).mpr hm1), if_pos hm1]
    exact ⟨s, π, rfl, hid s h, zFk.of (zSame.rf s), rfl⟩
  · rw [if_neg (fun q => hm1 ((lg_cmp_eq _ _).mp q)), if_neg hm1, n_of, zb_some]
    unfold F_D_tellValue
    rw [zb_some]
    generalize hs1 : sI (sJ (sI s 9 4) 2 (cOf (cAl (dK d) (dN d)))) 10 0 = s1
    have hfk1 : zFk s s1 := by rw [← hs1]; exact ((zFk.sI s (by decide) _).tr (zFk.sJ _ _)).tr (zFk.sI _ (by decide) _)
    have hE1 : gE s1 = gE s := by rw [← hs1]; rfl
    have h1 : zCm σ lv β π nb FL mk s1 := h.other (t := s1) (by rw [← hs1]; rfl) (fun k a b => by rw [← hs1, gI_sI, if_neg (by omega), gI_sJ, gI_sI, if_neg (by omega)]) (by rw [← hs1]; rfl) (by rw [← hs1]; rfl) rfl rfl
    have hDD1 : zDr (zD1 d) β lv s1 := by
      rw [← hs1]
      refine ⟨by simp [zb_some, zt_inl, zt_inr, zc_inl, zc_inr, gI_sI, gJ_sJ, gA_sA, gB_sB, gI_sJ, gI_sA, gI_sB, gI_sN, gI_sE, gJ_sI, gJ_sA, gJ_sB, gJ_sN, gJ_sE, gA_sI, gA_sJ, gA_sB, gA_sN, gA_sE, gB_sI, gB_sJ, gB_sA, gB_sN, gB_sE, gN_sI, gN_sJ, gN_sA, gN_sB, gN_sN, gN_sE, gE_sI, gE_sJ, gE_sA, gE_sB, gE_sN, gE_sE, gI_zpush, gJ_zpush, gA_zpush, gB_zpush, gN_zpush, gE_zpush, D1, zD1, dT], by simp [zb_some, zt_inl, zt_inr, zc_inl, zc_inr, gI_sI, gJ_sJ, gA_sA, gB_sB, gI_sJ, gI_sA, gI_sB, gI_sN, gI_sE, gJ_sI, gJ_sA, gJ_sB, gJ_sN, gJ_sE, gA_sI, gA_sJ, gA_sB, gA_sN, gA_sE, gB_sI, gB_sJ, gB_sA, gB_sN, gB_sE, gN_sI, gN_sJ, gN_sA, gN_sB, gN_sN, gN_sE, gE_sI, gE_sJ, gE_sA, gE_sB, gE_sN, gE_sE, gI_zpush, gJ_zpush, gA_zpush, gB_zpush, gN_zpush, gE_zpush, D2, zD1, dF], by simp [zb_some, zt_inl, zt_inr, zc_inl, zc_inr, gI_sI, gJ_sJ, gA_sA, gB_sB, gI_sJ, gI_sA, gI_sB, gI_sN, gI_sE, gJ_sI, gJ_sA, gJ_sB, gJ_sN, gJ_sE, gA_sI, gA_sJ, gA_sB, gA_sN, gA_sE, gB_sI, gB_sJ, gB_sA, gB_sN, gB_sE, gN_sI, gN_sJ, gN_sA, gN_sB, gN_sN, gN_sE, gE_sI, gE_sJ, gE_sA, gE_sB, gE_sN, gE_sE, gI_zpush, gJ_zpush, gA_zpush, gB_zpush, gN_zpush, gE_zpush, zD1, dK], by simp [zb_some, zt_inl, zt_inr, zc_inl, zc_inr, gI_sI, gJ_sJ, gA_sA, gB_sB, gI_sJ, gI_sA, gI_sB, gI_sN, gI_sE, gJ_sI, gJ_sA, gJ_sB, gJ_sN, gJ_sE, gA_sI, gA_sJ, gA_sB, gA_sN, gA_sE, gB_sI, gB_sJ, gB_sA, gB_sN, gB_sE, gN_sI, gN_sJ, gN_sA, gN_sB, gN_sN, gN_sE, gE_sI, gE_sJ, gE_sA, gE_sB, gE_sN, gE_sE, gI_zpush, gJ_zpush, gA_zpush, gB_zpush, gN_zpush, gE_zpush, zD1, dN], ?_, fun q => ?_, fun q => ?_, Or.inl rfl, D9, D10⟩
      · simp only [gI_sI, if_true]
        show (0 : Int32) = nI (β 0)
        rw [h0]; rfl
      · simp only [gI_sI, gI_sJ]; exact D6 q
      · simp only [gI_sI, gI_sJ]; exact D7 q
    rw [r_len h1 ho hg, zb_some]
    by_cases hlt : cAl (dK d) (dN d) < cAl (kD pl) (kN pl)
    · rw [if_pos ((lg_cmp_lt _ _).mpr hlt), if_pos hlt]
      obtain ⟨p9, w1, w2, w3, w4, w5⟩ := h1.own ho (-1)
      have e9 : p9 = pl ∧ zBk (-1) (π o) (oL (gO σ o)) ≠ 0 := by
        rcases w5 with ⟨z, -⟩ | ⟨z, z2, -⟩
        · rw [z] at hg; cases hg
        · exact ⟨Option.some.inj (z.symm.trans hg), z2⟩
      obtain ⟨e9, hbne⟩ := e9
      subst e9
      rw [r_any h1.ok w1 w2, zb_some]
      by_cases hw : kF p9 &&& 2 = 0
      · rw [if_pos (bI_eq0.mpr (fun q => q hw)), if_pos hw]
        exact ⟨s1, π, rfl, hid s1 h1, hfk1, hE1⟩
      · rw [if_neg (fun q => bI_eq0.mp q hw), if_neg hw, d_false, zb_some]
        rw [show gI s1 7 = dT d from hDD1.1, show gI s1 8 = dF d from hDD1.2.1]
        -- from here on, for either description
        have go : ∀ (s2 : zSt), zCm σ lv β π nb FL mk s2 → zFk s s2 → gE s2 = gE s → zDr (zDd d) β lv s2 → ∃ t π2, F_O_defineLength_86 (nI (β o)) (nI (zBk (-1) (π o) (oL (gO σ o)))) (cAl (dK d) (dN d)) (bI (zCl2 d)) s2 = some ((if zChg (zDd d) p9 = true then (2, gO σ o) else zDe (gO σ o) d (zBec (zDd d) p9)).1, t) ∧ zCm (zSO σ o (if zChg (zDd d) p9 = true then ((2 : Int32), gO σ o) else zDe (gO σ o) d (zBec (zDd d) p9)).2) lv β π2 nb FL mk t ∧ zFk s t ∧ gE t = gE s := by
          intro s2 h2 hfk2 hE2 hDD
          unfold F_O_defineLength_86
          rcases z_chgo h2 ho hDD hg with ⟨y1, y2⟩ | ⟨y1, s3, y2, y3, y4, y5⟩
          · rw [y2, zb_some, if_pos rfl, y1, if_pos rfl]
            exact ⟨s2, π, rfl, hid s2 h2, hfk2, hE2⟩
          · rw [y2, zb_some, if_neg (by decide), y1]
            show ∃ t π2, _ = some ((zDe (gO σ o) d (zBec (zDd d) p9)).1, t) ∧ zCm (zSO σ o (zDe (gO σ o) d (zBec (zDd d) p9)).2) lv β π2 nb FL mk t ∧ zFk s t ∧ gE t = gE s
            have hkq : kK (zBec (zDd d) p9) = -1 := by
              rw [zBec_key]
              rcases zBk_at (k := -1) (h1.obj ho).2.2.2.2 (h1.chain ho).1 with ⟨y, -⟩ | ⟨p2, z1, -, -, -, z2⟩
              · rw [hg] at y; cases y
              · rw [hg] at z1; cases z1; exact z2
            generalize hq : zBec (zDd d) p9 = q at y4 y5 hkq
            obtain ⟨s4, π4, c1, c2, c3, c4, c5, c6, c7⟩ := z_cut y5 ho (cAl (dK d) (dN d))
            rw [gO_zSO] at c1 c2 c6 c7
            have hol : oL (zSL (gO σ o) (zUp (-1) q (oL (gO σ o)))) = zUp (-1) q (oL (gO σ o)) := rfl
            rw [hol] at c1 c2 c6 c7
            rw [c1, zb_some]
            have hbk : zBk (-1) (π4 o) (zCt (cAl (dK d) (dN d)) (cAl (dK d) (dN d)) [] [] (zUp (-1) q (oL (gO σ o)))).2 = zBk (-1) (π o) (oL (gO σ o)) := by rw [c6, zBk_up hkq]
            have hg4 : zG (-1) (zCt (cAl (dK d) (dN d)) (cAl (dK d) (dN d)) [] [] (zUp (-1) q (oL (gO σ o)))).2 = some q := by rw [c7, zG_up hkq (by rw [hg]; simp)]
            unfold zDe
            generalize zCt (cAl (dK d) (dN d)) (cAl (dK d) (dN d)) [] [] (zUp (-1) q (oL (gO σ o))) = ct at c1 c2 c6 c7 hbk hg4 ⊢
            have e4 : oL (gO (zSO (zSO σ o (zSL (gO σ o) (zUp (-1) q (oL (gO σ o))))) o (zSL (zSL (gO σ o) (zUp (-1) q (oL (gO σ o)))) ct.2)) o) = ct.2 := by rw [gO_zSO]; rfl
            obtain ⟨s5, f1, f2, f3, f4, f5⟩ := z_setL c2 ho (q := q) (by rw [e4]; exact hg4) ct.1
            rw [e4] at f1 f2
            rw [hbk] at f1
            rw [f1, zb_some]
            have hC5 : zCm (zSO σ o (zSL (gO σ o) (zUp (-1) (zWl ct.1 q) ct.2))) lv β π4 nb FL mk s5 := f2.other (t := s5) rfl (fun _ _ _ => rfl) rfl rfl (by rw [zSO_so, zSO_so, gO_zSO]; rfl) rfl
            have hfk5 : zFk s s5 := ((hfk2.tr (zFk.of y3.2.1)).tr (zFk.of c3)).tr (zFk.of f3)
            have hE5 : gE s5 = gE s := by rw [f4, c4, y3.2.2.1, hE2]
            unfold F_O_defineLength_137 F_O_defineLength_150
            have fin : ∀ (v : zSt), (if lg_cmp ct.1 (cAl (dK d) (dN d)) = 0 then some ((0 : Int32), v) else some (2, v)) = some ((if ct.1 = cAl (dK d) (dN d) then 0 else 2), v) := by
              intro v
              by_cases hz : ct.1 = cAl (dK d) (dN d)
              · rw [if_pos ((lg_cmp_eq _ _).mpr hz), if_pos hz]
              · rw [if_neg (fun z => hz ((lg_cmp_eq _ _).mp z)), if_neg hz]
            by_cases hcl : zCl2 d
            · rw [if_neg (fun z => bI_eq0.mp z hcl), if_pos hcl]
              have hg5 : zG (-1) (oL (gO (zSO σ o (zSL (gO σ o) (zUp (-1) (zWl ct.1 q) ct.2))) o)) = some (zWl ct.1 q) := by
                rw [gO_zSO]
                exact zG_up (show kK (zWl ct.1 q) = -1 from hkq) (by rw [hg4]; simp)
              have hb5 : zBk (-1) (π4 o) (oL (gO (zSO σ o (zSL (gO σ o) (zUp (-1) (zWl ct.1 q) ct.2))) o)) = zBk (-1) (π o) (oL (gO σ o)) := by
                rw [gO_zSO]
                show zBk (-1) (π4 o) (zUp (-1) (zWl ct.1 q) ct.2) = _
                rw [zBk_up (show kK (zWl ct.1 q) = -1 from hkq)]
                exact hbk
              obtain ⟨p8, v1, v2, v3, v4, v5⟩ := hC5.own ho (-1)
              have e8 : p8 = zWl ct.1 q := by
                rcases v5 with ⟨z, -⟩ | ⟨z, -, -⟩
                · rw [z] at hg5; cases hg5
                · exact Option.some.inj (z.symm.trans hg5)
              subst e8
              rw [hb5] at v1 v2
              rw [r_att hC5.ok v1 v2, zb_some, zsw5 hC5.ok v1, zb_some, fin]
              have hu : zBu (zBk (-1) (π o) (oL (gO σ o))) s5 (sW s5 (zBk (-1) (π o) (oL (gO σ o))) 5 ((kF (zWl ct.1 q) &&& -3).toInt64)) := zBu.sW s5 _ hbne (by decide)
              have hp6 : zPw1 (sW s5 (zBk (-1) (π o) (oL (gO σ o))) 5 ((kF (zWl ct.1 q) &&& -3).toInt64)) β (zBk (-1) (π o) (oL (gO σ o))) (zNw (zWl ct.1 q)) := by
                obtain ⟨a1, a2, a3, a4, a5, a6⟩ := v2
                refine ⟨?_, ?_, ?_, ?_, ?_, ?_⟩ <;> rw [Wd_sW hbne (by decide) (by decide)]
                · rw [if_neg (by omega)]; exact a1
                · rw [if_neg (by omega)]; exact a2
                · rw [if_neg (by omega)]; exact a3
                · rw [if_pos ⟨rfl, rfl⟩]; rfl
                · rw [if_neg (by omega)]; exact a5
                · rw [if_neg (by omega)]; exact a6
              have hC6 := hC5.setP (t := sW s5 (zBk (-1) (π o) (oL (gO σ o))) 5 ((kF (zWl ct.1 q) &&& -3).toInt64)) ho (k := -1) (q := zNw (zWl ct.1 q)) (by rw [hg5]; simp) (show kK (zNw (zWl ct.1 q)) = -1 from hkq) (by rw [hb5]; exact hu) (by rw [hb5]; exact hp6) ⟨v3, v4⟩
              refine ⟨_, π4, rfl, hC6.other (t := sW s5 (zBk (-1) (π o) (oL (gO σ o))) 5 ((kF (zWl ct.1 q) &&& -3).toInt64)) rfl (fun _ _ _ => rfl) rfl rfl ?_ rfl, hfk5.tr (zFk.of (zSame.sW _ _ _ _)), by rw [sW_E]; exact hE5⟩
              rw [zSO_so, gO_zSO]
              show gO (zSO σ o (zSL (gO σ o) (zUp (-1) (zNw (zWl ct.1 q)) ct.2))) = gO (zSO σ o (zSL (gO σ o) (zUp (-1) (zNw (zWl ct.1 q)) (zUp (-1) (zWl ct.1 q) ct.2))))
              rw [zUp_up (show kK (zWl ct.1 q) = -1 from hkq)]
            · rw [if_pos (bI_eq0.mpr hcl), if_neg hcl, fin]
              exact ⟨s5, π4, rfl, hC5, hfk5, hE5⟩
        by_cases hcl : zCl2 d
        · rw [if_neg (fun z => bI_eq0.mp z hcl)]
          have hs2 : zFk s1 (sI s1 8 (dF d ||| 2)) := zFk.sI s1 (by decide) _
          obtain ⟨E1, E2, E3, E4, E5, E6, E7, E8, E9, E10⟩ := hDD1
          refine go (sI s1 8 (dF d ||| 2)) (h1.other (t := sI s1 8 (dF d ||| 2)) rfl (fun k a b => by rw [gI_sI, if_neg (by omega)]) rfl rfl rfl rfl) (hfk1.tr hs2) hE1 ?_
          unfold zDd
          rw [if_pos hcl]
          refine ⟨by simp [zb_some, zt_inl, zt_inr, zc_inl, zc_inr, gI_sI, gJ_sJ, gA_sA, gB_sB, gI_sJ, gI_sA, gI_sB, gI_sN, gI_sE, gJ_sI, gJ_sA, gJ_sB, gJ_sN, gJ_sE, gA_sI, gA_sJ, gA_sB, gA_sN, gA_sE, gB_sI, gB_sJ, gB_sA, gB_sN, gB_sE, gN_sI, gN_sJ, gN_sA, gN_sB, gN_sN, gN_sE, gE_sI, gE_sJ, gE_sA, gE_sB, gE_sN, gE_sE, gI_zpush, gJ_zpush, gA_zpush, gB_zpush, gN_zpush, gE_zpush, E1, zD2, zD1, dT], by simp [zb_some, zt_inl, zt_inr, zc_inl, zc_inr, gI_sI, gJ_sJ, gA_sA, gB_sB, gI_sJ, gI_sA, gI_sB, gI_sN, gI_sE, gJ_sI, gJ_sA, gJ_sB, gJ_sN, gJ_sE, gA_sI, gA_sJ, gA_sB, gA_sN, gA_sE, gB_sI, gB_sJ, gB_sA, gB_sN, gB_sE, gN_sI, gN_sJ, gN_sA, gN_sB, gN_sN, gN_sE, gE_sI, gE_sJ, gE_sA, gE_sB, gE_sN, gE_sE, gI_zpush, gJ_zpush, gA_zpush, gB_zpush, gN_zpush, gE_zpush, zD2, dF], by simp [zb_some, zt_inl, zt_inr, zc_inl, zc_inr, gI_sI, gJ_sJ, gA_sA, gB_sB, gI_sJ, gI_sA, gI_sB, gI_sN, gI_sE, gJ_sI, gJ_sA, gJ_sB, gJ_sN, gJ_sE, gA_sI, gA_sJ, gA_sB, gA_sN, gA_sE, gB_sI, gB_sJ, gB_sA, gB_sN, gB_sE, gN_sI, gN_sJ, gN_sA, gN_sB, gN_sN, gN_sE, gE_sI, gE_sJ, gE_sA, gE_sB, gE_sN, gE_sE, gI_zpush, gJ_zpush, gA_zpush, gB_zpush, gN_zpush, gE_zpush, E3, zD2, zD1, dK], by simp [zb_some, zt_inl, zt_inr, zc_inl, zc_inr, gI_sI, gJ_sJ, gA_sA, gB_sB, gI_sJ, gI_sA, gI_sB, gI_sN, gI_sE, gJ_sI, gJ_sA, gJ_sB, gJ_sN, gJ_sE, gA_sI, gA_sJ, gA_sB, gA_sN, gA_sE, gB_sI, gB_sJ, gB_sA, gB_sN, gB_sE, gN_sI, gN_sJ, gN_sA, gN_sB, gN_sN, gN_sE, gE_sI, gE_sJ, gE_sA, gE_sB, gE_sN, gE_sE, gI_zpush, gJ_zpush, gA_zpush, gB_zpush, gN_zpush, gE_zpush, E4, zD2, zD1, dN], ?_, fun q => ?_, fun q => ?_, Or.inl rfl, E9, E10⟩
          · simp only [gI_sI]; exact E5
          · simp only [gI_sI]; exact E6 q
          · simp only [gI_sI]; exact E7 q
        · rw [if_pos (bI_eq0.mpr hcl)]
          refine go s1 h1 hfk1 hE1 ?_
          unfold zDd
          rw [if_neg hcl]
          exact hDD1
    · rw [if_neg (fun q => hlt ((lg_cmp_lt _ _).mp q)), if_neg hlt]
      rcases z_chgo h1 ho hDD1 hg with ⟨y1, y2⟩ | ⟨y1, s3, y2, y3, y4, y5⟩
      · rw [y2, zb_some, y1, if_pos rfl]
        exact ⟨s1, π, rfl, hid s1 h1, hfk1, hE1⟩
      · rw [y2, zb_some, y1]
        exact ⟨s3, π, rfl, y5, hfk1.tr (zFk.of y3.2.1), y3.2.2.1.trans hE1⟩
theorem z_define (h : zCm σ lv β π nb FL mk s) (hmk : mk < 1024) {o : Nat} (ho0 : o ≠ 0) (hr : zRt σ o) {d : zDs} (hD : zDr d β lv s) (hdr : zRt σ (dO d) ∧ zRt σ (dG d) ∧ zRt σ (dS d)) (k : Int64) (ha : oA (gO σ o) = true → zG (-1) (oL (gO σ o)) ≠ none) :
    ∃ t lv2 π2 nb2 FL2, F_O_defineProperty (nI (β o)) k s = some ((zDp (gO σ o) k d).1, t) ∧ zCm (zSO σ o (zDp (gO σ o) k d).2) lv2 β π2 nb2 FL2 (mk + 1) t ∧ zFk s t ∧ nb ≤ nb2 ∧ zeC (gE t) ≤ zeC (gE s) + 16 * (nb2 - nb) ∧ zeL (gE t) ≤ zeL (gE s) + (nb2 - nb) := by
  have ho : o ∈ lv := by
    rcases hr with e | ⟨i, hi, e⟩
    · exact absurd e ho0
    · rw [← e]; exact (h.2.2.2.2.2.2.2 i hi).2.resolve_left (by rw [e]; exact ho0)
  obtain ⟨q1, q2, q3, q4, q5⟩ := h.chain ho
  obtain ⟨w1, w2, w3, w4, w5⟩ := h.obj ho
  have hnb := h.ok.2
  have hmono : ∀ {σ2 : zSg} {π2 : Nat → List Nat} {t : zSt}, zCm σ2 lv β π2 nb FL mk t → zCm σ2 lv β π2 nb FL (mk + 1) t := fun q => ⟨⟨q.1.1, q.1.2.1, q.1.2.2.1, q.1.2.2.2.1, q.1.2.2.2.2.1, by have := q.1.2.2.2.2.2; omega⟩, q.2⟩
  have plain := z_plain h hmk ho0 hr hD hdr (k := k) ha
  unfold F_O_defineProperty zDp
  rw [zw3 h.ok q3, zb_some, w3, qL_int]
  cases hA : oA (gO σ o) with
  | false =>
    have hf : ¬ (false = true) := by decide
    rw [if_neg (t := zBk (-1) (π o) (oL (gO σ o))) (e := 0) hf, if_pos (show nI 0 = 0 from rfl), if_neg hf]
    obtain ⟨t, lv2, π2, nb2, FL2, g1, g2, g3, g4, g5, g6, g7, g8⟩ := plain
    rw [g1, zb_some]
    exact ⟨t, lv2, π2, nb2, FL2, rfl, g2, zFk.of g4, g5, g6, g7⟩
  | true =>
    rw [if_pos rfl, if_pos rfl]
    obtain ⟨pl, v1, v2, v3, v4, v5⟩ := h.own ho (-1)
    have e5 : zG (-1) (oL (gO σ o)) = some pl ∧ zBk (-1) (π o) (oL (gO σ o)) ≠ 0 := by
      rcases v5 with ⟨z, -⟩ | ⟨z, z2, -⟩
      · exact absurd z (ha hA)
      · exact ⟨z, z2⟩
    obtain ⟨hg, hbne⟩ := e5
    rw [if_neg (fun q => hbne ((qI_eq0 (by omega)).mp q)), hg, Option.getD_some]
    have p53 : (¬ (k = -1 ∧ dT d &&& 1 ≠ 0)) → ∃ t lv2 π2 nb2 FL2, F_O_defineProperty_53 (nI (β o)) k (nI (zBk (-1) (π o) (oL (gO σ o)))) s = some ((if k = -1 ∧ dT d &&& 1 ≠ 0 then zDl (gO σ o) d pl else if k < cAl (kD pl) (kN pl) then zPl (gO σ o) k d else if kF pl &&& 2 = 0 then (2, gO σ o) else if (zPl (gO σ o) k d).1 = 0 then (0, zSL (zPl (gO σ o) k d).2 (zUp (-1) (zWl (k + 1) ((zG (-1) (oL (zPl (gO σ o) k d).2)).getD zp0)) (oL (zPl (gO σ o) k d).2))) else zPl (gO σ o) k d).1, t) ∧ zCm (zSO σ o (if k = -1 ∧ dT d &&& 1 ≠ 0 then zDl (gO σ o) d pl else if k < cAl (kD pl) (kN pl) then zPl (gO σ o) k d else if kF pl &&& 2 = 0 then (2, gO σ o) else if (zPl (gO σ o) k d).1 = 0 then (0, zSL (zPl (gO σ o) k d).2 (zUp (-1) (zWl (k + 1) ((zG (-1) (oL (zPl (gO σ o) k d).2)).getD zp0)) (oL (zPl (gO σ o) k d).2))) else zPl (gO σ o) k d).2) lv2 β π2 nb2 FL2 (mk + 1) t ∧ zFk s t ∧ nb ≤ nb2 ∧ zeC (gE t) ≤ zeC (gE s) + 16 * (nb2 - nb) ∧ zeL (gE t) ≤ zeL (gE s) + (nb2 - nb) := by
      intro hn
      rw [if_neg hn]
      unfold F_O_defineProperty_53 F_O_defineProperty_109
      rw [r_len h ho hg, zb_some]
      obtain ⟨t, lv2, π2, nb2, FL2, g1, g2, g3, g4, g5, g6, g7, g8⟩ := plain
      by_cases hlt : k < cAl (kD pl) (kN pl)
      · rw [if_neg (fun q => absurd ((lg_cmp_ge _ _).mp q) (Int64.not_le.mpr hlt)), if_pos hlt, g1, zb_some]
        exact ⟨t, lv2, π2, nb2, FL2, rfl, g2, zFk.of g4, g5, g6, g7⟩
      · rw [if_pos ((lg_cmp_ge _ _).mpr (Int64.not_lt.mp hlt)), if_neg hlt, r_any h.ok v1 v2, zb_some]
        by_cases hw : kF pl &&& 2 = 0
        · rw [if_pos (bI_eq0.mpr (fun q => q hw)), if_pos hw]
          exact ⟨s, lv, π, nb, FL, rfl, hmono (h.other (t := s) rfl (fun _ _ _ => rfl) rfl rfl (zSO_id σ o) rfl), zFk.of (zSame.rf s), Nat.le_refl _, by omega, by omega⟩
        · rw [if_neg (fun q => bI_eq0.mp q hw), if_neg hw, g1, zb_some]
          by_cases hz : (zPl (gO σ o) k d).1 = 0
          · rw [if_pos hz, if_pos hz]
            have hbk := g8 hA
            have hg2 : ∃ q, zG (-1) (oL (zPl (gO σ o) k d).2) = some q := by
              have e : oL (gO (zSO σ o (zPl (gO σ o) k d).2) o) = oL (zPl (gO σ o) k d).2 := by rw [gO_zSO]
              obtain ⟨p7, -, -, -, -, u5⟩ := g2.own g3 (-1)
              rw [e] at u5
              rcases u5 with ⟨-, z, -⟩ | ⟨z, -, -⟩
              · rw [hbk] at z; exact absurd z hbne
              · exact ⟨p7, z⟩
            obtain ⟨q, hq⟩ := hg2
            obtain ⟨t2, f1, f2, f3, f4, f5⟩ := z_setL g2 g3 (q := q) (by rw [gO_zSO]; exact hq) (k + 1)
            rw [gO_zSO] at f1 f2
            rw [hbk] at f1
            rw [f1, zb_some, hz, hq, Option.getD_some]
            exact ⟨t2, lv2, π2, nb2, FL2, rfl, f2.other (t := t2) rfl (fun _ _ _ => rfl) rfl rfl (by rw [zSO_so]) rfl, (zFk.of g4).tr (zFk.of f3), g5, by rw [f4]; exact g6, by rw [f4]; exact g7⟩
          · rw [if_neg hz, if_neg hz]
            exact ⟨t, lv2, π2, nb2, FL2, rfl, g2, zFk.of g4, g5, g6, g7⟩
    by_cases hk : k = -1
    · rw [if_pos ((lg_cmp_eq _ _).mpr hk), d_tells, zb_some, hD.1]
      by_cases h1 : dT d &&& 1 = 0
      · rw [if_pos (bI_eq0.mpr (fun q => q h1))]
        exact p53 (fun q => q.2 h1)
      · rw [if_neg (fun q => bI_eq0.mp q h1), if_pos (show k = -1 ∧ dT d &&& 1 ≠ 0 from ⟨hk, h1⟩)]
        obtain ⟨t, π2, g1, g2, g3, g4⟩ := z_deflen h ho hD hg
        rw [g1, zb_some]
        exact ⟨t, lv, π2, nb, FL, rfl, hmono g2, g3, Nat.le_refl _, by rw [g4]; omega, by rw [g4]; omega⟩
    · rw [if_neg (fun q => hk ((lg_cmp_eq _ _).mp q))]
      exact p53 (fun q => hk q.1)
end ZC9

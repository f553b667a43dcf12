/-! the length of an array -/
def zMx (a b : Int64) : Int64 := if a < b then b else a
def zCt (asked : Int64) : Int64 → List zPr → List zPr → List zPr → Int64 × List zPr
  | left, kept, _, [] => (left, kept)
  | left, kept, pend, p :: r => if kK p < 0 then (left, kept ++ p :: r)
    else if kK p < asked ∨ kF p &&& 32 = 0 then zCt asked (zMx asked (kK p + 1)) (kept ++ (pend ++ [p])) [] r
    else zCt asked left kept (pend ++ [p]) r
theorem n_max (a b : Int64) (s : zSt) : F_JM_max a b s = some (zMx a b, s) := by
  unfold F_JM_max F_JM_max_11 zMx
  by_cases h : a < b
  · rw [if_pos ((lg_cmp_lt _ _).mpr h), if_pos h]
  · rw [if_neg (fun q => h ((lg_cmp_lt _ _).mp q)), if_neg h]
theorem zLs_mid (d a : Nat) (l m : List Nat) : zLs d (l ++ (m ++ [a])) = a := by rw [← List.append_assoc]; exact zLs_app d a _
section ZC8
variable {σ : zSg} {lv : List Nat} {β : Nat → Nat} {π : Nat → List Nat} {nb : Nat} {FL : List Nat} {mk rc rl : Nat} {s : zSt}
theorem r_cut {s : zSt} (hok : zOk nb s) (asked : Int64) (ob : Int32) : ∀ (l2 : List Nat) (p2 : List zPr) (n j : Nat) (left : Int64) (l1 lm : List Nat) (p1 pm : List zPr), zPA s β l2 p2 → zIn nb l2 → j + l2.length < 1024 → l2.length < n → l1.length = p1.length → lm.length = pm.length → (∀ p ∈ pm, 0 ≤ kK p) →
    ∃ left2 l1' lm' l3 p1' pm' p3, F_O_cut_16 n ob asked left (nI (l2.headD 0)) (nI (zLs 0 l1)) (nI j) s = F_O_cut_93 ob left2 (nI (l3.headD 0)) (nI (zLs 0 l1')) s ∧ l1 ++ (lm ++ l2) = l1' ++ (lm' ++ l3) ∧ p1 ++ (pm ++ p2) = p1' ++ (pm' ++ p3) ∧ l1'.length = p1'.length ∧ lm'.length = pm'.length ∧ (∀ p ∈ pm', 0 ≤ kK p) ∧ zCt asked left p1 pm p2 = (left2, p1' ++ p3) := by
  have hnb := hok.2
  intro l2
  induction l2 with
  | nil =>
    intro p2 n j left l1 lm p1 pm hP hI hj hn e1 e2 hpm
    obtain ⟨m, rfl⟩ : ∃ m, n = m + 1 := ⟨n - 1, by omega⟩
    cases p2 with
    | cons p ps => exact hP.elim
    | nil =>
      refine ⟨left, l1, lm, [], p1, pm, [], ?_, rfl, rfl, e1, e2, hpm, by rw [List.append_nil]; rfl⟩
      rw [F_O_cut_16]
      have hz : nI (([] : List Nat).headD 0) = 0 := rfl
      rw [hz, if_pos rfl]
      split <;> rfl
  | cons b l2 ih =>
    intro p2 n j left l1 lm p1 pm hP hI hj hn e1 e2 hpm
    rw [List.length_cons] at hj hn
    obtain ⟨m, rfl⟩ : ∃ m, n = m + 1 := ⟨n - 1, by omega⟩
    cases p2 with
    | nil => exact hP.elim
    | cons p p2 =>
      obtain ⟨h1, h2, h3⟩ := hP
      have hb := hI.1 b List.mem_cons_self
      have hge : ¬ ((1024 : Int32) ≤ nI j) := fun q => by
        have := (qI_le (a := 1024) (b := j) (by decide) (by omega)).mp q
        omega
      have hne : ¬ (nI ((b :: l2).headD 0) = 0) := fun q => by
        have := (qI_eq0 (a := b) (by omega)).mp q
        omega
      have e0 : nI ((b :: l2).headD 0) = nI b := rfl
      have ej : nI j + 1 = nI (j + 1) := (nI_succ j).symm
      have asl : l1 ++ (lm ++ b :: l2) = l1 ++ ((lm ++ [b]) ++ l2) := by simp
      have asp : p1 ++ (pm ++ p :: p2) = p1 ++ ((pm ++ [p]) ++ p2) := by simp
      rw [F_O_cut_16, if_neg hge, if_neg hne, e0, r_key hok hb.2 h2, zb_some]
      show ∃ left2 l1' lm' l3 p1' pm' p3, _ ∧ _ ∧ _ ∧ _ ∧ _ ∧ _ ∧ (if kK p < 0 then (left, p1 ++ p :: p2) else if kK p < asked ∨ kF p &&& 32 = 0 then zCt asked (zMx asked (kK p + 1)) (p1 ++ (pm ++ [p])) [] p2 else zCt asked left p1 (pm ++ [p]) p2) = (left2, p1' ++ p3)
      by_cases hk0 : kK p < 0
      · rw [if_neg (fun q => absurd ((lg_cmp_ge _ _).mp q) (Int64.not_le.mpr hk0)), if_pos hk0]
        exact ⟨left, l1, lm, b :: l2, p1, pm, p :: p2, rfl, rfl, rfl, e1, e2, hpm, rfl⟩
      · have hk0' : 0 ≤ kK p := Int64.not_lt.mp hk0
        rw [if_pos ((lg_cmp_ge _ _).mpr hk0'), if_neg hk0]
        -- kept
        have kept : (if kK p < asked ∨ kF p &&& 32 = 0 then zCt asked (zMx asked (kK p + 1)) (p1 ++ (pm ++ [p])) [] p2 else zCt asked left p1 (pm ++ [p]) p2) = zCt asked (zMx asked (kK p + 1)) (p1 ++ (pm ++ [p])) [] p2 → ∃ left2 l1' lm' l3 p1' pm' p3, F_O_cut_65 (F_O_cut_16 m) ob asked (nI b) (nI j) (kK p) s = F_O_cut_93 ob left2 (nI (l3.headD 0)) (nI (zLs 0 l1')) s ∧ l1 ++ (lm ++ b :: l2) = l1' ++ (lm' ++ l3) ∧ p1 ++ (pm ++ p :: p2) = p1' ++ (pm' ++ p3) ∧ l1'.length = p1'.length ∧ lm'.length = pm'.length ∧ (∀ p ∈ pm', 0 ≤ kK p) ∧ (if kK p < asked ∨ kF p &&& 32 = 0 then zCt asked (zMx asked (kK p + 1)) (p1 ++ (pm ++ [p])) [] p2 else zCt asked left p1 (pm ++ [p]) p2) = (left2, p1' ++ p3) := by
          intro he
          rw [he]
          unfold F_O_cut_65 F_O_cut_79
          rw [n_max, zb_some, r_next hok hb.2 h1, zb_some, ej]
          obtain ⟨left2, l1', lm', l3, p1', pm', p3, g1, g2, g3, g4, g5, g6, g7⟩ := ih p2 m (j + 1) (zMx asked (kK p + 1)) (l1 ++ (lm ++ [b])) [] (p1 ++ (pm ++ [p])) [] h3 hI.tl (by omega) (by omega) (by simp [e1, e2]) rfl (fun q hq => by cases hq)
          rw [zLs_mid] at g1
          refine ⟨left2, l1', lm', l3, p1', pm', p3, g1, ?_, ?_, g4, g5, g6, g7⟩
          · rw [← g2]; simp
          · rw [← g3]; simp
        by_cases hka : kK p < asked
        · rw [if_pos ((lg_cmp_lt _ _).mpr hka)]
          exact kept (if_pos (Or.inl hka))
        · rw [if_neg (fun q => hka ((lg_cmp_lt _ _).mp q)), r_any hok hb.2 h2, zb_some]
          by_cases hf : kF p &&& 32 = 0
          · rw [if_pos (bI_eq0.mpr (fun q => q hf))]
            exact kept (if_pos (Or.inr hf))
          · rw [if_neg (fun q => bI_eq0.mp q hf), if_neg (show ¬ (kK p < asked ∨ kF p &&& 32 = 0) from fun q => q.elim hka hf)]
            unfold F_O_cut_79
            rw [r_next hok hb.2 h1, zb_some, ej]
            obtain ⟨left2, l1', lm', l3, p1', pm', p3, g1, g2, g3, g4, g5, g6, g7⟩ := ih p2 m (j + 1) left l1 (lm ++ [b]) p1 (pm ++ [p]) h3 hI.tl (by omega) (by omega) e1 (by simp [e2]) (fun q hq => by
              rcases List.mem_append.mp hq with z | z
              · exact hpm q z
              · rw [List.mem_singleton.mp z]; exact hk0')
            exact ⟨left2, l1', lm', l3, p1', pm', p3, g1, by rw [asl]; exact g2, by rw [asp]; exact g3, g4, g5, g6, g7⟩
/-- indices go from the end -/
theorem z_cut (h : zCm σ lv β π nb FL mk s) {o : Nat} (ho : o ∈ lv) (asked : Int64) : ∃ t π2, F_O_cut (nI (β o)) asked s = some ((zCt asked asked [] [] (oL (gO σ o))).1, t) ∧ zCm (zSO σ o (zSL (gO σ o) (zCt asked asked [] [] (oL (gO σ o))).2)) lv β π2 nb FL mk t ∧ zSame s t ∧ gE t = gE s ∧ (∀ k, gI t k = gI s k) ∧ zBk (-1) (π2 o) (zCt asked asked [] [] (oL (gO σ o))).2 = zBk (-1) (π o) (oL (gO σ o)) ∧ zG (-1) (zCt asked asked [] [] (oL (gO σ o))).2 = zG (-1) (oL (gO σ o)) := by
  obtain ⟨q1, q2, q3, q4, q5⟩ := h.chain ho
  unfold F_O_cut
  rw [r_first h.ok q3 (h.obj ho), zb_some]
  obtain ⟨left2, l1, lm, l3, p1, pm, p3, g1, g2, g3, g4, g5, g6, g7⟩ := r_cut h.ok asked (nI (β o)) (π o) (oL (gO σ o)) zFuel 0 asked [] [] [] [] (h.obj ho).2.2.2.2 q1 (by have := q1.2; omega) (by have := q1.2; rw [zFuel_eq]; omega) rfl rfl (fun p hp => by cases hp)
  have g1 : F_O_cut_16 zFuel (nI (β o)) asked asked (nI ((π o).headD 0)) 0 0 s = F_O_cut_93 (nI (β o)) left2 (nI (l3.headD 0)) (nI (zLs 0 l1)) s := g1
  rw [g1, g7]
  have g2 : π o = l1 ++ (lm ++ l3) := g2
  have g3 : oL (gO σ o) = p1 ++ (pm ++ p3) := g3
  have hgm : zG (-1) pm = none := by
    have : ∀ ps : List zPr, (∀ p ∈ ps, 0 ≤ kK p) → zG (-1) ps = none := by
      intro ps
      induction ps with
      | nil => intro _; rfl
      | cons a r ih =>
        intro hp
        show (if kK a = -1 then some a else zG (-1) r) = none
        rw [if_neg (fun e => by
          have := hp a List.mem_cons_self
          rw [e] at this
          exact absurd this (by decide)), ih (fun p q => hp p (List.mem_cons_of_mem _ q))]
    exact this pm g6
  have hGapp : ∀ a b : List zPr, zG (-1) (a ++ b) = match zG (-1) a with | some p => some p | none => zG (-1) b := by
    intro a b
    induction a with
    | nil => rfl
    | cons x r ih =>
      show (if kK x = -1 then some x else zG (-1) (r ++ b)) = match (if kK x = -1 then some x else zG (-1) r) with | some p => some p | none => zG (-1) b
      by_cases hx : kK x = -1
      · rw [if_pos hx, if_pos hx]
      · rw [if_neg hx, if_neg hx, ih]
  have hbk : zBk (-1) (l1 ++ l3) (p1 ++ p3) = zBk (-1) (π o) (oL (gO σ o)) := by
    rw [g2, g3, zBk_app g4, zBk_app g4, zBk_app g5, if_pos hgm]
  obtain ⟨t, w1, w2, w3, w4⟩ := h.relink ho g2 g3 g4 g5 (fun _ => hbk)
  unfold F_O_cut_93
  rw [w1, zb_some]
  refine ⟨t, _, rfl, w2, w3.2.1, w3.2.2.1, w3.2.2.2.1, ?_, ?_⟩
  · simp only [if_true]
    exact hbk
  · rw [g3, hGapp, hGapp, hGapp, hgm]
def zWl (n : Int64) (p : zPr) : zPr := (kK p, kF p, 4, cOf n, 0, kS p)
def zNw (p : zPr) : zPr := (kK p, kF p &&& (-3), kD p, kN p, kO p, kS p)
def zD1 (d : zDs) : zDs := (dT d, dF d, 4, cOf (cAl (dK d) (dN d)), 0, dG d, dS d)
def zD2 (d : zDs) : zDs := (dT d, dF d ||| 2, 4, cOf (cAl (dK d) (dN d)), 0, dG d, dS d)
abbrev zCl2 (d : zDs) : Prop := dT d &&& 2 ≠ 0 ∧ dF d &&& 2 = 0
def zDd (d : zDs) : zDs := if zCl2 d then zD2 d else zD1 d
/-- behind the change of the length -/
def zDe (x : zOb) (d : zDs) (q : zPr) : Int32 × zOb :=
  (if (zCt (cAl (dK d) (dN d)) (cAl (dK d) (dN d)) [] [] (zUp (-1) q (oL x))).1 = cAl (dK d) (dN d) then 0 else 2,
    zSL x (zUp (-1) (if zCl2 d then zNw (zWl (zCt (cAl (dK d) (dN d)) (cAl (dK d) (dN d)) [] [] (zUp (-1) q (oL x))).1 q) else zWl (zCt (cAl (dK d) (dN d)) (cAl (dK d) (dN d)) [] [] (zUp (-1) q (oL x))).1 q) (zCt (cAl (dK d) (dN d)) (cAl (dK d) (dN d)) [] [] (zUp (-1) q (oL x))).2))
def zDl (x : zOb) (d : zDs) (pl : zPr) : Int32 × zOb :=
  if cAl (dK d) (dN d) = -1 then (3, x)
  else if cAl (dK d) (dN d) < cAl (kD pl) (kN pl) then (if kF pl &&& 2 = 0 then (2, x) else if zChg (zDd d) pl then (2, x) else zDe x d (zBec (zDd d) pl))
  else if zChg (zD1 d) pl then (2, x) else (0, zSL x (zUp (-1) (zBec (zD1 d) pl) (oL x)))
theorem d_false (m : Int32) (s : zSt) : F_D_tellsFalse m s = some (bI (gI s 7 &&& m ≠ 0 ∧ gI s 8 &&& m = 0), s) := by
  unfold F_D_tellsFalse F_D_tellsFalse_20 F_D_tellsFalse_21
  rw [d_tells, zb_some]
  by_cases h1 : gI s 7 &&& m = 0
  · rw [if_pos (bI_eq0.mpr (fun q => q h1)), if_pos z_nar0, bI_f (fun q => q.1 h1)]
  · rw [if_neg (fun q => bI_eq0.mp q h1), d_true, zb_some]
    by_cases h2 : gI s 8 &&& m = 0
    · rw [if_pos (bI_eq0.mpr (fun q => q h2)), if_pos z_nar1, bI_t ⟨h1, h2⟩]
    · rw [if_neg (fun q => bI_eq0.mp q h2), if_pos z_nar0, bI_f (fun q => h2 q.2)]
theorem zUp_up {k : Int64} {a b : zPr} (ha : kK a = k) : ∀ ps : List zPr, zUp k b (zUp k a ps) = zUp k b ps := by
  intro ps
  induction ps with
  | nil => rfl
  | cons p r ih =>
    show zUp k b (if kK p = k then a :: r else p :: zUp k a r) = (if kK p = k then b :: r else p :: zUp k b r)
    by_cases h : kK p = k
    · rw [if_pos h, if_pos h]
      exact if_pos ha
    · rw [if_neg h, if_neg h]
      show (if kK p = k then b :: zUp k a r else p :: zUp k b (zUp k a r)) = _
      rw [if_neg h, ih]
theorem zG_up {k : Int64} {a : zPr} (ha : kK a = k) : ∀ {ps : List zPr}, zG k ps ≠ none → zG k (zUp k a ps) = some a := by
  intro ps
  induction ps with
  | nil => intro h; exact absurd rfl h
  | cons p r ih =>
    intro h
    show zG k (if kK p = k then a :: r else p :: zUp k a r) = some a
    by_cases hp : kK p = k
    · rw [if_pos hp]; exact if_pos ha
    · rw [if_neg hp]
      have h : (if kK p = k then some p else zG k r) ≠ none := h
      rw [if_neg hp] at h
      show (if kK p = k then some p else zG k (zUp k a r)) = some a
      rw [if_neg hp, ih h]
theorem zSO_so (σ : zSg) (o : Nat) (x y : zOb) : gO (zSO (zSO σ o x) o y) = gO (zSO σ o y) := by
  funext j
  show (if j = o then y else (if j = o then x else gO σ j)) = if j = o then y else gO σ j
  by_cases h : j = o
  · rw [if_pos h, if_pos h]
  · rw [if_neg h, if_neg h, if_neg h]
theorem gO_zSO (σ : zSg) (o : Nat) (x : zOb) : gO (zSO σ o x) o = x := if_pos rfl
/-- the words of a length are written -/
theorem z_setL (h : zCm σ lv β π nb FL mk s) {o : Nat} (ho : o ∈ lv) {q : zPr} (hg : zG (-1) (oL (gO σ o)) = some q) (n : Int64) : ∃ t, F_O_writeLength (nI (zBk (-1) (π o) (oL (gO σ o)))) n s = some ((), t) ∧ zCm (zSO σ o (zSL (gO σ o) (zUp (-1) (zWl n q) (oL (gO σ o))))) lv β π nb FL mk t ∧ zSame s t ∧ gE t = gE s ∧ (∀ k, gI t k = gI s k) := by
  obtain ⟨p, w1, w2, w3, w4, w5⟩ := h.own ho (-1)
  rcases w5 with ⟨z, -⟩ | ⟨z, z2, z3⟩
  · rw [z] at hg; cases hg
  · have e : p = q := Option.some.inj (z.symm.trans hg)
    subst e
    have hk : kK p = -1 := by
      rcases zBk_at (k := -1) (h.obj ho).2.2.2.2 (h.chain ho).1 with ⟨y, -⟩ | ⟨p2, y1, -, -, -, y2⟩
      · rw [y] at hg; cases hg
      · rw [hg] at y1; cases y1; exact y2
    unfold F_O_writeLength
    rw [n_of, zb_some]
    obtain ⟨t, g1, g2, g3, g4, g5, g6, g7, g8⟩ := z_wv h.ok (b := zBk (-1) (π o) (oL (gO σ o))) (by omega) w1 4 (cOf n) (c := 0) (by decide)
    have g1 : F_O_writeValue (nI (zBk (-1) (π o) (oL (gO σ o)))) 4 (cOf n) 0 s = some ((), t) := g1
    rw [g1, zb_some]
    refine ⟨t, rfl, h.setP ho (by rw [hg]; simp) (show kK (zWl n p) = -1 from hk) g2 ⟨?_, g4.trans w2.2.1, g5.trans w2.2.2.1, g6.trans w2.2.2.2.1, g7, g8⟩ ⟨Or.inl rfl, w4⟩, g2.2.1, g2.2.2.1, g2.2.2.2.1⟩
    rw [g3]
    show nL 0 = nL (β 0)
    rw [h.2.2.2.1]
end ZC8

/-! defining a property without regard to length -/
def zPl (x : zOb) (k : Int64) (d : zDs) : Int32 × zOb := match zG k (oL x) with
  | some p => if zChg d p then (2, x) else (0, zSL x (zUp k (zBec d p) (oL x)))
  | none => if oE x then (0, zSL x (zIns k (zBec d (k, 0, 0, 0, 0, 0)) (oL x))) else (2, x)
theorem zSO_id (σ : zSg) (o : Nat) : gO (zSO σ o (gO σ o)) = gO σ := by
  funext j
  show (if j = o then gO σ o else gO σ j) = gO σ j
  by_cases h : j = o
  · rw [if_pos h, h]
  · rw [if_neg h]
theorem zπ_id (π : Nat → List Nat) (o : Nat) : (fun j => if j = o then π o else π j) = π := by
  funext j
  by_cases h : j = o
  · rw [if_pos h, h]
  · rw [if_neg h]
section ZC7
variable {σ : zSg} {lv : List Nat} {β : Nat → Nat} {π : Nat → List Nat} {nb : Nat} {FL : List Nat} {mk rc rl : Nat} {s : zSt}
/-- one property of an object is written anew -/
theorem zCm.setP (h : zCm σ lv β π nb FL mk s) {o : Nat} (ho : o ∈ lv) {k : Int64} {q : zPr} {t : zSt} (hg : zG k (oL (gO σ o)) ≠ none) (hkq : kK q = k) (hu : zBu (zBk k (π o) (oL (gO σ o))) s t) (hq : zPw1 t β (zBk k (π o) (oL (gO σ o))) q) (hl : (kO q = 0 ∨ kO q ∈ lv) ∧ (kS q = 0 ∨ kS q ∈ lv)) :
    zCm (zSO σ o (zSL (gO σ o) (zUp k q (oL (gO σ o))))) lv β π nb FL mk t := by
  obtain ⟨q1, q2, q3, q4, q5⟩ := h.chain ho
  obtain ⟨w1, w2, w3, w4, w5⟩ := h.obj ho
  have hm : zBk k (π o) (oL (gO σ o)) ∈ π o := by
    rcases zBk_at (k := k) w5 q1 with ⟨z, -⟩ | ⟨p, -, -, z, -, -⟩
    · exact absurd z hg
    · exact z
  have hne : β o ≠ zBk k (π o) (oL (gO σ o)) := fun e => q4 (e ▸ hm)
  have hβ : ∀ f, f < 8 → Wd t (β o) f = Wd s (β o) f := fun f hf => hu.2.2.2.2 _ f hf (Or.inl hne)
  have key := h.updO (t := t) (bs := π o) (x := zSL (gO σ o) (zUp k q (oL (gO σ o)))) ho (fun j _ _ => hu.2.2.2.1 j) hu.1 (hu.2.1.2.2.1 0) (fun c f hf hc => hu.2.2.2.2 c f hf (Or.inl (fun e => hc (by rw [e]; exact List.mem_cons_of_mem _ hm)))) (fun c => hu.2.2.2.2 c 0 (by decide) (Or.inr (by decide))) (List.Sublist.refl _)
    ⟨(hβ 1 (by decide)).trans w1, (hβ 2 (by decide)).trans w2, by
      rw [hβ 3 (by decide), w3]
      show _ = nL (if oA (gO σ o) = true then zBk (-1) (π o) (zUp k q (oL (gO σ o))) else 0)
      rw [zBk_up hkq], (hβ 4 (by decide)).trans w4, zPA_up w5 q5 hg hu hq⟩ (h.2.2.2.2.2.2.1 o ho).1 (fun p hp => by
      rcases zUp_mem (show p ∈ zUp k q (oL (gO σ o)) from hp) with e | e
      · rw [e]; exact hl
      · exact (h.2.2.2.2.2.2.1 o ho).2 p e)
  rw [zπ_id] at key
  exact key
theorem z_chgo (h : zCm σ lv β π nb FL mk s) {o : Nat} (ho : o ∈ lv) {d : zDs} (hD : zDr d β lv s) {k : Int64} {p : zPr} (hg : zG k (oL (gO σ o)) = some p) :
    (zChg d p = true ∧ F_O_change (nI (zBk k (π o) (oL (gO σ o)))) s = some (2, s)) ∨ (zChg d p = false ∧ ∃ t, F_O_change (nI (zBk k (π o) (oL (gO σ o)))) s = some (0, t) ∧ zBu (zBk k (π o) (oL (gO σ o))) s t ∧ zPw1 t β (zBk k (π o) (oL (gO σ o))) (zBec d p) ∧ zCm (zSO σ o (zSL (gO σ o) (zUp k (zBec d p) (oL (gO σ o))))) lv β π nb FL mk t) := by
  obtain ⟨q1, q2, q3, q4, q5⟩ := h.chain ho
  obtain ⟨p9, w1, w2, w3, w4, w5⟩ := h.own ho k
  rcases w5 with ⟨z, -⟩ | ⟨z, z2, z3⟩
  · rw [z] at hg; cases hg
  · have e : p9 = p := Option.some.inj (z.symm.trans hg)
    subst e
    have hk : kK p9 = k := by
      rcases zBk_at (k := k) (h.obj ho).2.2.2.2 q1 with ⟨y, -⟩ | ⟨p2, y1, -, -, -, y2⟩
      · rw [y] at hg; cases hg
      · rw [hg] at y1; cases y1; exact y2
    rcases z_change h.ok (by omega) w1 h.2.2.2.1 h.βok h.βin w3 w4 hD w2 with ⟨y1, y2⟩ | ⟨y1, t, y2, y3, y4⟩
    · exact Or.inl ⟨y1, y2⟩
    · exact Or.inr ⟨y1, t, y2, y3, y4, h.setP ho (by rw [hg]; simp) (by rw [zBec_key]; exact hk) y3 y4 (zB_objs d _ (fun j => j = 0 ∨ j ∈ lv) (Or.inl rfl) ⟨w3, w4⟩ hD.2.2.2.2.2.2.2)⟩
theorem z_plain (h : zCm σ lv β π nb FL mk s) (hmk : mk < 1024) {o : Nat} (ho0 : o ≠ 0) (hr : zRt σ o) {d : zDs} (hD : zDr d β lv s) (hdr : zRt σ (dO d) ∧ zRt σ (dG d) ∧ zRt σ (dS d)) {k : Int64} (ha : oA (gO σ o) = true → zG (-1) (oL (gO σ o)) ≠ none) :
    ∃ t lv2 π2 nb2 FL2, F_O_definePlainly (nI (β o)) k s = some ((zPl (gO σ o) k d).1, t) ∧ zCm (zSO σ o (zPl (gO σ o) k d).2) lv2 β π2 nb2 FL2 (mk + 1) t ∧ o ∈ lv2 ∧ zSame s t ∧ nb ≤ nb2 ∧ zeC (gE t) ≤ zeC (gE s) + 16 * (nb2 - nb) ∧ zeL (gE t) ≤ zeL (gE s) + (nb2 - nb) ∧ (oA (gO σ o) = true → zBk (-1) (π2 o) (oL (zPl (gO σ o) k d).2) = zBk (-1) (π o) (oL (gO σ o))) := by
  have ho : o ∈ lv := by
    rcases hr with e | ⟨i, hi, e⟩
    · exact absurd e ho0
    · rw [← e]; exact (h.2.2.2.2.2.2.2 i hi).2.resolve_left (by rw [e]; exact ho0)
  have hmono : ∀ {σ2 : zSg} {t : zSt}, zCm σ2 lv β π nb FL mk t → zCm σ2 lv β π nb FL (mk + 1) t := fun q => ⟨⟨q.1.1, q.1.2.1, q.1.2.2.1, q.1.2.2.2.1, q.1.2.2.2.2.1, by have := q.1.2.2.2.2.2; omega⟩, q.2⟩
  have hsame : zCm (zSO σ o (gO σ o)) lv β π nb FL (mk + 1) s := hmono (h.other (t := s) rfl (fun _ _ _ => rfl) rfl rfl (zSO_id σ o) rfl)
  obtain ⟨q1, q2, q3, q4, q5⟩ := h.chain ho
  have hnb := h.ok.2
  obtain ⟨p, w1, w2, w3, w4, w5⟩ := h.own ho k
  unfold F_O_definePlainly F_O_definePlainly_42
  rw [r_fo h ho, zb_some]
  rcases w5 with ⟨z, z2, z3⟩ | ⟨z, z2, z3⟩
  · rw [z2, if_pos (show nI 0 = 0 from rfl), r_ext h.ok q3 (h.obj ho), zb_some]
    unfold zPl
    rw [z]
    show ∃ t lv2 π2 nb2 FL2, _ = some ((if oE (gO σ o) = true then (0, zSL (gO σ o) (zIns k (zBec d (k, 0, 0, 0, 0, 0)) (oL (gO σ o)))) else (2, gO σ o)).1, t) ∧ zCm (zSO σ o (if oE (gO σ o) = true then (0, zSL (gO σ o) (zIns k (zBec d (k, 0, 0, 0, 0, 0)) (oL (gO σ o)))) else (2, gO σ o)).2) lv2 β π2 nb2 FL2 (mk + 1) t ∧ o ∈ lv2 ∧ zSame s t ∧ nb ≤ nb2 ∧ zeC (gE t) ≤ zeC (gE s) + 16 * (nb2 - nb) ∧ zeL (gE t) ≤ zeL (gE s) + (nb2 - nb) ∧ (oA (gO σ o) = true → zBk (-1) (π2 o) (oL (if oE (gO σ o) = true then ((0 : Int32), zSL (gO σ o) (zIns k (zBec d (k, 0, 0, 0, 0, 0)) (oL (gO σ o)))) else (2, gO σ o)).2) = zBk (-1) (π o) (oL (gO σ o)))
    by_cases he : oE (gO σ o) = true
    · rw [if_neg (fun y => bI_eq0.mp y he), if_pos he]
      obtain ⟨t, lv2, π2, nb2, FL2, g1, g2, g3, g4, g5, g6, g7, g8⟩ := z_add h hmk ho0 hr hD hdr (k := k) (fun a => ⟨fun e => ha a (by rw [← e]; exact z), ha a⟩)
      rw [g1, zb_some]
      exact ⟨t, lv2, π2, nb2, FL2, rfl, g2, g3, g4, g5, g6, g7, g8⟩
    · rw [if_pos (bI_eq0.mpr he), if_neg he]
      exact ⟨s, lv, π, nb, FL, rfl, hsame, ho, zSame.rf s, Nat.le_refl _, by omega, by omega, fun _ => rfl⟩
  · rw [if_neg (fun y => z2 ((qI_eq0 (by omega)).mp y))]
    unfold zPl
    rw [z]
    rcases z_chgo h ho hD z with ⟨y1, y2⟩ | ⟨y1, t, y2, y3, y4, y5⟩
    · rw [y2, zb_some]
      simp only [y1, if_true]
      exact ⟨s, lv, π, nb, FL, rfl, hsame, ho, zSame.rf s, Nat.le_refl _, by omega, by omega, fun _ => by trivial⟩
    · rw [y2, zb_some]
      simp only [y1]
      have hk : kK p = k := by
        rcases zBk_at (k := k) (h.obj ho).2.2.2.2 q1 with ⟨y, -⟩ | ⟨p2, y1, -, -, -, y2⟩
        · rw [z] at y; cases y
        · rw [z] at y1; cases y1; exact y2
      refine ⟨t, lv, π, nb, FL, rfl, hmono y5, ho, y3.2.1, Nat.le_refl _, by rw [y3.2.2.1]; omega, by rw [y3.2.2.1]; omega, fun _ => ?_⟩
      show zBk (-1) (π o) (zUp k (zBec d p) (oL (gO σ o))) = _
      rw [zBk_up (by rw [zBec_key]; exact hk)]
end ZC7

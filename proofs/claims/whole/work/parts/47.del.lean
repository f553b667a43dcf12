/-! chains are linked anew; deleting -/
def zLs (d : Nat) : List Nat → Nat
  | [] => d
  | a :: r => zLs a r
theorem zLs_mem {d : Nat} : ∀ {l : List Nat}, zLs d l = d ∧ l = [] ∨ zLs d l ∈ l := by
  intro l
  induction l generalizing d with
  | nil => exact Or.inl ⟨rfl, rfl⟩
  | cons a r ih =>
    rcases ih (d := a) with ⟨h1, h2⟩ | h
    · refine Or.inr ?_
      show zLs a r ∈ a :: r
      rw [h1]; exact List.mem_cons_self
    · exact Or.inr (List.mem_cons_of_mem _ h)
theorem zLs_app (d a : Nat) : ∀ l : List Nat, zLs d (l ++ [a]) = a := by
  intro l
  induction l generalizing d with
  | nil => rfl
  | cons b r ih => exact ih b
theorem zPA_split {s : zSt} {β : Nat → Nat} : ∀ {l1 : List Nat} {p1 : List zPr} {l2 : List Nat} {p2 : List zPr}, l1.length = p1.length → zPA s β (l1 ++ l2) (p1 ++ p2) → zPA s β l2 p2 := by
  intro l1
  induction l1 with
  | nil => intro p1 l2 p2 hl h; cases p1 with
    | nil => exact h
    | cons p r => cases hl
  | cons b r ih => intro p1 l2 p2 hl h; cases p1 with
    | nil => cases hl
    | cons p q => exact ih (Nat.succ.inj hl) h.2.2
theorem zPA_app {s t : zSt} {β : Nat → Nat} : ∀ {l1 : List Nat} {p1 : List zPr} {l2 l3 : List Nat} {p2 p3 : List zPr} (d : Nat), l1.length = p1.length → zPA s β (l1 ++ l2) (p1 ++ p2) → zPA t β l3 p3 → l1.Nodup → (∀ c ∈ l1, ∀ f, f < 8 → (c ≠ zLs d l1 ∨ f ≠ 1) → Wd t c f = Wd s c f) → (l1 ≠ [] → Wd t (zLs d l1) 1 = nL (l3.headD 0)) → zPA t β (l1 ++ l3) (p1 ++ p3) := by
  intro l1
  induction l1 with
  | nil => intro p1 l2 l3 p2 p3 d hl _ h3 _ _ _; cases p1 with
    | nil => exact h3
    | cons p r => cases hl
  | cons b r ih => intro p1 l2 l3 p2 p3 d hl h h3 hnd hW hl1; cases p1 with
    | nil => cases hl
    | cons p q =>
      rw [List.nodup_cons] at hnd
      obtain ⟨g1, g2, g3⟩ := h
      have hlast : zLs d (b :: r) = zLs b r := rfl
      have hb : ∀ f, f < 8 → f ≠ 1 → Wd t b f = Wd s b f := fun f hf hf1 => hW b List.mem_cons_self f hf (Or.inr hf1)
      refine ⟨?_, ⟨(hb 2 (by decide) (by decide)).trans g2.1, (hb 3 (by decide) (by decide)).trans g2.2.1, (hb 4 (by decide) (by decide)).trans g2.2.2.1, (hb 5 (by decide) (by decide)).trans g2.2.2.2.1, (hb 6 (by decide) (by decide)).trans g2.2.2.2.2.1, (hb 7 (by decide) (by decide)).trans g2.2.2.2.2.2⟩, ih b (Nat.succ.inj hl) g3 h3 hnd.2 (fun c hc f hf hq => hW c (List.mem_cons_of_mem _ hc) f hf (by rw [hlast]; exact hq)) (fun hr => by
        have := hl1 (List.cons_ne_nil _ _)
        rw [hlast] at this
        exact this)⟩
      cases r with
      | nil => exact hl1 (List.cons_ne_nil _ _)
      | cons b2 r2 =>
        have hne : b ≠ zLs d (b :: b2 :: r2) := by
          intro e
          rw [hlast] at e
          have : zLs b (b2 :: r2) ∈ b2 :: r2 := by
            rcases zLs_mem (d := b) (l := b2 :: r2) with ⟨-, q⟩ | q
            · cases q
            · exact q
          rw [← e] at this
          exact hnd.1 this
        rw [hW b List.mem_cons_self 1 (by decide) (Or.inl hne)]
        exact g1
theorem z_link {nb : Nat} {s : zSt} (hok : zOk nb s) {ob pb x : Nat} (h1 : ob ≤ nb) (h2 : pb ≤ nb) (hx : x ≤ nb) : F_O_linkBehind (nI ob) (nI pb) (nI x) s = some ((), if pb = 0 then sW s ob 2 (nL x) else sW s pb 1 (nL x)) := by
  have hnb := hok.2
  unfold F_O_linkBehind F_O_linkBehind_29
  by_cases h : pb = 0
  · rw [if_pos (by rw [h]; rfl), if_pos h, qI_long (by omega), zsw2 hok h1, zb_some]
  · rw [if_neg (fun q => h ((qI_eq0 (by omega)).mp q)), if_neg h, qI_long (by omega), zsw1 hok h2, zb_some]
theorem zpw_ne {l : List zPr} (h : l.Pairwise (fun p q => kK p ≠ kK q)) {a b : zPr} (ha : a ∈ l) (hb : b ∈ l) (hne : a ≠ b) : kK a ≠ kK b := by
  induction l with
  | nil => cases ha
  | cons c r ih =>
    rw [List.pairwise_cons] at h
    rcases List.mem_cons.mp ha with e | e
    · rcases List.mem_cons.mp hb with e2 | e2
      · exact absurd (e.trans e2.symm) hne
      · rw [e]; exact h.1 b e2
    · rcases List.mem_cons.mp hb with e2 | e2
      · rw [e2]; exact (h.1 a e).symm
      · exact ih h.2 e e2
section ZC5
variable {σ : zSg} {lv : List Nat} {β : Nat → Nat} {π : Nat → List Nat} {nb : Nat} {FL : List Nat} {mk rc rl : Nat} {s : zSt}
/-- what lies between two parts of a chain goes -/
theorem zCm.relink (h : zCm σ lv β π nb FL mk s) {o : Nat} (ho : o ∈ lv) {l1 lm l3 : List Nat} {p1 pm p3 : List zPr} (hπ : π o = l1 ++ (lm ++ l3)) (hps : oL (gO σ o) = p1 ++ (pm ++ p3)) (e1 : l1.length = p1.length) (e2 : lm.length = pm.length) (hz : oA (gO σ o) = true → zBk (-1) (l1 ++ l3) (p1 ++ p3) = zBk (-1) (π o) (oL (gO σ o))) :
    ∃ t, F_O_linkBehind (nI (β o)) (nI (zLs 0 l1)) (nI (l3.headD 0)) s = some ((), t) ∧ zCm (zSO σ o (zSL (gO σ o) (p1 ++ p3))) lv β (fun j => if j = o then l1 ++ l3 else π j) nb FL mk t ∧ zCh (fun c f => c ∈ β o :: π o ∧ (f = 1 ∨ f = 2)) s t ∧ (∀ c ∈ π o, ∀ f, f < 8 → f ≠ 1 → Wd t c f = Wd s c f) := by
  obtain ⟨q1, q2, q3, q4, q5⟩ := h.chain ho
  obtain ⟨w1, w2, w3, w4, w5⟩ := h.obj ho
  have hnb := h.ok.2
  have hin : ∀ c ∈ π o, 1 ≤ c ∧ c ≤ nb := q1.1
  have h3in : ∀ c ∈ l3, c ∈ π o := fun c hc => by rw [hπ]; simp [hc]
  have h1in : ∀ c ∈ l1, c ∈ π o := fun c hc => by rw [hπ]; simp [hc]
  have hhd : l3.headD 0 ≤ nb := by
    cases l3 with
    | nil => exact Nat.zero_le _
    | cons c r => exact (hin c (h3in c List.mem_cons_self)).2
  have hpb : zLs 0 l1 ≤ nb := by
    rcases zLs_mem (d := 0) (l := l1) with ⟨q, -⟩ | q
    · rw [q]; exact Nat.zero_le _
    · exact (hin _ (h1in _ q)).2
  have hP : zPA s β (l1 ++ (lm ++ l3)) (p1 ++ (pm ++ p3)) := by rw [← hπ, ← hps]; exact w5
  have hP3 : zPA s β l3 p3 := zPA_split e2 (zPA_split e1 hP)
  have hnd : (l1 ++ (lm ++ l3)).Nodup := by rw [← hπ]; exact q5
  have hnd1 : l1.Nodup := (List.nodup_append.mp hnd).1
  have hsub : List.Sublist (l1 ++ l3) (π o) := by
    rw [hπ]
    exact List.Sublist.append (List.Sublist.refl _) (List.sublist_append_right _ _)
  have hap : ∀ c ∈ l1, c ∉ l3 := fun c hc hc3 => (List.nodup_append.mp hnd).2.2 c hc c (List.mem_append.mpr (Or.inr hc3)) rfl
  rw [z_link h.ok q3 hpb hhd]
  refine ⟨_, rfl, ?_⟩
  have hbo : β o ≠ 0 := by omega
  by_cases hl : zLs 0 l1 = 0
  · have hl1 : l1 = [] := by
      rcases zLs_mem (d := 0) (l := l1) with ⟨-, q⟩ | q
      · exact q
      · have := hin _ (h1in _ q); omega
    rw [if_pos hl]
    have hWd : ∀ c f, f < 8 → Wd (sW s (β o) 2 (nL (l3.headD 0))) c f = if c = β o ∧ f = 2 then nL (l3.headD 0) else Wd s c f := fun c f hf => Wd_sW hbo (by decide) hf
    have hcπ : ∀ c ∈ π o, c ≠ β o := fun c hc e => q4 (e ▸ hc)
    refine ⟨h.updO ho (fun k _ _ => sW_I _ _ _ _ _) (sW_N _ _ _ _) (sW_A _ _ _ _ _) (fun c f hf hc => by rw [hWd c f hf, if_neg (show ¬ (c = β o ∧ f = 2) from fun q => hc (by rw [q.1]; exact List.mem_cons_self))]) (fun c => by rw [hWd c 0 (by decide), if_neg (by omega)]) hsub ⟨?_, ?_, ?_, ?_, ?_⟩ (h.2.2.2.2.2.2.1 o ho).1 (fun p hp => (h.2.2.2.2.2.2.1 o ho).2 p (by
      rw [hps]
      rcases List.mem_append.mp hp with q | q
      · simp [q]
      · simp [q])), zCh.sW s _ hbo (by decide) ⟨List.mem_cons_self, Or.inr rfl⟩, fun c hc f hf hf1 => by rw [hWd c f hf, if_neg (show ¬ (c = β o ∧ f = 2) from fun q => hcπ c hc q.1)]⟩
    · rw [hWd _ 1 (by decide), if_neg (by omega)]; exact w1
    · rw [hWd _ 2 (by decide), if_pos ⟨rfl, rfl⟩, hl1]; rfl
    · rw [hWd _ 3 (by decide), if_neg (by omega), w3]
      show _ = nL (if oA (gO σ o) = true then zBk (-1) (l1 ++ l3) (p1 ++ p3) else 0)
      by_cases ha : oA (gO σ o) = true
      · rw [if_pos ha, if_pos ha, hz ha]
      · rw [if_neg ha, if_neg ha]
    · rw [hWd _ 4 (by decide), if_neg (by omega)]; exact w4
    · have hp1 : p1 = [] := List.length_eq_zero_iff.mp (by rw [← e1, hl1]; rfl)
      rw [hl1]
      show zPA _ β l3 (p1 ++ p3)
      rw [hp1]
      exact zPA_kept (s := s) (fun c hc f hf => by rw [hWd c f hf, if_neg (show ¬ (c = β o ∧ f = 2) from fun q => hcπ c (h3in c hc) q.1)]) (fun _ _ => ⟨rfl, rfl⟩) hP3
  · rw [if_neg hl]
    have hlm : zLs 0 l1 ∈ l1 := by
      rcases zLs_mem (d := 0) (l := l1) with ⟨q, -⟩ | q
      · exact absurd q hl
      · exact q
    have hWd : ∀ c f, f < 8 → Wd (sW s (zLs 0 l1) 1 (nL (l3.headD 0))) c f = if c = zLs 0 l1 ∧ f = 1 then nL (l3.headD 0) else Wd s c f := fun c f hf => Wd_sW hl (by decide) hf
    have hβl : β o ≠ zLs 0 l1 := fun e => q4 (by rw [e]; exact h1in _ hlm)
    refine ⟨h.updO ho (fun k _ _ => sW_I _ _ _ _ _) (sW_N _ _ _ _) (sW_A _ _ _ _ _) (fun c f hf hc => by rw [hWd c f hf, if_neg (show ¬ (c = zLs 0 l1 ∧ f = 1) from fun q => hc (by rw [q.1]; exact List.mem_cons_of_mem _ (h1in _ hlm)))]) (fun c => by rw [hWd c 0 (by decide), if_neg (by omega)]) hsub ⟨?_, ?_, ?_, ?_, ?_⟩ (h.2.2.2.2.2.2.1 o ho).1 (fun p hp => (h.2.2.2.2.2.2.1 o ho).2 p (by
      rw [hps]
      rcases List.mem_append.mp hp with q | q
      · simp [q]
      · simp [q])), zCh.sW s _ hl (by decide) ⟨List.mem_cons_of_mem _ (h1in _ hlm), Or.inl rfl⟩, fun c hc f hf hf1 => by rw [hWd c f hf, if_neg (show ¬ (c = zLs 0 l1 ∧ f = 1) from fun q => hf1 q.2)]⟩
    · rw [hWd _ 1 (by decide), if_neg (by omega)]; exact w1
    · rw [hWd _ 2 (by decide), if_neg (by omega), w2, hπ]
      cases l1 with
      | nil => exact absurd rfl hl
      | cons a r => rfl
    · rw [hWd _ 3 (by decide), if_neg (by omega), w3]
      show _ = nL (if oA (gO σ o) = true then zBk (-1) (l1 ++ l3) (p1 ++ p3) else 0)
      by_cases ha : oA (gO σ o) = true
      · rw [if_pos ha, if_pos ha, hz ha]
      · rw [if_neg ha, if_neg ha]
    · rw [hWd _ 4 (by decide), if_neg (by omega)]; exact w4
    · exact zPA_app 0 e1 hP (zPA_kept (s := s) (fun c hc f hf => by rw [hWd c f hf, if_neg (show ¬ (c = zLs 0 l1 ∧ f = 1) from fun q => hap _ hlm (q.1 ▸ hc))]) (fun _ _ => ⟨rfl, rfl⟩) hP3) hnd1 (fun c hc f hf hq => by rw [hWd c f hf, if_neg (by omega)]) (fun _ => by rw [hWd _ 1 (by decide), if_pos ⟨rfl, rfl⟩])
/-- the search before a deletion -/
theorem r_rem {s : zSt} (hok : zOk nb s) (k : Int64) (ob : Int32) : ∀ (bs : List Nat) (ps : List zPr) (n j pb : Nat), zPA s β bs ps → zIn nb bs → j + bs.length < 1024 → bs.length < n →
    (zG k ps = none ∧ ∃ x, F_O_remove_13 n ob k (nI pb) (nI (bs.headD 0)) (nI j) s = F_O_remove_58 ob (nI x) (nI 0) s) ∨ ∃ l1 b l3 p1 p p3, bs = l1 ++ b :: l3 ∧ ps = p1 ++ p :: p3 ∧ l1.length = p1.length ∧ kK p = k ∧ zG k ps = some p ∧ zPw1 s β b p ∧ Wd s b 1 = nL (l3.headD 0) ∧ F_O_remove_13 n ob k (nI pb) (nI (bs.headD 0)) (nI j) s = F_O_remove_58 ob (nI (zLs pb l1)) (nI b) s := by
  have hnb := hok.2
  intro bs
  induction bs with
  | nil =>
    intro ps n j pb hP hI hj hn
    obtain ⟨m, rfl⟩ : ∃ m, n = m + 1 := ⟨n - 1, by omega⟩
    cases ps with
    | cons p ps => exact hP.elim
    | nil =>
      refine Or.inl ⟨rfl, pb, ?_⟩
      rw [F_O_remove_13]
      have hz : nI (([] : List Nat).headD 0) = 0 := rfl
      rw [hz, if_pos rfl]
      split <;> rfl
  | cons b bs ih =>
    intro ps n j pb hP hI hj hn
    rw [List.length_cons] at hj hn
    obtain ⟨m, rfl⟩ : ∃ m, n = m + 1 := ⟨n - 1, by omega⟩
    cases ps with
    | nil => exact hP.elim
    | cons p ps =>
      obtain ⟨h1, h2, h3⟩ := hP
      have hb := hI.1 b List.mem_cons_self
      have hge : ¬ ((1024 : Int32) ≤ nI j) := fun q => by
        have := (qI_le (a := 1024) (b := j) (by decide) (by omega)).mp q
        omega
      have hne : ¬ (nI ((b :: bs).headD 0) = 0) := fun q => by
        have := (qI_eq0 (a := b) (by omega)).mp q
        omega
      rw [F_O_remove_13, if_neg hge, if_neg hne]
      have e0 : nI ((b :: bs).headD 0) = nI b := rfl
      rw [e0, r_key hok hb.2 h2, zb_some]
      by_cases hk : kK p = k
      · rw [if_pos ((lg_cmp_eq _ _).mpr hk)]
        exact Or.inr ⟨[], b, bs, [], p, ps, rfl, rfl, rfl, hk, if_pos hk, h2, h1, rfl⟩
      · rw [if_neg (fun q => hk ((lg_cmp_eq _ _).mp q)), r_next hok hb.2 h1, zb_some]
        have e1 : nI j + 1 = nI (j + 1) := (nI_succ j).symm
        have e2 : zG k (p :: ps) = zG k ps := if_neg hk
        rw [e1, e2]
        rcases ih ps m (j + 1) b h3 hI.tl (by omega) (by omega) with q | ⟨l1, c, l3, p1, pp, p3, g1, g2, g3, g4, g5, g6, g7, g8⟩
        · exact Or.inl q
        · exact Or.inr ⟨b :: l1, c, l3, p :: p1, pp, p3, by rw [g1]; rfl, by rw [g2]; rfl, by rw [List.length_cons, List.length_cons, g3], g4, g5, g6, g7, g8⟩
/-- without the property of a key -/
def zRm (k : Int64) : List zPr → List zPr
  | [] => []
  | p :: r => if kK p = k then r else p :: zRm k r
theorem zBk_app {k : Int64} : ∀ {l1 l2 : List Nat} {p1 p2 : List zPr}, l1.length = p1.length → zBk k (l1 ++ l2) (p1 ++ p2) = if zG k p1 = none then zBk k l2 p2 else zBk k l1 p1 := by
  intro l1
  induction l1 with
  | nil => intro l2 p1 p2 hl; cases p1 with
    | nil => rfl
    | cons p r => cases hl
  | cons b r ih => intro l2 p1 p2 hl; cases p1 with
    | nil => cases hl
    | cons p q =>
      show (if kK p = k then b else zBk k (r ++ l2) (q ++ p2)) = if (if kK p = k then some p else zG k q) = none then zBk k l2 p2 else (if kK p = k then b else zBk k r q)
      by_cases hk : kK p = k
      · rw [if_pos hk, if_pos hk, if_neg (by simp), if_pos hk]
      · rw [if_neg hk, if_neg hk, if_neg hk, ih (Nat.succ.inj hl)]
theorem zG_none {k : Int64} {ps : List zPr} (h : zG k ps = none) : ∀ p ∈ ps, kK p ≠ k := by
  induction ps with
  | nil => intro p hp; cases hp
  | cons a r ih =>
    have h : (if kK a = k then some a else zG k r) = none := h
    by_cases hk : kK a = k
    · rw [if_pos hk] at h; cases h
    · rw [if_neg hk] at h
      intro p hp
      rcases List.mem_cons.mp hp with e | e
      · rw [e]; exact hk
      · exact ih h p e
theorem zRm_split {k : Int64} : ∀ {p1 : List zPr} {p : zPr} {p3 : List zPr}, kK p = k → (p1 ++ p :: p3).Pairwise (fun a b => kK a ≠ kK b) → zRm k (p1 ++ p :: p3) = p1 ++ p3 := by
  intro p1
  induction p1 with
  | nil => intro p p3 hk _; exact if_pos hk
  | cons a r ih =>
    intro p p3 hk hp
    rw [List.cons_append, List.pairwise_cons] at hp
    have hne : kK a ≠ k := by rw [← hk]; exact hp.1 p (by simp)
    show (if kK a = k then r ++ p :: p3 else a :: zRm k (r ++ p :: p3)) = _
    rw [if_neg hne, ih hk hp.2]
    rfl
def S_delete (σ : zSg) (r : Int32) (k : Int64) : (Int32 ⊕ Nat) × zSg := if zH σ r ≠ 0 ∧ zKy k then (match zG k (oL (gO σ (zH σ r))) with | none => (.inl 1, σ) | some p => if kF p &&& 32 = 0 then (.inl 0, σ) else (.inl 1, zSO σ (zH σ r) (zSL (gO σ (zH σ r)) (zRm k (oL (gO σ (zH σ r))))))) else (.inr 0, σ)
theorem zBf_ne {l : List zPr} (h : l.Pairwise (fun p q => zBf (kK p) (kK q))) : l.Pairwise (fun p q => kK p ≠ kK q) := h.imp (fun q => q.2.2)
theorem X_delete (h : zXs σ mk rc rl s) (hW : zWf σ) (r : Int32) (k : Int64) : zXo (F_X_delete r k s) (S_delete σ r k) mk rc rl s := by
  obtain ⟨lv, β, π, nb, FL, h1, h2, h3⟩ := id h
  have hnb := h1.1.ok.2
  unfold F_X_delete S_delete
  rw [x_hwk h1.1]
  by_cases hc : zH σ r ≠ 0 ∧ zKy k
  · rw [if_pos hc, zt_inl, if_pos hc]
    have ho := (h1.1.root r).resolve_left hc.1
    obtain ⟨q1, q2, q3, q4, q5⟩ := h1.1.chain ho
    have hP := (h1.1.obj ho).2.2.2.2
    unfold F_O_remove
    rw [r_first h1.1.ok q3 (h1.1.obj ho), zb_some]
    rcases r_rem h1.1.ok k (nI (β (zH σ r))) (π (zH σ r)) _ zFuel 0 0 hP q1 (by have := q1.2; omega) (by have := q1.2; rw [zFuel_eq]; omega) with ⟨g0, x, g1⟩ | ⟨l1, b, l3, p1, p, p3, g1, g2, g3, g4, g5, g6, g7, g8⟩
    · rw [show (0 : Int32) = nI 0 from rfl, g1, g0]
      unfold F_O_remove_58 F_O_remove_94
      rw [r_any h1.1.ok (Nat.zero_le _) (zPw1_zero h1.1.2.2.2.1), zb_some]
      rw [if_pos (bI_eq0.mpr (fun q => q rfl)), if_pos (show nI 0 = 0 from rfl), if_pos z_nar1, zb_some, if_pos z_nar1]
      exact zXo.ok (s2 := s) rfl h2 h3 h1 rfl (zKM.rf s)
    · rw [show (0 : Int32) = nI 0 from rfl, g8, g5]
      have hb := q1.1 b (by rw [g1]; simp)
      unfold F_O_remove_58 F_O_remove_94
      rw [r_any h1.1.ok hb.2 g6, zb_some]
      show zXo _ (if kF p &&& 32 = 0 then _ else _) mk rc rl s
      by_cases hf : kF p &&& 32 = 0
      · rw [if_pos (bI_eq0.mpr (fun q => q hf)), if_neg (fun q => by have := (qI_eq0 (a := b) (by omega)).mp q; omega), if_pos z_nar0, zb_some, if_pos z_nar0, if_pos hf]
        exact zXo.ok (s2 := s) rfl h2 h3 h1 rfl (zKM.rf s)
      · rw [if_neg (fun q => bI_eq0.mp q hf), r_next h1.1.ok hb.2 g7, zb_some, if_neg hf]
        have hlt := hW.root r
        have hwo := hW.2.2.2.1 _ (by omega) hlt
        have hpd := zBf_ne hwo.2.2.1
        have hz : oA (gO σ (zH σ r)) = true → zBk (-1) (l1 ++ l3) (p1 ++ p3) = zBk (-1) (π (zH σ r)) (oL (gO σ (zH σ r))) := by
          intro ha
          obtain ⟨pl, hl1, hl2, hl3, -⟩ := hwo.2.2.2 ha
          have hkn : k ≠ -1 := by
            intro e
            have : pl = p := by
              have hm : p ∈ oL (gO σ (zH σ r)) := by rw [g2]; simp
              by_cases hpp : pl = p
              · exact hpp
              · exfalso
                exact zpw_ne hpd hl1 hm hpp (by rw [hl2, g4, e])
            rw [← this] at hf
            rcases hl3 with q | q <;> rw [q] at hf <;> exact hf (by decide)
          rw [g1, g2, zBk_app g3, zBk_app g3]
          split
          · show _ = (if kK p = -1 then b else zBk (-1) l3 p3)
            rw [g4, if_neg hkn]
          · rfl
        obtain ⟨t, w1, w2, w3, w4⟩ := h1.1.relink ho (lm := [b]) (pm := [p]) (l1 := l1) (l3 := l3) (p1 := p1) (p3 := p3) g1 g2 g3 rfl hz
        rw [w1, zb_some, zb_some, if_pos z_nar1]
        have hrm : zRm k (oL (gO σ (zH σ r))) = p1 ++ p3 := by
          rw [g2] at hpd ⊢
          exact zRm_split g4 hpd
        rw [hrm]
        refine zXo.ok (s2 := t) w3.2.2.1 h2 h3 ⟨w2, ?_⟩ rfl (zKM.of w3.2.1)
        exact ⟨by rw [w3.2.2.2.1]; exact h1.2.1, by rw [w3.2.1.2.1]; exact h1.2.2.1, by rw [w3.2.2.2.1]; exact h1.2.2.2.1, by rw [w3.2.1.2.1]; exact h1.2.2.2.2⟩
  · rw [if_neg hc, zt_inr, if_neg hc]
    exact zXo.thr h rfl
end ZC5

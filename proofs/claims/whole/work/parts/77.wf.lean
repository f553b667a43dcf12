/-! what holds of all that a store may hold stays so -/
theorem zG_some {k : Int64} : ∀ {ps : List zPr} {p : zPr}, zG k ps = some p → p ∈ ps ∧ kK p = k := by
  intro ps
  induction ps with
  | nil => intro p h; cases h
  | cons a r ih =>
    intro p h
    have h : (if kK a = k then some a else zG k r) = some p := h
    by_cases e : kK a = k
    · rw [if_pos e] at h
      rw [← Option.some.inj h]
      exact ⟨List.mem_cons_self, e⟩
    · rw [if_neg e] at h
      exact ⟨List.mem_cons_of_mem _ (ih h).1, (ih h).2⟩
def zWx (n o : Nat) (x : zOb) : Prop := oP x < o ∧ (∀ p ∈ oL x, zWp p ∧ kO p < n ∧ kS p < n) ∧ (oL x).Pairwise (fun p q => zBf (kK p) (kK q)) ∧ (oA x = true → ∃ p ∈ oL x, kK p = -1 ∧ (kF p = 0 ∨ kF p = 2) ∧ kD p = 4)
theorem zWf.at {σ : zSg} (h : zWf σ) {o : Nat} (h1 : 1 ≤ o) (h2 : o < gn σ) : zWx (gn σ) o (gO σ o) := h.2.2.2.1 o h1 h2
theorem zWf.so {σ : zSg} (h : zWf σ) {o : Nat} {x : zOb} (hx : zWx (gn σ) o x) : zWf (zSO σ o x) := by
  obtain ⟨w1, w2, w3, w4, w5, w6, w7⟩ := h
  refine ⟨w1, w2, w3, fun j j1 j2 => ?_, w5, w6, w7⟩
  show zWx (gn σ) j (if j = o then x else gO σ j)
  by_cases e : j = o
  · rw [if_pos e, e]; exact hx
  · rw [if_neg e]; exact w4 j j1 j2
theorem zWf.rt {σ : zSg} (h : zWf σ) {i o : Nat} (hi : i < 24) (ho : o < gn σ) : zWf (zR σ i o) := by
  obtain ⟨w1, w2, w3, w4, w5, w6, w7⟩ := h
  refine ⟨w1, w2, fun j hj => ?_, w4, ?_, ?_, ?_⟩
  · show (if j = i then o else gR σ j) < gn σ
    split
    · exact ho
    · exact w3 j hj
  · show zWv (gPK σ) (gPN σ) (if 24 = i then o else gR σ 24)
    rw [if_neg (by omega)]; exact w5
  · show zWv (gRK σ) (gRN σ) (if 25 = i then o else gR σ 25)
    rw [if_neg (by omega)]; exact w6
  · show (if 26 = i then o else gR σ 26) = 0
    rw [if_neg (by omega)]; exact w7
theorem zWf.op {σ : zSg} (h : zWf σ) {k : Int32} {n : Int64} {o : Nat} (hv : zWv k n o) (ho : o < gn σ) : zWf (zOp σ k n o) := by
  obtain ⟨w1, w2, w3, w4, w5, w6, w7⟩ := h
  refine ⟨w1, w2, fun j hj => ?_, w4, hv, w6, w7⟩
  show (if j = 24 then o else gR σ j) < gn σ
  split
  · exact ho
  · exact w3 j hj
theorem zWp.v {p : zPr} (h : zWp p) : zWv (kD p) (kN p) (kO p) := by
  rcases h.2 with q | q
  · exact q.2.2
  · obtain ⟨-, e1, e2⟩ := q
    rw [e1, e2]
    by_cases h0 : kO p = 0
    · rw [if_pos h0, h0]; exact zWv0
    · rw [if_neg h0]; exact ⟨by decide, fun _ => rfl, fun q => absurd rfl q, fun _ => h0⟩
theorem zLu_wf {σ : zSg} (h : zWf σ) (k : Int64) : ∀ (n o : Nat) (p : zPr), o < gn σ → zLu σ k n o = some p → zWp p ∧ kO p < gn σ ∧ kS p < gn σ := by
  intro n
  induction n with
  | zero => intro o p _ e; cases e
  | succ n ih =>
    intro o p ho e
    rw [zLu] at e
    by_cases h0 : o = 0
    · rw [if_pos h0] at e; cases e
    · rw [if_neg h0] at e
      have hx := h.at (o := o) (by omega) ho
      cases hg : zG k (oL (gO σ o)) with
      | some q =>
        rw [hg] at e
        have e2 := Option.some.inj e
        rw [← e2]
        exact hx.2.1 q (zG_some hg).1
      | none =>
        rw [hg] at e
        exact ih _ p (by have := hx.1; omega) e
theorem zp0_wv : zWv (kD zp0) (kN zp0) (kO zp0) := zWv0
/-! flags -/
theorem i_50 (x : Int32) : x &&& 50 ∈ zFd := by
  rw [← i_and50]
  rcases i_b2 x with a | a <;> rcases i_b16 x with b | b <;> rcases i_b32 x with c | c <;> rw [a, b, c] <;> decide
theorem i_fd : ∀ f ∈ zFd, ∀ m ∈ zFd, ∀ e ∈ zFd, (f &&& (m ^^^ -1)) ||| e ∈ zFd := by decide
theorem i_fa : ∀ f ∈ zFa, ∀ m ∈ zFd, ∀ e ∈ zFd, m &&& 2 = 0 → e &&& m = e → (f &&& (m ^^^ -1)) ||| e ∈ zFa := by decide
theorem i_td : ∀ f ∈ zFd, (f &&& 48) ||| 64 ∈ zFa := by decide
theorem i_ta : ∀ f ∈ zFa, f &&& 48 ∈ zFd := by decide
section ZWB
variable {d : zDs} {told on k : Int32} {b : Int64} {g q : Int32} {n : Nat} {p : zPr}
/-- the description's part -/
theorem zWp.bec1 (hd : zDm d told on k b g q) (hn : dO d < n ∧ dG d < n ∧ dS d < n) (h : zWp p ∧ kO p < n ∧ kS p < n) (hc : if kF p &&& 64 = 0 then told &&& 12 = 0 else told &&& 3 = 0) : zWp (zB5 d (zB4 d (zB3 d (zB2 d p)))) ∧ kO (zB5 d (zB4 d (zB3 d (zB2 d p)))) < n ∧ kS (zB5 d (zB4 d (zB3 d (zB2 d p)))) < n := by
  obtain ⟨d1, d2, d3, d4, d5, d6, d7, d8, d9, d10, d11⟩ := hd
  obtain ⟨hp, hO, hS⟩ := h
  subst d1
  have hf50 : dF d ∈ zFd := by rw [d2]; exact i_50 _
  have hm50 : dT d &&& 50 ∈ zFd := i_50 _
  by_cases h64 : kF p &&& 64 = 0
  · rw [if_pos h64] at hc
    have hfd : kF p ∈ zFd := by
      rcases hp.2 with w | w
      · exact w.1
      · exact absurd h64 (zFa_acc _ w.1)
    have e4 : ∀ p, zB4 d p = p := fun p => if_pos (i_sub (by decide) hc)
    have e5 : ∀ p, zB5 d p = p := fun p => if_pos (i_sub (by decide) hc)
    rw [e5, e4]
    obtain ⟨v1, v2⟩ := hp.data h64
    unfold zB3 zB2
    by_cases h1 : dT d &&& 1 = 0
    · rw [if_pos h1]
      exact ⟨⟨hp.1, Or.inl ⟨i_fd _ hfd _ hm50 _ hf50, v1, v2⟩⟩, hO, hS⟩
    · rw [if_neg h1]
      exact ⟨⟨hp.1, Or.inl ⟨i_fd _ hfd _ hm50 _ hf50, v1, d10⟩⟩, hn.1, hS⟩
  · rw [if_neg h64] at hc
    have hfa : kF p ∈ zFa := by
      rcases hp.2 with w | w
      · exact absurd (zFd_no _ w.1) h64
      · exact w.1
    have e3 : ∀ p, zB3 d p = p := fun p => if_pos (i_sub (by decide) hc)
    rw [e3]
    obtain ⟨v1, v2⟩ := hp.acc h64
    have hm2 : (dT d &&& 50) &&& 2 = 0 := by
      rw [Int32.and_assoc, show (50 : Int32) &&& 2 = 2 from rfl]; exact i_sub (by decide) hc
    have hem : dF d &&& (dT d &&& 50) = dF d := by
      rw [d2, Int32.and_assoc on, Int32.and_assoc on, Int32.and_self]
    have hF := i_fa _ hfa _ hm50 _ hf50 hm2 hem
    unfold zB5 zB4 zB2
    by_cases h4 : dT d &&& 4 = 0
    · rw [if_pos h4]
      by_cases h8 : dT d &&& 8 = 0
      · rw [if_pos h8]; exact ⟨⟨hp.1, Or.inr ⟨hF, v1, v2⟩⟩, hO, hS⟩
      · rw [if_neg h8]; exact ⟨⟨hp.1, Or.inr ⟨hF, v1, v2⟩⟩, hO, hn.2.2⟩
    · rw [if_neg h4]
      by_cases h8 : dT d &&& 8 = 0
      · rw [if_pos h8]; exact ⟨⟨hp.1, Or.inr ⟨hF, rfl, rfl⟩⟩, hn.2.1, hS⟩
      · rw [if_neg h8]; exact ⟨⟨hp.1, Or.inr ⟨hF, rfl, rfl⟩⟩, hn.2.1, hn.2.2⟩
theorem zWp.bec (hd : zDm d told on k b g q) (hn : dO d < n ∧ dG d < n ∧ dS d < n) (h : zWp p ∧ kO p < n ∧ kS p < n) : zWp (zBec d p) ∧ kO (zBec d p) < n ∧ kS (zBec d p) < n := by
  have hd' := hd
  obtain ⟨d1, d2, d3, d4, d5, d6, d7, d8, d9, d10, d11⟩ := hd
  obtain ⟨hp, hO, hS⟩ := h
  subst d1
  have h0n : 0 < n := by omega
  unfold zBec zB1
  by_cases h64 : kF p &&& 64 = 0
  · rw [if_pos h64]
    have hfd : kF p ∈ zFd := by
      rcases hp.2 with w | w
      · exact w.1
      · exact absurd h64 (zFa_acc _ w.1)
    by_cases h12 : dT d &&& 12 = 0
    · rw [if_pos h12]
      exact zWp.bec1 hd' hn ⟨hp, hO, hS⟩ (by rw [if_pos h64]; exact h12)
    · rw [if_neg h12]
      have h3 : dT d &&& 3 = 0 := d11.2.resolve_right h12
      unfold zTurn
      rw [if_pos h64]
      refine zWp.bec1 hd' hn ⟨⟨hp.1, Or.inr ⟨i_td _ hfd, rfl, rfl⟩⟩, h0n, h0n⟩ ?_
      show if (kF p &&& 48 ||| 64) &&& 64 = 0 then _ else _
      rw [if_neg (zFa_acc _ (i_td _ hfd))]; exact h3
  · rw [if_neg h64]
    have hfa : kF p ∈ zFa := by
      rcases hp.2 with w | w
      · exact absurd (zFd_no _ w.1) h64
      · exact w.1
    by_cases h3 : dT d &&& 3 = 0
    · rw [if_pos h3]
      exact zWp.bec1 hd' hn ⟨hp, hO, hS⟩ (by rw [if_neg h64]; exact h3)
    · rw [if_neg h3]
      have h12 : dT d &&& 12 = 0 := d11.2.resolve_left h3
      unfold zTurn
      rw [if_neg h64]
      refine zWp.bec1 hd' hn ⟨⟨hp.1, Or.inl ⟨i_ta _ hfa, rfl, zWv0⟩⟩, h0n, h0n⟩ ?_
      show if (kF p &&& 48) &&& 64 = 0 then _ else _
      rw [if_pos (zFd_no _ (i_ta _ hfa))]; exact h12
end ZWB
/-! lists -/
theorem zUp_mem2 {k : Int64} {q : zPr} : ∀ {ps : List zPr} {p : zPr}, p ∈ zUp k q ps → p = q ∨ p ∈ ps := by
  intro ps
  induction ps with
  | nil => intro p hp; cases hp
  | cons c r ih =>
    intro p hp
    have hp : p ∈ (if kK c = k then q :: r else c :: zUp k q r) := hp
    by_cases hk : kK c = k
    · rw [if_pos hk] at hp
      exact (List.mem_cons.mp hp).imp id (List.mem_cons_of_mem _)
    · rw [if_neg hk] at hp
      rcases List.mem_cons.mp hp with e | e
      · exact Or.inr (by rw [e]; exact List.mem_cons_self)
      · exact (ih e).imp id (List.mem_cons_of_mem _)
theorem zUp_in {k : Int64} {q : zPr} : ∀ {ps : List zPr} {p : zPr}, p ∈ ps → kK p ≠ k → p ∈ zUp k q ps := by
  intro ps
  induction ps with
  | nil => intro p hp; cases hp
  | cons c r ih =>
    intro p hp hk
    show p ∈ (if kK c = k then q :: r else c :: zUp k q r)
    by_cases hc : kK c = k
    · rw [if_pos hc]
      rcases List.mem_cons.mp hp with e | e
      · exact absurd (e ▸ hc) hk
      · exact List.mem_cons_of_mem _ e
    · rw [if_neg hc]
      rcases List.mem_cons.mp hp with e | e
      · rw [e]; exact List.mem_cons_self
      · exact List.mem_cons_of_mem _ (ih e hk)
theorem zUp_has {k : Int64} {q : zPr} : ∀ {ps : List zPr}, zG k ps ≠ none → q ∈ zUp k q ps := by
  intro ps
  induction ps with
  | nil => intro h; exact absurd rfl h
  | cons c r ih =>
    intro h
    have h : (if kK c = k then some c else zG k r) ≠ none := h
    show q ∈ (if kK c = k then q :: r else c :: zUp k q r)
    by_cases hc : kK c = k
    · rw [if_pos hc]; exact List.mem_cons_self
    · rw [if_neg hc] at h ⊢
      exact List.mem_cons_of_mem _ (ih h)
theorem zUp_keys {k : Int64} {q : zPr} (hq : kK q = k) : ∀ ps : List zPr, (zUp k q ps).map kK = ps.map kK := by
  intro ps
  induction ps with
  | nil => rfl
  | cons p r ih =>
    show (if kK p = k then q :: r else p :: zUp k q r).map kK = kK p :: r.map kK
    by_cases hk : kK p = k
    · rw [if_pos hk, List.map_cons, hq, hk]
    · rw [if_neg hk, List.map_cons, ih]
theorem zUp_pw {k : Int64} {q : zPr} (hq : kK q = k) {ps : List zPr} (h : ps.Pairwise (fun p q => zBf (kK p) (kK q))) : (zUp k q ps).Pairwise (fun p q => zBf (kK p) (kK q)) := by
  have : (ps.map kK).Pairwise zBf := List.pairwise_map.mpr h
  rw [← zUp_keys hq] at this
  exact List.pairwise_map.mp this
theorem zIns_mem {k : Int64} {q : zPr} : ∀ {ps : List zPr} {p : zPr}, p ∈ zIns k q ps ↔ p = q ∨ p ∈ ps := by
  intro ps
  induction ps with
  | nil => intro p; show p ∈ [q] ↔ _; simp
  | cons c r ih =>
    intro p
    show p ∈ (if zAh (kK c) k then c :: zIns k q r else q :: c :: r) ↔ _
    by_cases hc : zAh (kK c) k
    · rw [if_pos hc, List.mem_cons, ih, List.mem_cons]
      exact ⟨fun z => z.elim (fun w => Or.inr (Or.inl w)) (fun w => w.elim Or.inl (fun v => Or.inr (Or.inr v))), fun z => z.elim (fun w => Or.inr (Or.inl w)) (fun w => w.elim Or.inl (fun v => Or.inr (Or.inr v)))⟩
    · rw [if_neg hc, List.mem_cons]
theorem zIns_pw {k : Int64} {q : zPr} (hq : kK q = k) : ∀ {ps : List zPr}, zG k ps = none → ps.Pairwise (fun p q => zBf (kK p) (kK q)) → (zIns k q ps).Pairwise (fun p q => zBf (kK p) (kK q)) := by
  intro ps
  induction ps with
  | nil => intro _ _; show [q].Pairwise _; simp
  | cons c r ih =>
    intro hg h
    have hne : kK c ≠ k := zG_none hg c List.mem_cons_self
    have hg' : zG k r = none := by
      have : (if kK c = k then some c else zG k r) = none := hg
      rw [if_neg hne] at this
      exact this
    have h' := List.pairwise_cons.mp h
    show (if zAh (kK c) k then c :: zIns k q r else q :: c :: r).Pairwise _
    by_cases hc : zAh (kK c) k
    · rw [if_pos hc, List.pairwise_cons]
      refine ⟨fun p hp => ?_, ih hg' h'.2⟩
      rcases zIns_mem.mp hp with e | e
      · rw [e, hq]
        rcases hc with w | w
        · exact ⟨fun _ z => absurd w (Int64.not_lt.mpr z), fun z => absurd w (Int64.not_lt.mpr z), hne⟩
        · exact ⟨fun _ _ => w.2, fun _ => w.1, hne⟩
      · exact h'.1 p e
    · rw [if_neg hc, List.pairwise_cons]
      refine ⟨fun p hp => ?_, h⟩
      have hk0 : 0 ≤ k := Int64.not_lt.mp (fun w => hc (Or.inl w))
      have hck : 0 ≤ kK c → k < kK c := fun w => by
        have : ¬ kK c < k := fun v => hc (Or.inr ⟨w, v⟩)
        rcases Int64.lt_or_eq_of_le (Int64.not_lt.mp this) with v | v
        · exact v
        · exact absurd v.symm hne
      rw [hq]
      rcases List.mem_cons.mp hp with e | e
      · rw [e]
        exact ⟨fun _ w => hck w, fun _ => hk0, fun w => hne w.symm⟩
      · have hb := h'.1 p e
        refine ⟨fun _ w => ?_, fun _ => hk0, fun w => zG_none hg p (List.mem_cons_of_mem _ e) w.symm⟩
        have hc0 := hb.2.1 w
        exact Int64.lt_trans (hck hc0) (hb.1 hc0 w)
theorem zRm_sub {k : Int64} : ∀ ps : List zPr, (zRm k ps).Sublist ps := by
  intro ps
  induction ps with
  | nil => exact List.Sublist.refl _
  | cons c r ih =>
    show (if kK c = k then r else c :: zRm k r).Sublist (c :: r)
    split
    · exact List.sublist_cons_self c r
    · exact ih.cons_cons c
theorem zRm_in {k : Int64} : ∀ {ps : List zPr} {p : zPr}, p ∈ ps → kK p ≠ k → p ∈ zRm k ps := by
  intro ps
  induction ps with
  | nil => intro p hp; cases hp
  | cons c r ih =>
    intro p hp hk
    show p ∈ (if kK c = k then r else c :: zRm k r)
    by_cases hc : kK c = k
    · rw [if_pos hc]
      rcases List.mem_cons.mp hp with e | e
      · exact absurd (e ▸ hc) hk
      · exact e
    · rw [if_neg hc]
      rcases List.mem_cons.mp hp with e | e
      · rw [e]; exact List.mem_cons_self
      · exact List.mem_cons_of_mem _ (ih e hk)
theorem zCt_sub (asked : Int64) : ∀ (l : List zPr) (left : Int64) (kept pend : List zPr), (zCt asked left kept pend l).2.Sublist (kept ++ (pend ++ l)) := by
  intro l
  induction l with
  | nil => intro left kept pend; exact List.sublist_append_left kept _
  | cons c r ih =>
    intro left kept pend
    show (if kK c < 0 then (left, kept ++ c :: r) else if kK c < asked ∨ kF c &&& 32 = 0 then zCt asked (zMx asked (kK c + 1)) (kept ++ (pend ++ [c])) [] r else zCt asked left kept (pend ++ [c]) r).2.Sublist _
    split
    · exact List.Sublist.append_left (List.sublist_append_right pend _) kept
    · split
      · have := ih (zMx asked (kK c + 1)) (kept ++ (pend ++ [c])) []
        simpa using this
      · have := ih left kept (pend ++ [c])
        simpa using this
theorem zCt_neg (asked : Int64) {p : zPr} (hp : kK p < 0) : ∀ (l : List zPr) (left : Int64) (kept pend : List zPr), (∀ q ∈ pend, 0 ≤ kK q) → p ∈ kept ++ (pend ++ l) → p ∈ (zCt asked left kept pend l).2 := by
  intro l
  induction l with
  | nil =>
    intro left kept pend hpend hm
    rcases List.mem_append.mp hm with e | e
    · exact e
    · rw [List.append_nil] at e
      exact absurd hp (Int64.not_lt.mpr (hpend p e))
  | cons c r ih =>
    intro left kept pend hpend hm
    show p ∈ (if kK c < 0 then (left, kept ++ c :: r) else if kK c < asked ∨ kF c &&& 32 = 0 then zCt asked (zMx asked (kK c + 1)) (kept ++ (pend ++ [c])) [] r else zCt asked left kept (pend ++ [c]) r).2
    split
    · rcases List.mem_append.mp hm with e | e
      · exact List.mem_append_left _ e
      · rcases List.mem_append.mp e with e | e
        · exact absurd hp (Int64.not_lt.mpr (hpend p e))
        · exact List.mem_append_right _ e
    · rename_i hc
      split
      · refine ih _ _ _ (fun q hq => by cases hq) ?_
        simpa using hm
      · refine ih _ _ _ (fun q hq => ?_) (by simpa using hm)
        rcases List.mem_append.mp hq with e | e
        · exact hpend q e
        · rw [List.mem_singleton.mp e]; exact Int64.not_lt.mp hc
/-! objects -/
section ZWX
variable {n o : Nat} {x : zOb} {k : Int64} {d : zDs} {told on kd : Int32} {b : Int64} {g q : Int32}
theorem zWx.len (h : zWx n o x) (ha : oA x = true) : ∃ pl, zG (-1) (oL x) = some pl ∧ pl ∈ oL x ∧ kK pl = -1 ∧ (kF pl = 0 ∨ kF pl = 2) ∧ kD pl = 4 := by
  obtain ⟨p, hp, hk, hf, hD⟩ := h.2.2.2 ha
  exact ⟨p, zG_mem (zBf_ne h.2.2.1) hp hk, hp, hk, hf, hD⟩
theorem zWx.up (h : zWx n o x) {p2 : zPr} (hk : kK p2 = k) (hp : zWp p2 ∧ kO p2 < n ∧ kS p2 < n) (hg : zG k (oL x) ≠ none) (hl : oA x = true → k = -1 → (kF p2 = 0 ∨ kF p2 = 2) ∧ kD p2 = 4) : zWx n o (zSL x (zUp k p2 (oL x))) := by
  refine ⟨h.1, fun p hm => ?_, zUp_pw hk h.2.2.1, fun ha => ?_⟩
  · rcases zUp_mem2 hm with e | e
    · rw [e]; exact hp
    · exact h.2.1 p e
  · by_cases hk1 : k = -1
    · exact ⟨p2, zUp_has hg, hk.trans hk1, hl ha hk1⟩
    · obtain ⟨p, hm, hkp, hf, hD⟩ := h.2.2.2 ha
      exact ⟨p, zUp_in hm (fun z => hk1 (z.symm.trans hkp)), hkp, hf, hD⟩
theorem zWx.plain (h : zWx n o x) (hky : zKy k) (hd : zDm d told on kd b g q) (hn : dO d < n ∧ dG d < n ∧ dS d < n) (h4 : oA x = true → k = -1 → dT d &&& 1 ≠ 0 → dK d = 4) : zWx n o (zPl x k d).2 := by
  unfold zPl
  cases hz : zG k (oL x) with
  | some p =>
    dsimp only
    obtain ⟨hm, hkp⟩ := zG_some hz
    by_cases hc : zChg d p = true
    · rw [if_pos hc]; exact h
    · rw [if_neg hc]
      refine h.up ((kK_bec d p).trans hkp) (zWp.bec hd hn (h.2.1 p hm)) (by rw [hz]; exact fun z => by cases z) (fun ha hk1 => ?_)
      obtain ⟨pl, e1, e2, e3, e4, e5⟩ := h.len ha
      rw [hk1, e1] at hz
      have e := Option.some.inj hz
      subst e
      have h32 : kF pl &&& 32 = 0 := by rcases e4 with e | e <;> rw [e] <;> rfl
      have hx : zFix d pl = false := by
        unfold zChg at hc
        rw [decide_eq_true h32, Bool.true_and] at hc
        cases hz : zFix d pl with
        | false => rfl
        | true => exact absurd hz hc
      have hF : dF d = on &&& dT d &&& 50 := by rw [hd.2.1, hd.1]
      obtain ⟨f1, f2⟩ := z_lenf hF e4 hx
      refine ⟨f2, ?_⟩
      have h64 : kF pl &&& 64 = 0 := by rcases e4 with e | e <;> rw [e] <;> rfl
      by_cases h1 : dT d &&& 1 = 0
      · have b1 : zB1 d pl = pl := by unfold zB1; rw [if_pos h64, if_pos f1]
        have z3 : ∀ p, zB3 d p = p := fun p => if_pos h1
        have z4 : ∀ p, zB4 d p = p := fun p => if_pos (i_sub (by decide) f1)
        have z5 : ∀ p, zB5 d p = p := fun p => if_pos (i_sub (by decide) f1)
        unfold zBec
        rw [b1, z5, z4, z3]
        exact e5
      · rw [(z_lenq hF h1 f1 h64).2.1]
        exact h4 ha hk1 h1
  | none =>
    dsimp only
    cases hE : oE x with
    | false => rw [if_neg (by decide)]; exact h
    | true =>
      rw [if_pos rfl]
      have h0n : 0 < n := by omega
      have hp0 : zWp ((k, 0, 0, 0, 0, 0) : zPr) ∧ kO ((k, 0, 0, 0, 0, 0) : zPr) < n ∧ kS ((k, 0, 0, 0, 0, 0) : zPr) < n := ⟨⟨hky, Or.inl ⟨by show (0 : Int32) ∈ zFd; decide, rfl, zWv0⟩⟩, h0n, h0n⟩
      have hb := zWp.bec hd hn hp0
      refine ⟨h.1, fun p hm => ?_, zIns_pw (k := k) ((kK_bec d (k, 0, 0, 0, 0, 0)).trans rfl) hz h.2.2.1, fun ha => ?_⟩
      · rcases zIns_mem.mp hm with e | e
        · rw [e]; exact hb
        · exact h.2.1 p e
      · obtain ⟨p, hm, hkp, hf, hD⟩ := h.2.2.2 ha
        exact ⟨p, zIns_mem.mpr (Or.inr hm), hkp, hf, hD⟩
theorem zWl_wp {p : zPr} {left : Int64} (h : zWp p) (hf : kF p = 0 ∨ kF p = 2) (h0 : 0 < n) : zWp (zWl left p) ∧ kO (zWl left p) < n ∧ kS (zWl left p) < n := by
  have h64 : kF p &&& 64 = 0 := by rcases hf with e | e <;> rw [e] <;> rfl
  obtain ⟨v1, v2⟩ := h.data h64
  have hfd : kF p ∈ zFd := by rcases hf with e | e <;> rw [e] <;> decide
  refine ⟨⟨h.1, Or.inl ⟨hfd, v1, zWv4 _⟩⟩, h0, ?_⟩
  show kS p < n
  rw [v1]; exact h0
theorem zNw_wp {p : zPr} (h : zWp p ∧ kO p < n ∧ kS p < n) (hf : kF p = 0 ∨ kF p = 2) : (zWp (zNw p) ∧ kO (zNw p) < n ∧ kS (zNw p) < n) ∧ (kF (zNw p) = 0 ∨ kF (zNw p) = 2) := by
  have h64 : kF p &&& 64 = 0 := by rcases hf with e | e <;> rw [e] <;> rfl
  obtain ⟨v1, v2⟩ := h.1.data h64
  have e0 : kF (zNw p) = 0 := by
    show kF p &&& (-3) = 0
    rcases hf with e | e <;> rw [e] <;> rfl
  refine ⟨⟨⟨h.1.1, Or.inl ⟨by rw [e0]; decide, v1, v2⟩⟩, h.2⟩, Or.inl e0⟩
theorem zWx.dl (h : zWx n o x) {pair : Int32} (hd : zDn d told on kd b pair) (hn : dO d < n ∧ dG d < n ∧ dS d < n) (ha : oA x = true) (h1 : told &&& 1 ≠ 0) {pl : zPr} (hg : zG (-1) (oL x) = some pl) : zWx n o (zDl x d pl).2 := by
  have h12 : told &&& 12 = 0 := hd.1.2.2.2.2.2.2.2.2.2.2.2.resolve_left (fun z => h1 (i_sub (by decide) z))
  have h0n : 0 < n := by omega
  have ky1 : zKy (-1) := by decide
  unfold zDl
  split
  · exact h
  · split
    · split
      · exact h
      · have eP : ∀ d2 : zDs, zPl x (-1) d2 = if zChg d2 pl = true then (2, x) else (0, zSL x (zUp (-1) (zBec d2 pl) (oL x))) := by
          intro d2; unfold zPl; rw [hg]
        by_cases hc : zChg (zDd d) pl = true
        · rw [if_pos hc]; exact h
        · rw [if_neg hc]
          have hD : ∃ on', zDm (zDd d) told on' 4 (cOf (cAl (dK d) (dN d))) (0 / 4200) (0 - 0 / 4200 * 4200) := by
            by_cases hcl : zCl2 d
            · unfold zDd; rw [if_pos hcl]; exact ⟨_, hd.d2 h12 (by rw [← hd.1.1]; exact hcl.1)⟩
            · unfold zDd; rw [if_neg hcl]; exact ⟨_, hd.d1 h12⟩
          obtain ⟨on', hdm⟩ := hD
          have dK' : dK (zDd d) = 4 := by unfold zDd; split <;> rfl
          have dO' : dO (zDd d) = 0 := by unfold zDd; split <;> rfl
          have dG' : dG (zDd d) = dG d := by unfold zDd; split <;> rfl
          have dS' : dS (zDd d) = dS d := by unfold zDd; split <;> rfl
          have h1' := h.plain ky1 hdm (by rw [dO', dG', dS']; exact ⟨h0n, hn.2⟩) (fun _ _ _ => dK')
          rw [eP, if_neg hc] at h1'
          have h1' : zWx n o (zSL x (zUp (-1) (zBec (zDd d) pl) (oL x))) := h1'
          unfold zDe
          obtain ⟨p1, e1, e2, e3, e4, e5⟩ := h1'.len ha
          have e1 : zG (-1) (zUp (-1) (zBec (zDd d) pl) (oL x)) = some p1 := e1
          have hpq : p1 = zBec (zDd d) pl := by
            have := zG_up (k := -1) (a := zBec (zDd d) pl) (ps := oL x) ((kK_bec _ _).trans (zG_some hg).2) (by rw [hg]; exact fun z => by cases z)
            rw [this] at e1
            exact (Option.some.inj e1).symm
          rw [hpq] at e1 e2 e3 e4 e5
          generalize zBec (zDd d) pl = Q at h1' e1 e2 e3 e4 e5 ⊢
          have hsub := zCt_sub (cAl (dK d) (dN d)) (zUp (-1) Q (oL x)) (cAl (dK d) (dN d)) [] []
          rw [List.nil_append, List.nil_append] at hsub
          have hmem := zCt_neg (cAl (dK d) (dN d)) (p := Q) (by rw [e3]; decide) (zUp (-1) Q (oL x)) (cAl (dK d) (dN d)) [] [] (fun q hq => by cases hq) (by rw [List.nil_append, List.nil_append]; exact e2)
          generalize zCt (cAl (dK d) (dN d)) (cAl (dK d) (dN d)) [] [] (zUp (-1) Q (oL x)) = R at hsub hmem ⊢
          have hx2 : zWx n o (zSL x R.2) := ⟨h1'.1, fun p hm => h1'.2.1 p (hsub.subset hm), h1'.2.2.1.sublist hsub, fun _ => ⟨Q, hmem, e3, e4, e5⟩⟩
          have hgQ : zG (-1) R.2 = some Q := zG_mem (zBf_ne hx2.2.2.1) hmem e3
          have hQ := (h1'.2.1 Q e2).1
          have hwl := zWl_wp (left := R.1) (n := n) hQ e4 h0n
          have hup : ∀ p2, kK p2 = -1 → (zWp p2 ∧ kO p2 < n ∧ kS p2 < n) → (kF p2 = 0 ∨ kF p2 = 2) → kD p2 = 4 → zWx n o (zSL x (zUp (-1) p2 R.2)) := fun p2 a1 a2 a3 a4 => hx2.up (k := -1) a1 a2 (by show zG (-1) R.2 ≠ none; rw [hgQ]; exact fun z => by cases z) (fun _ _ => ⟨a3, a4⟩)
          by_cases hcl : zCl2 d
          · rw [if_pos hcl]
            obtain ⟨a1, a2⟩ := zNw_wp (p := zWl R.1 Q) hwl e4
            exact hup _ e3 a1 a2 rfl
          · rw [if_neg hcl]
            exact hup _ e3 hwl e4 rfl
    · have eP : zPl x (-1) (zD1 d) = if zChg (zD1 d) pl = true then (2, x) else (0, zSL x (zUp (-1) (zBec (zD1 d) pl) (oL x))) := by
        unfold zPl; rw [hg]
      rw [← eP]
      exact h.plain ky1 (hd.d1 h12) ⟨h0n, hn.2⟩ (fun _ _ _ => rfl)
theorem zWx.dp (h : zWx n o x) {pair : Int32} (hky : zKy k) (hd : zDn d told on kd b pair) (hn : dO d < n ∧ dG d < n ∧ dS d < n) : zWx n o (zDp x k d).2 := by
  have h0n : 0 < n := by omega
  unfold zDp
  by_cases ha : oA x = true
  · rw [if_pos ha]
    obtain ⟨pl, e1, e2, e3, e4, e5⟩ := h.len ha
    rw [e1, Option.getD_some]
    by_cases hk1 : k = -1 ∧ dT d &&& 1 ≠ 0
    · rw [if_pos hk1]
      exact h.dl hd hn ha (by rw [← hd.1.1]; exact hk1.2) e1
    · rw [if_neg hk1]
      have hp := h.plain hky hd.1 hn (fun _ z w => absurd ⟨z, w⟩ hk1)
      split
      · exact hp
      · split
        · exact h
        · by_cases h0 : (zPl x k d).1 = 0
          · rw [if_pos h0]
            obtain ⟨p2, f1, f2, f3, f4⟩ := zPl_len (x := x) (k := k) (d := d) (on := on) (by rw [hd.1.2.1, hd.1.1]) e1 e3 e4 e5 (fun z => Classical.byContradiction (fun w => hk1 ⟨z, w⟩)) h0
            rw [f1, Option.getD_some]
            obtain ⟨f5, f6⟩ := zG_some f1
            exact hp.up (k := -1) f4 (zWl_wp (hp.2.1 p2 f5).1 f2 h0n) (by rw [f1]; exact fun z => by cases z) (fun _ _ => ⟨f2, rfl⟩)
          · rw [if_neg h0]; exact hp
  · rw [if_neg ha]
    exact h.plain hky hd.1 hn (fun z => absurd z ha)
end ZWX

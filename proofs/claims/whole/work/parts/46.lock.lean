/-! locks; deleting -/
def zClr (m : Int32) (p : zPr) : zPr := (kK p, kF p &&& (m ^^^ (-1)), kD p, kN p, kO p, kS p)
def zLm (how : Int32) : Int32 := if how = 0 then 0 else if how = 1 then 32 else 34
theorem zBk_map {g : zPr → zPr} (hg : ∀ p, kK (g p) = kK p) (k : Int64) : ∀ (bs : List Nat) (ps : List zPr), zBk k bs (ps.map g) = zBk k bs ps := by
  intro bs
  induction bs with
  | nil => intro ps; cases ps <;> rfl
  | cons b bs ih => intro ps; cases ps with
    | nil => rfl
    | cons p ps =>
      show (if kK (g p) = k then b else zBk k bs (ps.map g)) = (if kK p = k then b else zBk k bs ps)
      rw [hg, ih]
/-- only some words change, of some blocks -/
def zCh (Q : Nat → Nat → Prop) (s t : zSt) : Prop := gN t = gN s ∧ zSame s t ∧ gE t = gE s ∧ (∀ k, gI t k = gI s k) ∧ ∀ c f, f < 8 → ¬ Q c f → Wd t c f = Wd s c f
theorem zCh.rf (Q : Nat → Nat → Prop) (s : zSt) : zCh Q s s := ⟨rfl, zSame.rf s, rfl, fun _ => rfl, fun _ _ _ _ => rfl⟩
theorem zCh.tr {Q : Nat → Nat → Prop} {s t u : zSt} (h1 : zCh Q s t) (h2 : zCh Q t u) : zCh Q s u := ⟨h2.1.trans h1.1, h1.2.1.tr h2.2.1, h2.2.2.1.trans h1.2.2.1, fun k => (h2.2.2.2.1 k).trans (h1.2.2.2.1 k), fun c f hf hc => (h2.2.2.2.2 c f hf hc).trans (h1.2.2.2.2 c f hf hc)⟩
theorem zCh.sW {Q : Nat → Nat → Prop} {b f : Nat} (s : zSt) (v : Int64) (hb : b ≠ 0) (hf : f < 8) (hQ : Q b f) : zCh Q s (sW s b f v) := ⟨sW_N _ _ _ _, zSame.sW _ _ _ _, sW_E _ _ _ _, sW_I _ _ _ _, fun c g hg hc => by rw [Wd_sW hb hf hg, if_neg (fun q => hc (by rw [q.1, q.2]; exact hQ))]⟩
theorem zCh.to {Q Q2 : Nat → Nat → Prop} {s t : zSt} (h : zCh Q s t) (hq : ∀ c f, Q c f → Q2 c f) : zCh Q2 s t := ⟨h.1, h.2.1, h.2.2.1, h.2.2.2.1, fun c f hf hc => h.2.2.2.2 c f hf (fun q => hc (hq c f q))⟩
theorem zCh.ok {Q : Nat → Nat → Prop} {nb : Nat} {s t : zSt} (h : zCh Q s t) (hok : zOk nb s) : zOk nb t := ⟨h.1.trans hok.1, hok.2⟩
theorem zCh.bu {b : Nat} {s t : zSt} (h : zBu b s t) : zCh (fun c f => c = b ∧ 2 ≤ f) s t := ⟨h.1, h.2.1, h.2.2.1, h.2.2.2.1, fun c f hf hc => h.2.2.2.2 c f hf (by
  by_cases hcb : c = b
  · exact Or.inr (by have : ¬ 2 ≤ f := fun q => hc ⟨hcb, q⟩; omega)
  · exact Or.inl hcb)⟩
section ZL
variable {nb : Nat} {β : Nat → Nat}
theorem r_close (m : Int32) : ∀ (bs : List Nat) (ps : List zPr) (n j : Nat) (s : zSt), zOk nb s → zPA s β bs ps → zIn nb bs → bs.Nodup → j + bs.length < 1024 → bs.length < n → ∃ t, F_O_close_19 n m (nI (bs.headD 0)) (nI j) s = some ((), t) ∧ zPA t β bs (ps.map (zClr m)) ∧ zCh (fun c f => c ∈ bs ∧ f = 5) s t := by
  intro bs
  induction bs with
  | nil =>
    intro ps n j s hok hP hI hnd hj hn
    obtain ⟨k, rfl⟩ : ∃ m, n = m + 1 := ⟨n - 1, by omega⟩
    cases ps with
    | cons p ps => exact hP.elim
    | nil =>
      refine ⟨s, ?_, trivial, zCh.rf _ s⟩
      rw [F_O_close_19, F_O_close_62]
      have hz : nI (([] : List Nat).headD 0) = 0 := rfl
      rw [hz, if_pos rfl]
      split <;> rfl
  | cons b bs ih =>
    intro ps n j s hok hP hI hnd hj hn
    have hnb := hok.2
    rw [List.length_cons] at hj hn
    obtain ⟨k, rfl⟩ : ∃ m, n = m + 1 := ⟨n - 1, by omega⟩
    cases ps with
    | nil => exact hP.elim
    | cons p ps =>
      obtain ⟨h1, h2, h3⟩ := hP
      have hb := hI.1 b List.mem_cons_self
      have hb0 : b ≠ 0 := by omega
      rw [List.nodup_cons] at hnd
      have hge : ¬ ((1024 : Int32) ≤ nI j) := fun q => by
        have := (qI_le (a := 1024) (b := j) (by decide) (by omega)).mp q
        omega
      have hne : ¬ (nI ((b :: bs).headD 0) = 0) := fun q => by
        have := (qI_eq0 (a := b) (by omega)).mp q
        omega
      rw [F_O_close_19, if_neg hge, if_neg hne]
      show ∃ t, zb (F_O_attributesOf (nI b) s) (fun v5 s6 => zb (F_M_setWord (nI b) 5 (v5 &&& (m ^^^ -1)).toInt64 s6) (fun v7 s8 => zb (F_O_next (nI b) s8) (fun v9 s10 => F_O_close_19 k m v9 (nI j + 1) s10))) = some ((), t) ∧ _
      rw [r_att hok hb.2 h2, zb_some, zsw5 hok hb.2, zb_some]
      have hok2 := zOk_sW hok b 5 ((kF p &&& (m ^^^ -1)).toInt64)
      have hWd : ∀ c f, f < 8 → Wd (sW s b 5 ((kF p &&& (m ^^^ -1)).toInt64)) c f = if c = b ∧ f = 5 then (kF p &&& (m ^^^ -1)).toInt64 else Wd s c f := fun c f hf => Wd_sW hb0 (by decide) hf
      rw [r_next hok2 hb.2 (x := bs.headD 0) (by rw [hWd b 1 (by decide), if_neg (by omega)]; exact h1), zb_some]
      have e1 : nI j + 1 = nI (j + 1) := (nI_succ j).symm
      rw [e1]
      obtain ⟨t, g1, g2, g3⟩ := ih ps k (j + 1) _ hok2 (zPA_kept (s := s) (fun c hc f hf => by rw [hWd c f hf, if_neg (show ¬ (c = b ∧ f = 5) from fun q => hnd.1 (q.1 ▸ hc))]) (fun _ _ => ⟨rfl, rfl⟩) h3) hI.tl hnd.2 (by omega) (by omega)
      have hbt : ∀ f, f < 8 → Wd t b f = Wd (sW s b 5 ((kF p &&& (m ^^^ -1)).toInt64)) b f := fun f hf => g3.2.2.2.2 b f hf (fun q => hnd.1 q.1)
      refine ⟨t, g1, ⟨?_, ⟨?_, ?_, ?_, ?_, ?_, ?_⟩, g2⟩, (zCh.sW s _ hb0 (by decide) (show b ∈ b :: bs ∧ 5 = 5 from ⟨List.mem_cons_self, rfl⟩)).tr (g3.to (fun c f q => ⟨List.mem_cons_of_mem _ q.1, q.2⟩))⟩
      · rw [hbt 1 (by decide), hWd b 1 (by decide), if_neg (by omega)]; exact h1
      · rw [hbt 2 (by decide), hWd b 2 (by decide), if_neg (by omega)]; exact h2.1
      · rw [hbt 3 (by decide), hWd b 3 (by decide), if_neg (by omega)]; exact h2.2.1
      · rw [hbt 4 (by decide), hWd b 4 (by decide), if_neg (by omega)]; exact h2.2.2.1
      · rw [hbt 5 (by decide), hWd b 5 (by decide), if_pos ⟨rfl, rfl⟩]; rfl
      · rw [hbt 6 (by decide), hWd b 6 (by decide), if_neg (by omega)]; exact h2.2.2.2.2.1
      · rw [hbt 7 (by decide), hWd b 7 (by decide), if_neg (by omega)]; exact h2.2.2.2.2.2
theorem r_closed {s : zSt} (hok : zOk nb s) (m : Int32) : ∀ (bs : List Nat) (ps : List zPr) (n j : Nat) (c : Bool), zPA s β bs ps → zIn nb bs → j + bs.length < 1024 → bs.length < n → F_O_isClosed_24 n m (bI (c = true)) (nI (bs.headD 0)) (nI j) s = some (bI ((c && ps.all (fun p => decide (kF p &&& m = 0))) = true), s) := by
  have hnb := hok.2
  intro bs
  induction bs with
  | nil =>
    intro ps n j c hP hI hj hn
    obtain ⟨k, rfl⟩ : ∃ m, n = m + 1 := ⟨n - 1, by omega⟩
    cases ps with
    | cons p ps => exact hP.elim
    | nil =>
      rw [F_O_isClosed_24, F_O_isClosed_71]
      have hz : nI (([] : List Nat).headD 0) = 0 := rfl
      have hv : vp_nar .boolean (bI (c = true)) = bI (c = true) := by cases c <;> rfl
      rw [hz, if_pos rfl, if_pos hv, List.all_nil, Bool.and_true]
      split <;> rfl
  | cons b bs ih =>
    intro ps n j c hP hI hj hn
    rw [List.length_cons] at hj hn
    obtain ⟨k, rfl⟩ : ∃ m, n = m + 1 := ⟨n - 1, by omega⟩
    cases ps with
    | nil => exact hP.elim
    | cons p ps =>
      obtain ⟨h1, h2, h3⟩ := hP
      have hb := hI.1 b List.mem_cons_self
      have hge : ¬ ((1024 : Int32) ≤ nI j) := fun q => by
        have := (qI_le (a := 1024) (b := j) (by decide) (by omega)).mp q
        omega
      have hne : ¬ (nI ((b :: bs).headD 0) = 0) := fun q => by
        have := (qI_eq0 (a := b) (by omega)).mp q
        omega
      have e1 : nI j + 1 = nI (j + 1) := (nI_succ j).symm
      have go : ∀ c2 : Bool, F_O_isClosed_56 (F_O_isClosed_24 k) m (nI b) (nI j) (bI (c2 = true)) s = some (bI ((c2 && ps.all (fun p => decide (kF p &&& m = 0))) = true), s) := by
        intro c2
        unfold F_O_isClosed_56
        rw [r_next hok hb.2 h1, zb_some, e1]
        exact ih ps k (j + 1) c2 h3 hI.tl (by omega) (by omega)
      rw [F_O_isClosed_24, if_neg hge, if_neg hne]
      show (if bI (c = true) = 0 then F_O_isClosed_55 (F_O_isClosed_24 k) m (nI b) (nI j) s else zb (F_O_isAny (nI b) m s) (fun v7 s8 => if v7 = 0 then F_O_isClosed_56 (F_O_isClosed_24 k) m (nI b) (nI j) 1 s8 else F_O_isClosed_55 (F_O_isClosed_24 k) m (nI b) (nI j) s8)) = _
      unfold F_O_isClosed_55
      rw [List.all_cons]
      cases c with
      | false =>
        rw [if_pos (bI_f (by decide)), Bool.false_and]
        have := go false
        rw [Bool.false_and] at this
        exact this
      | true =>
        rw [if_neg (by decide), Bool.true_and, r_any hok hb.2 h2, zb_some]
        by_cases hf : kF p &&& m = 0
        · rw [if_pos (bI_eq0.mpr (fun q => q hf)), decide_eq_true hf, Bool.true_and]
          have := go true
          rw [Bool.true_and] at this
          exact this
        · rw [if_neg (fun q => bI_eq0.mp q hf), decide_eq_false hf, Bool.false_and]
          have := go false
          rw [Bool.false_and] at this
          exact this
end ZL
section ZX4
variable {σ : zSg} {lv : List Nat} {β : Nat → Nat} {π : Nat → List Nat} {nb : Nat} {FL : List Nat} {mk rc rl : Nat} {s : zSt}
theorem x_lka (how : Int32) (s : zSt) : F_X_lockedAttributes how s = some (zLm how, s) := by
  unfold F_X_lockedAttributes F_X_lockedAttributes_18 zLm
  split
  · rfl
  · split <;> rfl
def S_lock (σ : zSg) (r how : Int32) : (Unit ⊕ Nat) × zSg := if zH σ r ≠ 0 ∧ (0 ≤ how ∧ how ≤ 2) then (.inl (), zSO σ (zH σ r) (oP (gO σ (zH σ r)), oA (gO σ (zH σ r)), false, (oL (gO σ (zH σ r))).map (zClr (zLm how)))) else (.inr 0, σ)
theorem X_lock (h : zXs σ mk rc rl s) (r how : Int32) : zXo (F_X_lock r how s) (S_lock σ r how) mk rc rl s := by
  obtain ⟨lv, β, π, nb, FL, h1, h2, h3⟩ := id h
  unfold F_X_lock S_lock
  rw [x_hwl h1.1]
  by_cases hc : zH σ r ≠ 0 ∧ (0 ≤ how ∧ how ≤ 2)
  · rw [if_pos hc, zt_inl, if_pos hc, x_lka, zb_some]
    have ho := (h1.1.root r).resolve_left hc.1
    obtain ⟨q1, q2, q3, q4, q5⟩ := h1.1.chain ho
    obtain ⟨w1, w2, w3, w4, w5⟩ := h1.1.obj ho
    have hb0 : β (zH σ r) ≠ 0 := by omega
    unfold F_O_close
    rw [zsw4 h1.1.ok q3, zb_some]
    have hok2 := zOk_sW h1.1.ok (β (zH σ r)) 4 0
    have hWd : ∀ c f, f < 8 → Wd (sW s (β (zH σ r)) 4 0) c f = if c = β (zH σ r) ∧ f = 4 then 0 else Wd s c f := fun c f hf => Wd_sW hb0 (by decide) hf
    have hf1 : F_O_first (nI (β (zH σ r))) (sW s (β (zH σ r)) 4 0) = some (nI ((π (zH σ r)).headD 0), sW s (β (zH σ r)) 4 0) := by
      unfold F_O_first
      rw [zw2 hok2 q3, zb_some, hWd _ 2 (by decide), if_neg (by omega), w2, qL_int]
    rw [hf1, zb_some]
    obtain ⟨t, g1, g2, g3⟩ := r_close (zLm how) (π (zH σ r)) _ zFuel 0 _ hok2 (zPA_kept (s := s) (fun c hc f hf => by rw [hWd c f hf, if_neg (show ¬ (c = β (zH σ r) ∧ f = 4) from fun q => q4 (q.1 ▸ hc))]) (fun _ _ => ⟨rfl, rfl⟩) w5) q1 q5 (by have := q1.2; omega) (by have := q1.2; rw [zFuel_eq]; omega)
    rw [show (0 : Int32) = nI 0 from rfl, g1, zb_some]
    have hWt : ∀ c f, f < 8 → ¬ (c ∈ π (zH σ r) ∧ f = 5) → Wd t c f = if c = β (zH σ r) ∧ f = 4 then 0 else Wd s c f := fun c f hf hq => by rw [g3.2.2.2.2 c f hf hq, hWd c f hf]
    have hU := h1.1.updO (t := t) (bs := π (zH σ r)) (x := (oP (gO σ (zH σ r)), oA (gO σ (zH σ r)), false, (oL (gO σ (zH σ r))).map (zClr (zLm how)))) ho (fun k _ _ => by rw [g3.2.2.2.1, sW_I]) (by rw [g3.1, sW_N]) (by rw [g3.2.1.2.2.1, sW_A])
      (fun c f hf hc => by
        rw [hWt c f hf (fun q => hc (List.mem_cons_of_mem _ q.1)), if_neg (fun q => hc (by rw [q.1]; exact List.mem_cons_self))])
      (fun c => by rw [hWt c 0 (by decide) (fun q => by have := q.2; omega), if_neg (by omega)]) (List.Sublist.refl _)
      ⟨by rw [hWt _ 1 (by decide) (fun q => by have := q.2; omega), if_neg (by omega)]; exact w1, by rw [hWt _ 2 (by decide) (fun q => by have := q.2; omega), if_neg (by omega)]; exact w2, by
        rw [hWt _ 3 (by decide) (fun q => by have := q.2; omega), if_neg (by omega), w3]
        show _ = nL (if oA (gO σ (zH σ r)) = true then zBk (-1) (π (zH σ r)) ((oL (gO σ (zH σ r))).map (zClr (zLm how))) else 0)
        rw [zBk_map (g := zClr (zLm how)) (fun _ => rfl)], by rw [hWt _ 4 (by decide) (fun q => by have := q.2; omega), if_pos ⟨rfl, rfl⟩]; rfl, g2⟩ (h1.1.2.2.2.2.2.2.1 _ ho).1 (fun p hp => by
        obtain ⟨p0, hp0, e⟩ := List.mem_map.mp hp
        rw [← e]
        exact (h1.1.2.2.2.2.2.2.1 _ ho).2 p0 hp0)
    refine zXo.ok (s2 := t) (by rw [g3.2.2.1, sW_E]) h2 h3 ⟨hU, ?_⟩ rfl ((zKM.sW s _ _ _).tr (zKM.of g3.2.1))
    exact ⟨by rw [g3.2.2.2.1, sW_I]; exact h1.2.1, by rw [g3.2.1.2.1, sW_J]; exact h1.2.2.1, by rw [g3.2.2.2.1, sW_I]; exact h1.2.2.2.1, by rw [g3.2.1.2.1, sW_J]; exact h1.2.2.2.2⟩
  · rw [if_neg hc, zt_inr, if_neg hc]
    exact zXo.thr h rfl
def S_locked (σ : zSg) (r how : Int32) : (Int32 ⊕ Nat) × zSg := if zH σ r ≠ 0 ∧ (0 ≤ how ∧ how ≤ 2) then (.inl (bI ((!oE (gO σ (zH σ r)) && (oL (gO σ (zH σ r))).all (fun p => decide (kF p &&& zLm how = 0))) = true)), σ) else (.inr 0, σ)
theorem X_locked (h : zXs σ mk rc rl s) (r how : Int32) : zXo (F_X_locked r how s) (S_locked σ r how) mk rc rl s := by
  obtain ⟨lv, β, π, nb, FL, h1, h2, h3⟩ := id h
  unfold F_X_locked S_locked
  rw [x_hwl h1.1]
  by_cases hc : zH σ r ≠ 0 ∧ (0 ≤ how ∧ how ≤ 2)
  · rw [if_pos hc, zt_inl, if_pos hc, x_lka, zb_some]
    have ho := (h1.1.root r).resolve_left hc.1
    obtain ⟨q1, q2, q3, q4, q5⟩ := h1.1.chain ho
    have hP := (h1.1.obj ho).2.2.2.2
    have go : ∀ c : Bool, F_O_isClosed_13 (nI (β (zH σ r))) (zLm how) (bI (c = true)) s = some (bI ((c && (oL (gO σ (zH σ r))).all (fun p => decide (kF p &&& zLm how = 0))) = true), s) := by
      intro c
      unfold F_O_isClosed_13
      rw [r_first h1.1.ok q3 (h1.1.obj ho), zb_some]
      exact r_closed h1.1.ok (zLm how) (π (zH σ r)) _ zFuel 0 c hP q1 (by have := q1.2; omega) (by have := q1.2; rw [zFuel_eq]; omega)
    unfold F_O_isClosed
    rw [r_ext h1.1.ok q3 (h1.1.obj ho), zb_some]
    have hv : ∀ c : Bool, vp_nar .boolean (bI (c = true)) = bI (c = true) := fun c => by cases c <;> rfl
    cases he : oE (gO σ (zH σ r)) with
    | true =>
      rw [if_neg (by decide)]
      have g := go false
      rw [Bool.not_true]
      rw [show (0 : Int32) = bI (false = true) from rfl, g, zb_some, if_pos (hv _)]
      exact zXo.ok (s2 := s) rfl h2 h3 h1 rfl (zKM.rf s)
    | false =>
      rw [if_pos (bI_f (by decide))]
      have g := go true
      rw [Bool.not_false]
      rw [show (1 : Int32) = bI (true = true) from rfl, g, zb_some, if_pos (hv _)]
      exact zXo.ok (s2 := s) rfl h2 h3 h1 rfl (zKM.rf s)
  · rw [if_neg hc, zt_inr, if_neg hc]
    exact zXo.thr h rfl
end ZX4

/-! the law: every call keeps what must hold -/
section ZLW
variable {σ : zSg}
theorem W_copy (h : zWf σ) (r q : Int32) : zWf (S_copy σ r q).2 ∧ gn (S_copy σ r q).2 = gn σ := by
  unfold S_copy
  split
  · rename_i hc
    exact ⟨h.rt (zV_nI hc.1).2 (h.root q), rfl⟩
  · exact ⟨h, rfl⟩
theorem W_hold (h : zWf σ) (r : Int32) : zWf (S_hold σ r).2 ∧ gn (S_hold σ r).2 = gn σ := by
  unfold S_hold
  split
  · rename_i hc
    split
    · exact ⟨h.rt (zV_nI hc).2 (h.2.2.1 25 (by decide)), rfl⟩
    · exact ⟨h, rfl⟩
  · exact ⟨h, rfl⟩
theorem W_operand (h : zWf σ) (k : Int32) (b : Int64) : zWf (S_operand σ k b).2 ∧ gn (S_operand σ k b).2 = gn σ := by
  unfold S_operand
  split
  · rename_i hc
    refine ⟨h.op ⟨hc.1, fun z => if_neg z, fun z => if_neg z, fun z => by rw [if_pos z]; exact hc.2 z⟩ ?_, rfl⟩
    split
    · unfold zHb
      split
      · exact h.root _
      · exact h.1
    · exact h.1
  · exact ⟨h, rfl⟩
theorem W_get (h : zWf σ) (r : Int32) (k : Int64) : zWf (S_get σ r k).2 ∧ gn (S_get σ r k).2 = gn σ := by
  unfold S_get
  split
  · refine ⟨?_, rfl⟩
    cases hz : zLu σ k 600 (zH σ r) with
    | none => exact h.rs zp0_wv h.1
    | some p =>
      obtain ⟨w1, w2, w3⟩ := zLu_wf h k 600 (zH σ r) p (h.root r) hz
      exact h.rs w1.v w2
  · exact ⟨h, rfl⟩
theorem W_own (h : zWf σ) (r : Int32) (k : Int64) : zWf (S_own σ r k).2 ∧ gn (S_own σ r k).2 = gn σ := by
  unfold S_own
  split
  · rename_i hc
    refine ⟨?_, rfl⟩
    cases hz : zG k (oL (gO σ (zH σ r))) with
    | none => exact h.rs zp0_wv h.1
    | some p =>
      obtain ⟨w1, w2, w3⟩ := (h.at (o := zH σ r) (by have := hc.1; omega) (h.root r)).2.1 p (zG_some hz).1
      exact h.rs w1.v w2
  · exact ⟨h, rfl⟩
theorem W_setter (h : zWf σ) (r : Int32) (k : Int64) (q : Int32) : zWf (S_setter σ r k q).2 ∧ gn (S_setter σ r k q).2 = gn σ := by
  unfold S_setter
  split
  · rename_i hc
    split
    · exact ⟨h, rfl⟩
    · refine ⟨h.rt (zV_nI hc.2).2 ?_, rfl⟩
      cases hz : zG k (oL (gO σ (zH σ r))) with
      | none => exact h.1
      | some p => exact ((h.at (o := zH σ r) (by have := hc.1.1; omega) (h.root r)).2.1 p (zG_some hz).1).2.2
  · exact ⟨h, rfl⟩
theorem W_proto (h : zWf σ) (r q : Int32) : zWf (S_proto σ r q).2 ∧ gn (S_proto σ r q).2 = gn σ := by
  unfold S_proto
  split
  · rename_i hc
    have hx := h.at (o := zH σ r) (by have := hc.1; omega) (h.root r)
    exact ⟨h.rt (zV_nI hc.2).2 (by have := hx.1; have := h.root r; omega), rfl⟩
  · exact ⟨h, rfl⟩
theorem W_id {α : Type} {c : Prop} [Decidable c] (h : zWf σ) (a b : α) : zWf (if c then (a, σ) else (b, σ)).2 ∧ gn (if c then (a, σ) else (b, σ)).2 = gn σ := by
  split
  · exact ⟨h, rfl⟩
  · exact ⟨h, rfl⟩
theorem W_same (h : zWf σ) (r q : Int32) : zWf (S_same σ r q).2 ∧ gn (S_same σ r q).2 = gn σ := W_id h _ _
theorem W_bits (h : zWf σ) : zWf (S_bits σ).2 ∧ gn (S_bits σ).2 = gn σ := W_id h _ _
theorem W_stress (h : zWf σ) (n : Int32) : zWf (S_stress σ n).2 ∧ gn (S_stress σ n).2 = gn σ := W_id h _ _
theorem W_has (h : zWf σ) (r : Int32) (k : Int64) : zWf (S_has σ r k).2 ∧ gn (S_has σ r k).2 = gn σ := W_id h _ _
theorem W_keys (h : zWf σ) (r : Int32) : zWf (S_keys σ r).2 ∧ gn (S_keys σ r).2 = gn σ := W_id h _ _
theorem W_locked (h : zWf σ) (r how : Int32) : zWf (S_locked σ r how).2 ∧ gn (S_locked σ r how).2 = gn σ := W_id h _ _
theorem W_key (h : zWf σ) (r k : Int32) : zWf (S_key σ r k).2 ∧ gn (S_key σ r k).2 = gn σ := by
  unfold S_key
  split
  · split
    · exact ⟨h, rfl⟩
    · exact ⟨h, rfl⟩
  · exact ⟨h, rfl⟩
theorem i_clr : ∀ f ∈ zFd, ∀ m ∈ [(0 : Int32), 32, 34], f &&& (m ^^^ -1) ∈ zFd := by decide
theorem i_cla : ∀ f ∈ zFa, ∀ m ∈ [(0 : Int32), 32, 34], f &&& (m ^^^ -1) ∈ zFa := by decide
theorem i_cll : ∀ f ∈ [(0 : Int32), 2], ∀ m ∈ [(0 : Int32), 32, 34], f &&& (m ^^^ -1) ∈ [(0 : Int32), 2] := by decide
theorem W_lock (h : zWf σ) (r how : Int32) : zWf (S_lock σ r how).2 ∧ gn (S_lock σ r how).2 = gn σ := by
  unfold S_lock
  split
  · rename_i hc
    have hx := h.at (o := zH σ r) (by have := hc.1; omega) (h.root r)
    have hm := zLm_mem how
    refine ⟨h.so ⟨hx.1, fun p hp => ?_, ?_, fun ha => ?_⟩, rfl⟩
    · obtain ⟨q, hq, rfl⟩ := List.mem_map.mp hp
      obtain ⟨w1, w2, w3⟩ := hx.2.1 q hq
      refine ⟨⟨w1.1, ?_⟩, w2, w3⟩
      rcases w1.2 with w | w
      · exact Or.inl ⟨i_clr _ w.1 _ hm, w.2⟩
      · exact Or.inr ⟨i_cla _ w.1 _ hm, w.2⟩
    · exact List.pairwise_map.mpr hx.2.2.1
    · obtain ⟨p, hp, hk, hf, hD⟩ := hx.2.2.2 ha
      refine ⟨zClr (zLm how) p, List.mem_map_of_mem hp, hk, ?_, hD⟩
      have := i_cll (kF p) (by rcases hf with e | e <;> rw [e] <;> decide) _ hm
      rcases List.mem_cons.mp this with e | e
      · exact Or.inl e
      · exact Or.inr (List.mem_singleton.mp e)
  · exact ⟨h, rfl⟩
theorem W_delete (h : zWf σ) (r : Int32) (k : Int64) : zWf (S_delete σ r k).2 ∧ gn (S_delete σ r k).2 = gn σ := by
  unfold S_delete
  split
  · rename_i hc
    have hx := h.at (o := zH σ r) (by have := hc.1; omega) (h.root r)
    cases hz : zG k (oL (gO σ (zH σ r))) with
    | none => exact ⟨h, rfl⟩
    | some p =>
      dsimp only
      split
      · exact ⟨h, rfl⟩
      · rename_i h32
        refine ⟨h.so ⟨hx.1, fun q hq => hx.2.1 q ((zRm_sub _).subset hq), hx.2.2.1.sublist (zRm_sub _), fun ha => ?_⟩, rfl⟩
        obtain ⟨pl, e1, e2, e3, e4, e5⟩ := hx.len ha
        refine ⟨pl, zRm_in e2 (fun e => h32 ?_), e3, e4, e5⟩
        rw [← e, e3, e1] at hz
        rw [← Option.some.inj hz]
        rcases e4 with e | e <;> rw [e] <;> rfl
  · exact ⟨h, rfl⟩
theorem W_object (h : zWf σ) (hg : gn σ < 600) (r p a : Int32) : zWf (S_object σ r p a).2 ∧ gn (S_object σ r p a).2 ≤ gn σ + 1 := by
  unfold S_object
  split
  · rename_i hc
    refine ⟨?_, Nat.le_refl _⟩
    obtain ⟨w1, w2, w3, w4, w5, w6, w7⟩ := id h
    have hi := (zV_nI hc.1).2
    have hg1 : ∀ v : Nat, v < gn σ → v < gn σ + 1 := fun v hv => by omega
    refine ⟨by show 1 ≤ gn σ + 1; omega, by show gn σ + 1 ≤ 600; omega, fun j hj => ?_, fun j j1 j2 => ?_, ?_, ?_, ?_⟩
    · show (if j = rN r then gn σ else gR σ j) < gn σ + 1
      split
      · omega
      · exact hg1 _ (w3 j hj)
    · have j2 : j < gn σ + 1 := j2
      show zWx (gn σ + 1) j (if j = gn σ then (zH σ p, decide (a ≠ 0), true, if decide (a ≠ 0) = true then [zl0] else []) else gO σ j)
      by_cases e : j = gn σ
      · rw [if_pos e, e]
        refine ⟨h.root p, ?_, ?_, fun ha => ?_⟩
        · show ∀ q ∈ (if decide (a ≠ 0) = true then [zl0] else []), _
          intro q hq
          split at hq
          · rw [List.mem_singleton.mp hq]
            exact ⟨⟨by decide, Or.inl ⟨by decide, rfl, zWv4 0⟩⟩, by show (0 : Nat) < gn σ + 1; omega, by show (0 : Nat) < gn σ + 1; omega⟩
          · cases hq
        · show (if decide (a ≠ 0) = true then [zl0] else []).Pairwise _
          split <;> simp
        · have ha : decide (a ≠ 0) = true := ha
          refine ⟨zl0, ?_, rfl, Or.inr rfl, rfl⟩
          show zl0 ∈ (if decide (a ≠ 0) = true then [zl0] else [])
          rw [if_pos ha]
          exact List.mem_singleton.mpr rfl
      · rw [if_neg e]
        obtain ⟨x1, x2, x3, x4⟩ := w4 j j1 (by omega)
        exact ⟨x1, fun q hq => ⟨(x2 q hq).1, hg1 _ (x2 q hq).2.1, hg1 _ (x2 q hq).2.2⟩, x3, x4⟩
    · show zWv (gPK σ) (gPN σ) (if 24 = rN r then gn σ else gR σ 24)
      rw [if_neg (by omega)]; exact w5
    · show zWv (gRK σ) (gRN σ) (if 25 = rN r then gn σ else gR σ 25)
      rw [if_neg (by omega)]; exact w6
    · show (if 26 = rN r then gn σ else gR σ 26) = 0
      rw [if_neg (by omega)]; exact w7
  · exact ⟨h, by show gn σ ≤ gn σ + 1; omega⟩
theorem W_define (h : zWf σ) (r : Int32) (k : Int64) (told on g q : Int32) : zWf (S_define σ r k told on g q).2 ∧ gn (S_define σ r k told on g q).2 = gn σ := by
  unfold S_define
  split
  · rename_i hc
    have hw := h.2.1
    have hx := h.at (o := zH σ r) (by have := hc.1.1.1; omega) (h.root r)
    have hGlt : (if told &&& 4 = 0 then 0 else zH σ g) < gn σ := by
      split
      · exact h.1
      · exact h.root g
    have hSlt : (if told &&& 8 = 0 then 0 else zH σ q) < gn σ := by
      split
      · exact h.1
      · exact h.root q
    have h24 := h.2.2.1 24 (by decide)
    obtain ⟨p1, p2⟩ := z_pair (g := if told &&& 4 = 0 then 0 else zH σ g) (q := if told &&& 8 = 0 then 0 else zH σ q) (by omega) (by omega)
    refine ⟨h.so (hx.dp (told := told) (on := on) (kd := gPK σ) (b := zBt (gPK σ) (gPN σ) (gR σ 24)) (pair := nI (if told &&& 4 = 0 then 0 else zH σ g) * 4200 + nI (if told &&& 8 = 0 then 0 else zH σ q)) hc.1.1.2 ⟨⟨rfl, rfl, rfl, rfl, p1.symm ▸ rfl, p2.symm ▸ rfl, by show (if told &&& 4 = 0 then 0 else zH σ g) < 600; omega, by show (if told &&& 8 = 0 then 0 else zH σ q) < 600; omega, by show gR σ 24 < 600; omega, h.2.2.2.2.1, hc.1.2⟩, fun z => if_pos z, fun z => if_pos z⟩ ⟨h24, hGlt, hSlt⟩), rfl⟩
  · exact ⟨h, rfl⟩
theorem W_put (h : zWf σ) (r : Int32) (k : Int64) : zWf (S_put σ r k).2 ∧ gn (S_put σ r k).2 = gn σ := by
  unfold S_put
  split
  · rename_i hc
    have hw := h.2.1
    have hx := h.at (o := zH σ r) (by have := hc.1; omega) (h.root r)
    have h24 := h.2.2.1 24 (by decide)
    split
    · refine ⟨?_, rfl⟩
      cases hz : zLu σ k 600 (zH σ r) with
      | none => exact h.rs zWv0 h.1
      | some p =>
        obtain ⟨w1, w2, w3⟩ := zLu_wf h k 600 (zH σ r) p (h.root r) hz
        rw [Option.getD_some]
        by_cases h0 : kS p = 0
        · show zWf (zRs σ (if kS p = 0 then 0 else 5) 0 (kS p))
          rw [if_pos h0, h0]; exact h.rs zWv0 h.1
        · show zWf (zRs σ (if kS p = 0 then 0 else 5) 0 (kS p))
          rw [if_neg h0]; exact h.rs ⟨by decide, fun _ => rfl, fun q => absurd rfl q, fun _ => h0⟩ w3
    · split
      · have dn : ∀ t on : Int32, zTd t → on &&& t &&& 50 = 50 &&& t &&& 50 → zDn (zPd σ t) t on (gPK σ) (zBt (gPK σ) (gPN σ) (gR σ 24)) 0 := by
          intro t on hT hon
          exact ⟨⟨rfl, hon.symm, rfl, rfl, (by show (0 : Int32) / 4200 = nI 0; decide), (by show (0 : Int32) - 0 / 4200 * 4200 = nI 0; decide), (by show (0 : Nat) < 600; omega), (by show (0 : Nat) < 600; omega), (by show gR σ 24 < 600; omega), h.2.2.2.2.1, hT⟩, fun _ => rfl, fun _ => rfl⟩
        refine ⟨zWf.rs (h.so ?_) zWv0 h.1, rfl⟩
        unfold zPo
        split
        · exact hx.dp hc.2 (dn 1 0 (by decide) (by decide)) ⟨h24, h.1, h.1⟩
        · exact hx.dp hc.2 (dn 51 50 (by decide) (by decide)) ⟨h24, h.1, h.1⟩
      · exact ⟨h.rs zWv0 h.1, rfl⟩
  · exact ⟨h, rfl⟩
end ZLW
/-! what one side does leaves the other -/
def zKN (s t : zSt) : Prop := (∀ k, 13 ≤ k → gI t k = gI s k) ∧ (∀ k, 3 ≤ k → gJ t k = gJ s k) ∧ (∀ k, 1 ≤ k → gA t k = gA s k) ∧ gB t 1 = gB s 1 ∧ gB t 2 = gB s 2
theorem zKM.n {s t : zSt} (h : zKM s t) : zKN s t := ⟨h.1, h.2.1, h.2.2.1, h.2.2.2 1 (by decide), h.2.2.2 2 (by decide)⟩
theorem zKN.out {s t : zSt} (h : zKN s t) (f : Nat → Int64) : zKN s (sB t 3 f) := ⟨h.1, h.2.1, h.2.2.1, by rw [gB_sB, if_neg (by decide)]; exact h.2.2.2.1, by rw [gB_sB, if_neg (by decide)]; exact h.2.2.2.2⟩
theorem zMs.kn {σ : zSg} {md : Nat} {s t : zSt} (h : zMs σ md s) (hk : zKN s t) : zMs σ md t := by
  obtain ⟨ρ, ow, od, nr, ⟨a1, a2, a3, a4, a5⟩, b, c, d, ⟨e1, e2, e3, e4⟩, f, g⟩ := h
  obtain ⟨hI, hJ, hA, hB1, hB2⟩ := hk
  refine ⟨ρ, ow, od, nr, ⟨(hI _ (by decide)).trans a1, (hI _ (by decide)).trans a2, (hI _ (by decide)).trans a3, a4, a5⟩, fun o h1 h2 => ?_, fun o h1 => ?_, fun i hi => ?_, ⟨(hI _ (by decide)).trans e1, (hJ _ (by decide)).trans e2, (hI _ (by decide)).trans e3, (hJ _ (by decide)).trans e4⟩, fun i hi => ?_, fun o h1 h2 => ?_⟩
  · rw [hA 2 (by decide), hA 3 (by decide), hA 4 (by decide)]; exact b o h1 h2
  · rw [hA 4 (by decide)]; exact c o h1
  · rw [hA 1 (by decide)]; exact d i hi
  · rw [hA 5 (by decide), hA 6 (by decide)]; exact f i hi
  · obtain ⟨g1, g2, g3, g4⟩ := g o h1 h2
    refine ⟨zRw_kept hB1 hB2 (hA 7 (by decide)) (hA 8 (by decide)) (hA 9 (by decide)) (hA 10 (by decide)) _ _ g1, g2, g3, ?_⟩
    rw [hB1]; exact g4
def zKD (s t : zSt) : Prop := (∀ k, k < 13 → gI t k = gI s k) ∧ (∀ k, k < 3 → gJ t k = gJ s k) ∧ gA t 0 = gA s 0 ∧ gB t 0 = gB s 0 ∧ gN t = gN s ∧ gE t = gE s
theorem zKC.d {s t : zSt} (h : zKC s t) : zKD s t := ⟨h.1, h.2.1, h.2.2.1, h.2.2.2.1, h.2.2.2.2.2.1, h.2.2.2.2.2.2⟩
theorem zKD.out (s : zSt) (f : Nat → Int64) : zKD s (sB s 3 f) := ⟨fun _ _ => rfl, fun _ _ => rfl, rfl, by rw [gB_sB, if_neg (by decide)], rfl, rfl⟩
theorem zXs.kd {σ : zSg} {mk rc rl : Nat} {s t : zSt} (h : zXs σ mk rc rl s) (hk : zKD s t) : zXs σ mk rc rl t := by
  obtain ⟨lv, β, π, nb, FL, ⟨h1, h2⟩, h3, h4⟩ := h
  obtain ⟨hI, hJ, hA, hB, hN, hE⟩ := hk
  refine ⟨lv, β, π, nb, FL, ⟨h1.other hB (fun k _ hk => hI k (by omega)) hN hA rfl rfl, ⟨(hI 0 (by decide)).trans h2.1, (hJ 0 (by decide)).trans h2.2.1, (hI 1 (by decide)).trans h2.2.2.1, (hJ 1 (by decide)).trans h2.2.2.2⟩⟩, ?_, ?_⟩
  · rw [hE]; exact h3
  · rw [hE]; exact h4
/-! the law's own calls of the store -/
section ZLC
variable {α : Type} {F : Option ((α ⊕ Nat) × zSt)} {S : (α ⊕ Nat) × zSg} {mk rc rl : Nat} {s : zSt}
/-- the answer of a call of the store as the law takes it -/
def zLx (A : Option (Int32 × zSt)) (cd : Int32) (σ : zSg) (mk rc rl : Nat) (s : zSt) (P : Int64 → Prop) : Prop := ∃ t, A = some (cd, t) ∧ zXs σ mk (rc + 6) (rl + 1) t ∧ zKN s t ∧ P (gB t 3 0)
theorem L_void (h : zXo F S mk rc rl s) (hS : ∀ x, S.1 = .inr x → x = 0) : zLx (zc F (fun v1 s2 => some ((0 : Int32), s2)) (fun x3 s2 => (if x3 = 0 then some ((1 : Int32), s2) else none))) (zTh S) S.2 mk rc rl s (fun _ => True) := by
  obtain ⟨t, h1, h2, h3⟩ := h
  rw [h1]
  unfold zTh
  cases hs : S.1 with
  | inl v => exact ⟨t, rfl, h2, h3.n, trivial⟩
  | inr x =>
    have := hS x hs
    subst this
    exact ⟨t, rfl, h2, h3.n, trivial⟩
theorem L_val (h : zXo F S mk rc rl s) (hS : ∀ x, S.1 = .inr x → x = 0) (w : α → Int64) : zLx (zc F (fun v1 s2 => (if zin (0 : Int32) 1 then some ((0 : Int32), (sB s2 3 (vp_updL (gB s2 3) ((0 : Int32)).toNatClampNeg (w v1)))) else none)) (fun x3 s2 => (if x3 = 0 then some ((1 : Int32), s2) else none))) (zTh S) S.2 mk rc rl s (fun b => ∀ v, S.1 = .inl v → b = w v) := by
  obtain ⟨t, h1, h2, h3⟩ := h
  rw [h1]
  unfold zTh
  cases hs : S.1 with
  | inl v =>
    rw [zc_inl, if_pos (show zin (0 : Int32) 1 by decide)]
    refine ⟨_, rfl, h2.kd (zKD.out t _), h3.n.out _, fun v2 hv => ?_⟩
    rw [gB_sB, if_pos rfl, ← Sum.inl.inj hv]
    rfl
  | inr x =>
    have := hS x hs
    subst this
    exact ⟨t, rfl, h2, h3.n, fun v hv => by cases hv⟩
theorem L_bool {F : Option ((Int32 ⊕ Nat) × zSt)} {S : (Int32 ⊕ Nat) × zSg} (h : zXo F S mk rc rl s) (hS : ∀ x, S.1 = .inr x → x = 0) : zLx (zc F (fun v1 s2 => (if v1 = 0 then (if zin (0 : Int32) 1 then some ((0 : Int32), (sB s2 3 (vp_updL (gB s2 3) ((0 : Int32)).toNatClampNeg 0))) else none) else (if zin (0 : Int32) 1 then some ((0 : Int32), (sB s2 3 (vp_updL (gB s2 3) ((0 : Int32)).toNatClampNeg 1))) else none))) (fun x3 s2 => (if x3 = 0 then some ((1 : Int32), s2) else none))) (zTh S) S.2 mk rc rl s (fun b => ∀ v, S.1 = .inl v → b = if v = 0 then 0 else 1) := by
  have e : (fun (v1 : Int32) (s2 : zSt) => (if v1 = 0 then (if zin (0 : Int32) 1 then some ((0 : Int32), (sB s2 3 (vp_updL (gB s2 3) ((0 : Int32)).toNatClampNeg 0))) else none) else (if zin (0 : Int32) 1 then some ((0 : Int32), (sB s2 3 (vp_updL (gB s2 3) ((0 : Int32)).toNatClampNeg 1))) else none))) = (fun v1 s2 => (if zin (0 : Int32) 1 then some ((0 : Int32), (sB s2 3 (vp_updL (gB s2 3) ((0 : Int32)).toNatClampNeg (if v1 = 0 then 0 else 1)))) else none)) := by
    funext v1 s2
    by_cases hv : v1 = 0
    · rw [if_pos hv, if_pos hv]
    · rw [if_neg hv, if_neg hv]
  rw [e]
  exact L_val h hS _
end ZLC

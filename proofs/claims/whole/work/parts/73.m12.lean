/-! the model: the highest index, the cut -/
section ZMC
variable {σ : zSg} {ρ : Nat → List Nat} {ow od : Nat → Nat} {nr md : Nat} {s t : zSt}
theorem zMo.own_eq' (h : zMo σ ρ ow od nr md s) (hw : gn σ ≤ 600) {i o : Nat} (hi : i < nr) (h1 : 1 ≤ o) (h2 : o < gn σ) : gA s 5 i = nI o ↔ i ∈ ρ o := by
  obtain ⟨a1, a2, -⟩ := h.2.2.2.2.2.1 i hi
  rw [a1, (h.obj h1 h2).2.2.1 i]
  exact ⟨fun q => ⟨hi, qI_inj (by omega) (by omega) q⟩, fun q => by rw [q.2]⟩
def zHi (s : zSt) (l : List Nat) (nr : Nat) (asked : Int64) (j : Nat) (v : Int32) : Prop := (v = -1 ∧ ∀ i, i < j → i ∈ l → gB s 1 i < asked) ∨ ∃ b, v = nI b ∧ b < nr ∧ b ∈ l ∧ asked ≤ gB s 1 b ∧ ∀ i, i < j → i ∈ l → gB s 1 i ≤ gB s 1 b
theorem z_lc' (a b : Int64) : lg_cmp a b ≤ 0 ↔ a ≤ b := by
  rw [← Int32.not_lt, lg_cmp_gt, Int64.not_lt]
theorem m_high6 (h : zMo σ ρ ow od nr md s) (hw : gn σ ≤ 600) {o : Nat} (h1 : 1 ≤ o) (h2 : o < gn σ) (asked : Int64) : ∀ (d j n : Nat) (v : Int32), d + j = nr → d < n → zHi s (ρ o) nr asked j v → ∃ v2, F_R_highest_6 n (nI o) asked v (nI j) s = some (v2, s) ∧ zHi s (ρ o) nr asked nr v2 := by
  obtain ⟨a1, a2, a3, a4, a5⟩ := h.1
  intro d
  induction d with
  | zero =>
    intro j n v hd hn hv
    obtain ⟨m, rfl⟩ : ∃ m, n = m + 1 := ⟨n - 1, by omega⟩
    have hj : j = nr := by omega
    subst hj
    rw [F_R_highest_6, a2, if_pos ((qI_le (by omega) (by omega)).mpr (by omega))]
    exact ⟨v, rfl, hv⟩
  | succ d ih =>
    intro j n v hd hn hv
    obtain ⟨m, rfl⟩ : ∃ m, n = m + 1 := ⟨n - 1, by omega⟩
    have hz : zin (nI j) 8400 := zin_nI' (by omega) (by decide)
    have c5 : gA s 5 (nI j).toNatClampNeg = gA s 5 j := by rw [nI_clamp (by omega)]
    have c1 : gB s 1 (nI j).toNatClampNeg = gB s 1 j := by rw [nI_clamp (by omega)]
    rw [F_R_highest_6, a2, if_neg (fun q => by have := (qI_le (a := nr) (b := j) (by omega) (by omega)).mp q; omega), if_pos hz, c5, if_pos hz, c1, if_pos hz]
    unfold F_R_highest_61 F_R_highest_65
    rw [← nI_succ]
    have keep : (j ∈ ρ o → gB s 1 j < asked ∨ ∃ b, v = nI b ∧ b < 600 ∧ gB s 1 j ≤ gB s 1 b) → zHi s (ρ o) nr asked (j + 1) v := by
      intro hj
      rcases hv with ⟨e, hv⟩ | ⟨b, e, b1, b2, b3, hv⟩
      · refine Or.inl ⟨e, fun i hi hm => ?_⟩
        by_cases hij : i = j
        · subst hij
          rcases hj hm with q | ⟨b, q, q2, -⟩
          · exact q
          · rw [e] at q
            exact absurd (qI_nonneg (a := b) (by omega)) (by rw [← q]; decide)
        · exact hv i (by omega) hm
      · refine Or.inr ⟨b, e, b1, b2, b3, fun i hi hm => ?_⟩
        by_cases hij : i = j
        · subst hij
          rcases hj hm with q | ⟨c, q, q2, q3⟩
          · exact Int64.le_trans (Int64.le_of_lt q) b3
          · rw [e] at q
            rw [qI_inj (by omega) (by omega) q]; exact q3
        · exact hv i (by omega) hm
    by_cases ho : gA s 5 j = nI o
    · have hm := (h.own_eq' hw (by omega) h1 h2).mp ho
      rw [if_pos ho]
      by_cases hk : gB s 1 j < asked
      · rw [if_pos ((lg_cmp_lt _ _).mpr hk)]
        exact ih (j + 1) m v (by omega) (by omega) (keep (fun _ => Or.inl hk))
      · rw [if_neg (fun q => hk ((lg_cmp_lt _ _).mp q))]
        have hk' := Int64.not_lt.mp hk
        rcases hv with ⟨e, hv⟩ | ⟨b, e, b1, b2, b3, hv⟩
        · rw [if_pos (by rw [e]; decide)]
          refine ih (j + 1) m (nI j) (by omega) (by omega) (Or.inr ⟨j, rfl, by omega, hm, hk', fun i hi hi2 => ?_⟩)
          by_cases hij : i = j
          · rw [hij]; exact Int64.le_refl _
          · exact Int64.le_trans (Int64.le_of_lt (hv i (by omega) hi2)) hk'
        · have cb : gB s 1 v.toNatClampNeg = gB s 1 b := by rw [e, nI_clamp (by omega)]
          rw [if_neg (by rw [e]; exact qI_notneg (by omega)), if_pos (by rw [e]; exact zin_nI' (by omega) (by decide)), cb]
          by_cases hb : gB s 1 j ≤ gB s 1 b
          · rw [if_pos ((z_lc' _ _).mpr hb)]
            exact ih (j + 1) m v (by omega) (by omega) (keep (fun _ => Or.inr ⟨b, e, by omega, hb⟩))
          · rw [if_neg (fun q => hb ((z_lc' _ _).mp q))]
            refine ih (j + 1) m (nI j) (by omega) (by omega) (Or.inr ⟨j, rfl, by omega, hm, hk', fun i hi hi2 => ?_⟩)
            by_cases hij : i = j
            · rw [hij]; exact Int64.le_refl _
            · exact Int64.le_trans (hv i (by omega) hi2) (Int64.le_of_lt (Int64.not_le.mp hb))
    · rw [if_neg ho]
      exact ih (j + 1) m v (by omega) (by omega) (keep (fun q => absurd ((h.own_eq' hw (by omega) h1 h2).mpr q) ho))
theorem m_highest (h : zMo σ ρ ow od nr md s) (hw : gn σ ≤ 600) {o : Nat} (h1 : 1 ≤ o) (h2 : o < gn σ) (asked : Int64) : ∃ v, F_R_highest (nI o) asked s = some (v, s) ∧ ((v = -1 ∧ ∀ i ∈ ρ o, gB s 1 i < asked) ∨ ∃ b, v = nI b ∧ b < nr ∧ b ∈ ρ o ∧ asked ≤ gB s 1 b ∧ ∀ i ∈ ρ o, gB s 1 i ≤ gB s 1 b) := by
  obtain ⟨v, e, hv⟩ := m_high6 h hw h1 h2 asked nr 0 zFuel (-1) (by omega) (by have := h.1.2.2.2; rw [zFuel_eq]; omega) (Or.inl ⟨rfl, fun i hi => by omega⟩)
  refine ⟨v, e, ?_⟩
  have hm := (h.obj h1 h2).2.2.1
  rcases hv with ⟨e, hv⟩ | ⟨b, e, b1, b2, b3, hv⟩
  · exact Or.inl ⟨e, fun i hi => hv i ((hm i).mp hi).1 hi⟩
  · exact Or.inr ⟨b, e, b1, b2, b3, fun i hi => hv i ((hm i).mp hi).1 hi⟩
end ZMC
/-! the spec's cut -/
theorem zCt_N (asked left : Int64) (kept pend : List zPr) : ∀ N : List zPr, (∀ p ∈ N, kK p < 0) → zCt asked left kept pend N = (left, kept ++ N) := by
  intro N hN
  cases N with
  | nil => show (left, kept) = _; rw [List.append_nil]
  | cons p r => show (if kK p < 0 then (left, kept ++ p :: r) else _) = _; rw [if_pos (hN p List.mem_cons_self)]
theorem zCt_A (asked : Int64) {p : zPr} (hp0 : 0 ≤ kK p) (hp : ¬ (kK p < asked ∨ kF p &&& 32 = 0)) {N : List zPr} (hN : ∀ p ∈ N, kK p < 0) : ∀ (a : List zPr) (left : Int64) (kept pend : List zPr), (∀ p ∈ a, 0 ≤ kK p) → zCt asked left kept pend (a ++ p :: N) = zCt asked left kept pend (a ++ N) := by
  intro a
  induction a with
  | nil =>
    intro left kept pend _
    show (if kK p < 0 then _ else if kK p < asked ∨ kF p &&& 32 = 0 then _ else zCt asked left kept (pend ++ [p]) N) = zCt asked left kept pend N
    rw [if_neg (Int64.not_lt.mpr hp0), if_neg hp, zCt_N _ _ _ _ _ hN, zCt_N _ _ _ _ _ hN]
  | cons c a ih =>
    intro left kept pend ha
    have hc := ha c List.mem_cons_self
    have ha' : ∀ p ∈ a, 0 ≤ kK p := fun q hq => ha q (List.mem_cons_of_mem _ hq)
    show (if kK c < 0 then (left, kept ++ c :: (a ++ p :: N)) else if kK c < asked ∨ kF c &&& 32 = 0 then zCt asked (zMx asked (kK c + 1)) (kept ++ (pend ++ [c])) [] (a ++ p :: N) else zCt asked left kept (pend ++ [c]) (a ++ p :: N)) = (if kK c < 0 then (left, kept ++ c :: (a ++ N)) else if kK c < asked ∨ kF c &&& 32 = 0 then zCt asked (zMx asked (kK c + 1)) (kept ++ (pend ++ [c])) [] (a ++ N) else zCt asked left kept (pend ++ [c]) (a ++ N))
    rw [if_neg (Int64.not_lt.mpr hc), if_neg (Int64.not_lt.mpr hc), ih _ _ _ ha', ih _ _ _ ha']
theorem zCt_B (asked : Int64) {p : zPr} (hp0 : 0 ≤ kK p) (hp : kK p < asked ∨ kF p &&& 32 = 0) {N : List zPr} (hN : ∀ p ∈ N, kK p < 0) : ∀ (a : List zPr) (left : Int64) (kept pend : List zPr), (∀ p ∈ a, 0 ≤ kK p) → zCt asked left kept pend (a ++ p :: N) = (zMx asked (kK p + 1), kept ++ (pend ++ (a ++ p :: N))) := by
  intro a
  induction a with
  | nil =>
    intro left kept pend _
    show (if kK p < 0 then _ else if kK p < asked ∨ kF p &&& 32 = 0 then zCt asked (zMx asked (kK p + 1)) (kept ++ (pend ++ [p])) [] N else _) = _
    rw [if_neg (Int64.not_lt.mpr hp0), if_pos hp, zCt_N _ _ _ _ _ hN]
    simp
  | cons c a ih =>
    intro left kept pend ha
    have hc := ha c List.mem_cons_self
    have ha' : ∀ p ∈ a, 0 ≤ kK p := fun q hq => ha q (List.mem_cons_of_mem _ hq)
    show (if kK c < 0 then (left, kept ++ c :: (a ++ p :: N)) else if kK c < asked ∨ kF c &&& 32 = 0 then zCt asked (zMx asked (kK c + 1)) (kept ++ (pend ++ [c])) [] (a ++ p :: N) else zCt asked left kept (pend ++ [c]) (a ++ p :: N)) = _
    rw [if_neg (Int64.not_lt.mpr hc), ih _ _ _ ha', ih _ _ _ ha']
    split <;> simp
/-- a list of properties: indices, then names -/
theorem z_split : ∀ l : List zPr, l.Pairwise (fun p q => zBf (kK p) (kK q)) → ∃ a N, l = a ++ N ∧ (∀ p ∈ a, 0 ≤ kK p) ∧ ∀ p ∈ N, kK p < 0 := by
  intro l
  induction l with
  | nil => intro _; exact ⟨[], [], rfl, fun p hp => (by cases hp), fun p hp => (by cases hp)⟩
  | cons p r ih =>
    intro h
    rw [List.pairwise_cons] at h
    by_cases h0 : 0 ≤ kK p
    · obtain ⟨a, N, e, h1, h2⟩ := ih h.2
      refine ⟨p :: a, N, by rw [e]; rfl, fun q hq => ?_, h2⟩
      rcases List.mem_cons.mp hq with e | e
      · rw [e]; exact h0
      · exact h1 q e
    · refine ⟨[], p :: r, rfl, fun p hp => (by cases hp), fun q hq => ?_⟩
      rcases List.mem_cons.mp hq with e | e
      · rw [e]; exact Int64.not_le.mp h0
      · exact Int64.not_le.mp (fun z => h0 ((h.1 q e).2.1 z))
theorem zRx_rm {k k2 : Int64} (hk : k2 ≠ k) : ∀ (is : List Nat) (ps : List zPr) (i : Nat) (s : zSt), zRw s is ps → is.Nodup → zRx k is ps = some i → zRx k2 (is.erase i) (zRm k ps) = zRx k2 is ps := by
  intro is
  induction is with
  | nil => intro ps i s _ _ hx; cases ps <;> cases hx
  | cons a is ih => intro ps i s h hn hx; cases ps with
    | nil => cases hx
    | cons p r =>
      rw [List.nodup_cons] at hn
      have hx : (if kK p = k then some a else zRx k is r) = some i := hx
      show zRx k2 ((a :: is).erase i) (if kK p = k then r else p :: zRm k r) = (if kK p = k2 then some a else zRx k2 is r)
      by_cases h2 : kK p = k
      · rw [if_pos h2] at hx
        have e := Option.some.inj hx
        rw [if_pos h2, e, List.erase_cons_head, if_neg (fun z => hk (z.symm.trans h2))]
      · rw [if_neg h2] at hx
        have hm : i ∈ is := by
          rcases zRx_at (k := k) h.2 with ⟨-, w⟩ | ⟨p2, i2, -, w, w2, -⟩
          · rw [hx] at w; cases w
          · rw [hx] at w; rw [Option.some.inj w]; exact w2
        have hne : a ≠ i := fun e => hn.1 (e ▸ hm)
        rw [if_neg h2, List.erase_cons_tail (by simpa using hne)]
        show (if kK p = k2 then some a else zRx k2 (is.erase i) (zRm k r)) = _
        rw [ih r i s h.2 hn.2 hx]
theorem zG_rm {k k2 : Int64} (hk : k2 ≠ k) : ∀ ps : List zPr, zG k2 (zRm k ps) = zG k2 ps := by
  intro ps
  induction ps with
  | nil => rfl
  | cons p r ih =>
    show zG k2 (if kK p = k then r else p :: zRm k r) = (if kK p = k2 then some p else zG k2 r)
    by_cases h : kK p = k
    · rw [if_pos h, if_neg (fun z => hk (z.symm.trans h))]
    · rw [if_neg h]
      show (if kK p = k2 then some p else zG k2 (zRm k r)) = _
      rw [ih]
theorem zG_mem {k : Int64} : ∀ {ps : List zPr} {p : zPr}, ps.Pairwise (fun a b => kK a ≠ kK b) → p ∈ ps → kK p = k → zG k ps = some p := by
  intro ps
  induction ps with
  | nil => intro p _ hp; cases hp
  | cons a r ih =>
    intro p hd hp hk
    rw [List.pairwise_cons] at hd
    show (if kK a = k then some a else zG k r) = some p
    rcases List.mem_cons.mp hp with e | e
    · rw [← e, if_pos hk]
    · rw [if_neg (fun z => hd.1 p e (z.trans hk.symm)), ih hd.2 e hk]
theorem z_k1 {k : Int64} (h0 : 0 ≤ k) (h1 : k ≤ 4294967294) : ∃ m, m < 2 ^ 32 - 1 ∧ k = nL m ∧ k + 1 = nL (m + 1) := by
  have a1 : ¬ 2 ^ 63 ≤ uN k := fun q => absurd ((nL_lt0 k).mpr q) (Int64.not_lt.mpr h0)
  have h1' := h1
  rw [← nL_uN k] at h1'
  have a2 : uN k ≤ 4294967294 := (w_le (a := uN k) (b := 4294967294) (by omega) (by decide)).mp h1'
  refine ⟨uN k, by omega, (nL_uN k).symm, ?_⟩
  have e : nL (uN k) + 1 = nL (uN k + 1) := (Int64.ofNat_add (uN k) 1).symm
  rw [← e, nL_uN]
section ZMD
variable {md : Nat} {o : Nat} {asked : Int64} {x9 x10 : Int32} {i9 : Nat}
theorem m_cut (h1 : 1 ≤ o) (hask : 0 ≤ asked) : ∀ (n : Nat) (σ : zSg) (ρ : Nat → List Nat) (ow od : Nat → Nat) (nr fuel : Nat) (s : zSt) (a N : List zPr) (v0 : Int32), a.length = n → n < fuel → zMo σ ρ ow od nr md s → gn σ ≤ 600 → o < gn σ → oL (gO σ o) = a ++ N → (a ++ N).Pairwise (fun p q => zBf (kK p) (kK q)) → (∀ p ∈ a, 0 ≤ kK p ∧ zWp p) → (∀ p ∈ N, kK p < 0) → zRx (-1) (ρ o) (oL (gO σ o)) = some i9 → F_R_highest (nI o) asked s = some (v0, s) →
    ∃ v t ρ2 ow2 od2 left l2, F_R_defineLength_146 fuel (nI o) asked x9 x10 v0 s = F_R_defineLength_182 x9 x10 v t ∧ zCt asked asked [] [] (a ++ N) = (left, l2) ∧ zMo (zSO σ o (zSL (gO σ o) l2)) ρ2 ow2 od2 nr md t ∧ ((v = -1 ∧ left = asked) ∨ ∃ b, v = nI b ∧ b < 600 ∧ left = gB t 1 b + 1 ∧ left ≠ asked ∧ 0 ≤ gB t 1 b ∧ gB t 1 b ≤ 4294967294) ∧ zRx (-1) (ρ2 o) l2 = some i9 ∧ zG (-1) l2 = zG (-1) (a ++ N) ∧ zKC s t ∧ gI t 13 = gI s 13 := by
  intro n
  induction n with
  | zero =>
    intro σ ρ ow od nr fuel s a N v0 hn hf h hw h2 hl hp ha hN hx hh
    obtain ⟨m, rfl⟩ : ∃ m, fuel = m + 1 := ⟨fuel - 1, by omega⟩
    have ha0 : a = [] := List.eq_nil_of_length_eq_zero hn
    subst ha0
    obtain ⟨v, e, hv⟩ := m_highest h hw h1 h2 asked
    rw [hh] at e
    have ev : v0 = v := congrArg Prod.fst (Option.some.inj e)
    subst ev
    have hkeys := (zRw_keys _ _ (h.obj h1 h2).1).1
    rw [hl] at hkeys
    have hv1 : v0 = -1 := by
      rcases hv with q | ⟨b, e, b1, b2, b3, -⟩
      · exact q.1
      · exfalso
        have : gB s 1 b ∈ (ρ o).map (gB s 1) := List.mem_map_of_mem b2
        rw [hkeys] at this
        obtain ⟨p, hp1, hp2⟩ := List.mem_map.mp this
        have := hN p (by simpa using hp1)
        rw [hp2] at this
        exact absurd (Int64.le_trans hask b3) (Int64.not_le.mpr this)
    rw [F_R_defineLength_146, if_pos (by rw [hv1]; decide)]
    refine ⟨v0, s, ρ, ow, od, asked, N, rfl, ?_, ?_, Or.inl ⟨hv1, rfl⟩, ?_, rfl, zKC.rf s, rfl⟩
    · rw [List.nil_append, zCt_N _ _ _ _ _ hN, List.nil_append]
    · have : zSL (gO σ o) N = gO σ o := by
        rw [show N = oL (gO σ o) from hl.symm]; rfl
      rw [this, zSO_self]; exact h
    · rw [hl] at hx; exact hx
  | succ n ih =>
    intro σ ρ ow od nr fuel s a N v0 hn hf h hw h2 hl hp ha hN hx hh
    obtain ⟨m, rfl⟩ : ∃ m, fuel = m + 1 := ⟨fuel - 1, by omega⟩
    have hnr := h.1.2.2.2
    obtain ⟨a', p, rfl⟩ : ∃ a' p, a = a' ++ [p] := by
      refine ⟨a.dropLast, a.getLast (fun e => by rw [e] at hn; cases hn), (List.dropLast_concat_getLast _).symm⟩
    have hl' : a' ++ [p] ++ N = a' ++ p :: N := by rw [List.append_assoc]; rfl
    rw [hl'] at hl hp ⊢
    have hp0 := ha p (List.mem_append_right _ (List.mem_singleton.mpr rfl))
    have ha' : ∀ q ∈ a', 0 ≤ kK q ∧ zWp q := fun q hq => ha q (List.mem_append_left _ hq)
    have ha0 : ∀ q ∈ a', 0 ≤ kK q := fun q hq => (ha' q hq).1
    have hne := zBf_ne hp
    obtain ⟨g1, g2, g3, g4⟩ := h.obj h1 h2
    have hkeys := (zRw_keys _ _ g1).1
    rw [hl] at hkeys
    have hmax : ∀ q ∈ a' ++ p :: N, kK q ≤ kK p := by
      intro q hq
      rw [List.pairwise_append] at hp
      rcases List.mem_append.mp hq with e | e
      · exact Int64.le_of_lt ((hp.2.2 q e p List.mem_cons_self).1 (ha0 q e) hp0.1)
      · rcases List.mem_cons.mp e with e | e
        · rw [e]; exact Int64.le_refl _
        · exact Int64.le_trans (Int64.le_of_lt (hN q e)) hp0.1
    have hpm : p ∈ a' ++ p :: N := List.mem_append_right _ List.mem_cons_self
    have hgp : zG (kK p) (oL (gO σ o)) = some p := by rw [hl]; exact zG_mem hne hpm rfl
    obtain ⟨w, hw1, hw2, hw3⟩ : ∃ w, zRx (kK p) (ρ o) (oL (gO σ o)) = some w ∧ w ∈ ρ o ∧ zR1 s w p := by
      rcases zRx_at (k := kK p) g1 with ⟨q, -⟩ | ⟨p2, i, q1, q2, q3, q4, q5, q6⟩
      · rw [hgp] at q; cases q
      · rw [hgp] at q1
        rw [← Option.some.inj q1] at q5
        exact ⟨i, q2, q3, q5⟩
    obtain ⟨v, e, hv⟩ := m_highest h hw h1 h2 asked
    rw [hh] at e
    have ev : v0 = v := congrArg Prod.fst (Option.some.inj e)
    subst ev
    have hlt : ∀ b ∈ ρ o, gB s 1 b ≤ kK p := by
      intro b hb
      have : gB s 1 b ∈ (ρ o).map (gB s 1) := List.mem_map_of_mem hb
      rw [hkeys] at this
      obtain ⟨q, hq1, hq2⟩ := List.mem_map.mp this
      rw [← hq2]; exact hmax q hq1
    rw [F_R_defineLength_146]
    have stay : ∀ left, zCt asked asked [] [] (a' ++ p :: N) = (left, a' ++ p :: N) → zMo (zSO σ o (zSL (gO σ o) (a' ++ p :: N))) ρ ow od nr md s := by
      intro _ _
      have : zSL (gO σ o) (a' ++ p :: N) = gO σ o := by
        rw [show a' ++ p :: N = oL (gO σ o) from hl.symm]; rfl
      rw [this, zSO_self]; exact h
    obtain ⟨km, k1, k2, k3⟩ := z_k1 hp0.1 hp0.2.1.2
    rcases hv with ⟨ev, hv⟩ | ⟨b, ev, b1, b2, b3, hv⟩
    · have hplt : kK p < asked := by rw [← hw3.1]; exact hv w hw2
      rw [if_pos (by rw [ev]; decide)]
      have hz : zCt asked asked [] [] (a' ++ p :: N) = (asked, a' ++ p :: N) := by
        rw [zCt_B asked hp0.1 (Or.inl hplt) hN a' _ _ _ ha0, List.nil_append, List.nil_append]
        have : zMx asked (kK p + 1) = asked := by
          unfold zMx
          rw [if_neg]
          rw [Int64.not_lt]
          rw [k3]
          rw [k2] at hplt
          have hau : ¬ 2 ^ 63 ≤ uN asked := fun q => absurd ((nL_lt0 asked).mpr q) (Int64.not_lt.mpr hask)
          rw [← nL_uN asked] at hplt ⊢
          rw [w_lt (by omega) (by omega)] at hplt
          rw [w_le (by omega) (by omega)]
          omega
        rw [this]
      exact ⟨v0, s, ρ, ow, od, asked, a' ++ p :: N, rfl, hz, stay asked hz, Or.inl ⟨ev, rfl⟩, by rw [hl] at hx; exact hx, rfl, zKC.rf s, rfl⟩
    · have hkb : gB s 1 b = kK p := Int64.le_antisymm (hlt b b2) (by rw [← hw3.1]; exact hv w hw2)
      have hbw : b = w := by
        have := zRx_of g1 (by rw [hl]; exact hne) b b2 hkb
        rw [this] at hw1
        exact Option.some.inj hw1
      subst hbw
      have hask2 : asked ≤ kK p := by rw [← hkb]; exact b3
      have hbi : b < 8400 := by omega
      rw [if_neg (by rw [ev]; exact qI_notneg (by omega)), ev, m_has hbi hw3, zb_some]
      by_cases h32 : kF p &&& 32 = 0
      · rw [if_pos (bI_eq0.mpr (fun z => (hp0.2.bit (by simp)).mp z h32))]
        have hlt3 : asked < kK p + 1 := by
          rw [k3]
          rw [k2] at hask2
          have hau : ¬ 2 ^ 63 ≤ uN asked := fun q => absurd ((nL_lt0 asked).mpr q) (Int64.not_lt.mpr hask)
          rw [← nL_uN asked] at hask2 ⊢
          rw [w_le (by omega) (by omega)] at hask2
          rw [w_lt (by omega) (by omega)]
          omega
        have hz : zCt asked asked [] [] (a' ++ p :: N) = (kK p + 1, a' ++ p :: N) := by
          rw [zCt_B asked hp0.1 (Or.inr h32) hN a' _ _ _ ha0, List.nil_append, List.nil_append]
          have : zMx asked (kK p + 1) = kK p + 1 := if_pos hlt3
          rw [this]
        refine ⟨nI b, s, ρ, ow, od, kK p + 1, a' ++ p :: N, rfl, hz, stay _ hz, Or.inr ⟨b, rfl, by omega, by rw [hkb], fun e => ?_, by rw [hkb]; exact hp0.1, by rw [hkb]; exact hp0.2.1.2⟩, by rw [hl] at hx; exact hx, rfl, zKC.rf s, rfl⟩
        rw [e] at hlt3
        exact absurd hlt3 Int64.lt_irrefl
      · rw [if_neg (fun z => bI_eq0.mp z ((hp0.2.bit (by simp)).mpr h32)), if_pos (zin_nI' hbi (by decide)), nI_clamp (by omega)]
        have hrm : zRm (kK p) (oL (gO σ o)) = a' ++ N := by rw [hl]; exact zRm_split rfl hne
        have hk1 : (-1 : Int64) ≠ kK p := fun z => by have := hp0.1; rw [← z] at this; exact absurd this (by decide)
        have hd := h.drop h1 h2 b2 (l := a' ++ N) (by rw [← hrm]; exact zRw_rm _ _ _ g1 g2 hw1)
        obtain ⟨v1, e1, -⟩ := m_highest hd hw h1 h2 asked
        rw [e1, zb_some]
        have hsub : (a' ++ N).Sublist (a' ++ p :: N) := List.Sublist.append_left (List.sublist_cons_self p N) a'
        have gown : gO (zSO σ o (zSL (gO σ o) (a' ++ N))) o = zSL (gO σ o) (a' ++ N) := gO_own _ _ _
        obtain ⟨v, t, ρ2, ow2, od2, left, l2, r1, r2, r3, r4, r5, r6, r7, r8⟩ := ih _ _ _ _ nr m _ a' N v1 (by rw [List.length_append] at hn; simpa using hn) (by omega) hd hw h2 (by rw [gown]; rfl) (hp.sublist hsub) ha' hN (by
          rw [gown]
          show zRx (-1) (if o = o then (ρ o).erase b else ρ o) (a' ++ N) = some i9
          rw [if_pos rfl, ← hrm, zRx_rm hk1 _ _ _ s g1 g2 hw1]
          exact hx) e1
        refine ⟨v, t, ρ2, ow2, od2, left, l2, r1, ?_, ?_, r4, r5, ?_, (zKC.sA s (by decide) _).tr r7, r8⟩
        · rw [zCt_A asked hp0.1 (fun z => z.elim (fun z => absurd z (Int64.not_lt.mpr hask2)) h32) hN a' _ _ _ ha0]
          exact r2
        · rw [gown, zSO_SO] at r3
          exact r3
        · rw [r6, ← hrm, zG_rm hk1, hl]
end ZMD

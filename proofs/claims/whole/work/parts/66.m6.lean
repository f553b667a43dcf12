/-! the model: keys, key, locked, lock -/
def zCn (P : Nat → Prop) [DecidablePred P] : Nat → Nat
  | 0 => 0
  | n + 1 => zCn P n + (if P n then 1 else 0)
theorem zCn_le (P : Nat → Prop) [DecidablePred P] : ∀ n, zCn P n ≤ n := by
  intro n
  induction n with
  | zero => exact Nat.le_refl _
  | succ n ih => rw [zCn]; split <;> omega
theorem zCn_len (P : Nat → Prop) [DecidablePred P] : ∀ (n : Nat) (l : List Nat), l.Nodup → (∀ i, i ∈ l ↔ i < n ∧ P i) → zCn P n = l.length := by
  intro n
  induction n with
  | zero =>
    intro l _ h
    cases l with
    | nil => rfl
    | cons a l => exact absurd ((h a).mp List.mem_cons_self).1 (by omega)
  | succ n ih =>
    intro l hn h
    rw [zCn]
    by_cases hp : P n
    · have hm : n ∈ l := (h n).mpr ⟨by omega, hp⟩
      have e := ih (l.erase n) (hn.erase n) (fun i => by
        rw [hn.mem_erase_iff, h i]
        exact ⟨fun q => ⟨by have := q.1; have := q.2.1; omega, q.2.2⟩, fun q => ⟨by have := q.1; omega, by have := q.1; omega, q.2⟩⟩)
      rw [if_pos hp, e, List.length_erase_of_mem hm]
      have := List.length_pos_of_mem hm
      omega
    · rw [if_neg hp, Nat.add_zero]
      refine ih l hn (fun i => ?_)
      rw [h i]
      refine ⟨fun q => ⟨?_, q.2⟩, fun q => ⟨by have := q.1; omega, q.2⟩⟩
      have : i ≠ n := fun e => hp (e ▸ q.2)
      have := q.1
      omega
theorem zRw_keys {s : zSt} : ∀ (is : List Nat) (ps : List zPr), zRw s is ps → is.map (gB s 1) = ps.map kK ∧ is.map (gA s 7) = ps.map kF := by
  intro is
  induction is with
  | nil => intro ps hp; cases ps with
    | nil => exact ⟨rfl, rfl⟩
    | cons p ps => exact hp.elim
  | cons i is ih => intro ps hp; cases ps with
    | nil => exact hp.elim
    | cons p ps =>
      rw [List.map_cons, List.map_cons, List.map_cons, List.map_cons, (ih ps hp.2).1, (ih ps hp.2).2, hp.1.1, hp.1.2.1]
      exact ⟨rfl, rfl⟩
def zIB (s : zSt) (od : Nat → Nat) (j i : Nat) : Prop := (0 ≤ gB s 1 j ∧ 0 ≤ gB s 1 i ∧ gB s 1 j < gB s 1 i) ∨ (0 ≤ gB s 1 j ∧ gB s 1 i < 0) ∨ (gB s 1 j < 0 ∧ gB s 1 i < 0 ∧ od j < od i)
abbrev zIB' (s : zSt) (od : Nat → Nat) (j i : Nat) : Prop := (0 ≤ gB s 1 j ∧ 0 ≤ gB s 1 i ∧ gB s 1 j < gB s 1 i) ∨ (0 ≤ gB s 1 j ∧ gB s 1 i < 0) ∨ (gB s 1 j < 0 ∧ gB s 1 i < 0 ∧ od j < od i)
def zAl (P : Nat → Prop) [DecidablePred P] : Nat → Bool
  | 0 => true
  | n + 1 => zAl P n && decide (P n)
theorem zAl_iff (P : Nat → Prop) [DecidablePred P] : ∀ n, zAl P n = true ↔ ∀ i, i < n → P i := by
  intro n
  induction n with
  | zero => exact ⟨fun _ i hi => by omega, fun _ => rfl⟩
  | succ n ih =>
    rw [zAl, Bool.and_eq_true, ih, decide_eq_true_eq]
    refine ⟨fun q i hi => ?_, fun q => ⟨fun i hi => q i (by omega), q n (by omega)⟩⟩
    by_cases e : i = n
    · rw [e]; exact q.2
    · exact q.1 i (by omega)
theorem zIB_bef {s : zSt} {od : Nat → Nat} {x y : Nat} (hb : zBf (gB s 1 x) (gB s 1 y)) (ho : gB s 1 x < 0 → gB s 1 y < 0 → od x < od y) : zIB' s od x y ∧ ¬ zIB' s od y x := by
  obtain ⟨h1, h2, h3⟩ := hb
  by_cases hx : 0 ≤ gB s 1 x
  · by_cases hy : 0 ≤ gB s 1 y
    · refine ⟨Or.inl ⟨hx, hy, h1 hx hy⟩, ?_⟩
      rintro (q | q | q)
      · exact absurd (h1 hx hy) (Int64.not_lt.mpr (Int64.le_of_lt q.2.2))
      · exact absurd q.2 (Int64.not_lt.mpr hx)
      · exact absurd q.1 (Int64.not_lt.mpr hy)
    · have hy2 := Int64.not_le.mp hy
      refine ⟨Or.inr (Or.inl ⟨hx, hy2⟩), ?_⟩
      rintro (q | q | q)
      · exact hy q.1
      · exact hy q.1
      · exact absurd q.2.1 (Int64.not_lt.mpr hx)
  · have hx2 := Int64.not_le.mp hx
    have hy2 : gB s 1 y < 0 := Int64.not_le.mp (fun q => hx (h2 q))
    refine ⟨Or.inr (Or.inr ⟨hx2, hy2, ho hx2 hy2⟩), ?_⟩
    rintro (q | q | q)
    · exact hx q.2.1
    · exact absurd q.1 (Int64.not_le.mpr hy2)
    · have := ho hx2 hy2
      have := q.2.2
      omega
theorem zIB_self {s : zSt} {od : Nat → Nat} {x : Nat} : ¬ zIB' s od x x := by
  rintro (q | q | q)
  · exact absurd q.2.2 (Int64.lt_irrefl)
  · exact absurd q.2 (Int64.not_lt.mpr q.1)
  · exact absurd q.2.2 (by omega)
section ZM6
variable {σ : zSg} {ρ : Nat → List Nat} {ow od : Nat → Nat} {nr md : Nat} {s : zSt}
theorem m_count4 (h : zMo σ ρ ow od nr md s) (hW : zWf σ) {o : Nat} (h2 : o < gn σ) : ∀ (d j n : Nat), d + j = nr → d < n → F_R_count_4 n (nI o) (nI (zCn (fun i => ow i = o) j)) (nI j) s = some (nI (zCn (fun i => ow i = o) nr), s) := by
  obtain ⟨a1, a2, a3, a4, a5⟩ := h.1
  have hw := hW.2.1
  intro d
  induction d with
  | zero =>
    intro j n hd hn
    obtain ⟨m, rfl⟩ : ∃ m, n = m + 1 := ⟨n - 1, by omega⟩
    rw [F_R_count_4, a2, if_pos ((qI_le (by omega) (by omega)).mpr (by omega)), show j = nr by omega]
  | succ d ih =>
    intro j n hd hn
    obtain ⟨m, rfl⟩ : ∃ m, n = m + 1 := ⟨n - 1, by omega⟩
    have c5 : gA s 5 (nI j).toNatClampNeg = nI (ow j) := by rw [nI_clamp (by omega), (h.2.2.2.2.2.1 j (by omega)).1]
    have hl := (h.2.2.2.2.2.1 j (by omega)).2.1
    have e := ih (j + 1) m (by omega) (by omega)
    rw [F_R_count_4, a2, if_neg (fun q => by have := (qI_le (a := nr) (b := j) (by omega) (by omega)).mp q; omega), if_pos (zin_nI' (by omega) (by decide)), c5]
    unfold F_R_count_29
    rw [zCn] at e
    by_cases ho : ow j = o
    · rw [if_pos ho, nI_succ, nI_succ] at e
      rw [if_pos (by rw [ho]), e]
    · rw [if_neg ho, Nat.add_zero, nI_succ] at e
      rw [if_neg (fun q => ho (qI_inj (by omega) (by omega) q)), e]
theorem m_count (h : zMo σ ρ ow od nr md s) (hW : zWf σ) {o : Nat} (h1 : 1 ≤ o) (h2 : o < gn σ) : F_R_count (nI o) s = some (nI (oL (gO σ o)).length, s) := by
  have hobj := h.obj h1 h2
  unfold F_R_count
  have e := m_count4 h hW h2 nr 0 zFuel (by omega) (by have := h.1.2.2.2; rw [zFuel_eq]; omega)
  rw [zCn_len (fun i => ow i = o) nr (ρ o) hobj.2.1 (fun i => hobj.2.2.1 i), zRw_len _ _ hobj.1] at e
  exact e
theorem M_keys (h : zMs σ md s) (hW : zWf σ) (r : Int32) : zMp (F_R_keys r s) (zVl 0 (S_keys σ r)) (zTh (S_keys σ r)) (S_keys σ r).2 md s := by
  obtain ⟨ρ, ow, od, nr, h1⟩ := h
  unfold F_R_keys F_R_keys_26 S_keys
  rw [m_holds h1 hW, zb_some]
  by_cases hc : zH σ r ≠ 0
  · rw [m_say_t hc, zb_some, if_neg z_one, if_pos hc]
    have hv := zH_V hc
    have h2 := h1.says 0
    have ht : gI (sI s 13 0) 13 = 0 := by rw [gI_sI, if_pos rfl]
    have hk0 : zKC s (sI s 13 0) := zKC.sI s (by decide) _
    generalize sI s 13 0 = s4 at h2 ht hk0 ⊢
    rw [if_pos (zin_rt hv), h2.root hv, m_count h2 hW (by omega) (hW.root r), zb_some]
    exact ⟨s4, rfl, ht, ⟨ρ, ow, od, nr, h2⟩, hk0⟩
  · rw [m_say_f hc, zb_some, if_pos rfl, if_neg hc]
    exact m_no h1 0
theorem z_lc0 (a : Int64) : 0 ≤ lg_cmp a 0 ↔ 0 ≤ a := by
  rw [← Int32.not_lt, lg_cmp_lt, Int64.not_lt]
theorem z_lc (a b : Int64) : 0 ≤ lg_cmp a b ↔ b ≤ a := by
  rw [← Int32.not_lt, lg_cmp_lt, Int64.not_lt]
theorem m_isBefore (h : zMo σ ρ ow od nr md s) {j i : Nat} (hj : j < nr) (hi : i < nr) : F_R_isBefore (nI j) (nI i) s = some (bI (zIB' s od j i), s) := by
  have hn := h.1.2.2.2
  have zj : zin (nI j) 8400 := zin_nI' (by omega) (by decide)
  have zi : zin (nI i) 8400 := zin_nI' (by omega) (by decide)
  have cj : gB s 1 (nI j).toNatClampNeg = gB s 1 j := by rw [nI_clamp (by omega)]
  have ci : gB s 1 (nI i).toNatClampNeg = gB s 1 i := by rw [nI_clamp (by omega)]
  have oj : gA s 6 (nI j).toNatClampNeg = nI (od j) := by rw [nI_clamp (by omega), (h.2.2.2.2.2.1 j hj).2.2.1]
  have oi : gA s 6 (nI i).toNatClampNeg = nI (od i) := by rw [nI_clamp (by omega), (h.2.2.2.2.2.1 i hi).2.2.1]
  have lj := (h.2.2.2.2.2.1 j hj).2.2.2
  have li := (h.2.2.2.2.2.1 i hi).2.2.2
  unfold F_R_isBefore F_R_isBefore_43 F_R_isBefore_44 F_R_isBefore_81 F_R_isBefore_85 F_R_isBefore_86
  simp only [if_pos zj, if_pos zi, cj, ci, oj, oi, lg_cmp_lt, z_lc0, z_lc, if_pos z_nar0, if_pos z_nar1]
  by_cases h1 : gB s 1 j < 0
  · have h1' := Int64.not_le.mpr h1
    rw [if_pos h1, if_neg h1']
    by_cases h2 : 0 ≤ gB s 1 i
    · rw [if_pos h2, bI_f]
      rintro (q | q | q)
      · exact h1' q.1
      · exact h1' q.1
      · exact absurd q.2.1 (Int64.not_lt.mpr h2)
    · rw [if_neg h2]
      by_cases h3 : od i ≤ od j
      · rw [if_pos ((qI_le (by omega) (by omega)).mpr h3), bI_f]
        rintro (q | q | q)
        · exact h1' q.1
        · exact h1' q.1
        · have := q.2.2; omega
      · rw [if_neg (fun q => h3 ((qI_le (by omega) (by omega)).mp q)), bI_t]
        exact Or.inr (Or.inr ⟨h1, Int64.not_le.mp h2, by omega⟩)
  · have h1' := Int64.not_lt.mp h1
    rw [if_neg h1]
    by_cases h2 : gB s 1 i < 0
    · rw [if_pos h2, if_pos h1', bI_t]
      exact Or.inr (Or.inl ⟨h1', h2⟩)
    · have h2' := Int64.not_lt.mp h2
      rw [if_neg h2]
      by_cases h3 : gB s 1 i ≤ gB s 1 j
      · rw [if_pos h3, bI_f]
        rintro (q | q | q)
        · exact absurd q.2.2 (Int64.not_lt.mpr h3)
        · exact h2 q.2
        · exact h1 q.1
      · rw [if_neg h3, bI_t]
        exact Or.inl ⟨h1', h2', Int64.not_le.mp h3⟩
theorem m_before (h : zMo σ ρ ow od nr md s) (hW : zWf σ) {o : Nat} (h1 : 1 ≤ o) (h2 : o < gn σ) {l1 l2 : List Nat} {i : Nat} (hl : ρ o = l1 ++ i :: l2) : zCn (fun j => ow j = o ∧ zIB' s od j i) nr = l1.length := by
  obtain ⟨g1, g2, g3, g4⟩ := h.obj h1 h2
  have hb : (ρ o).Pairwise (fun i j => zBf (gB s 1 i) (gB s 1 j)) := by
    have e := (zRw_keys _ _ g1).1
    have hp := (hW.2.2.2.1 o h1 h2).2.2.1
    have : (List.map kK (oL (gO σ o))).Pairwise zBf := List.pairwise_map.mpr hp
    rw [← e] at this
    exact List.pairwise_map.mp this
  have hR := hb.and g4
  have g3' := g3
  rw [hl] at hR g2 g3
  rw [List.pairwise_append] at hR
  obtain ⟨r1, r2, r3⟩ := hR
  rw [List.pairwise_cons] at r2
  refine zCn_len _ nr l1 (List.nodup_append.mp g2).1 (fun j => ⟨fun q => ?_, fun q => ?_⟩)
  · have hm := (g3 j).mp (List.mem_append_left _ q)
    have hr := r3 j q i List.mem_cons_self
    exact ⟨hm.1, hm.2, (zIB_bef hr.1 hr.2).1⟩
  · have hm := (g3 j).mpr ⟨q.1, q.2.1⟩
    rcases List.mem_append.mp hm with e | e
    · exact e
    · exfalso
      rcases List.mem_cons.mp e with e | e
      · rw [e] at q; exact zIB_self q.2.2
      · have hr := r2.1 j e
        exact (zIB_bef hr.1 hr.2).2 q.2.2
theorem m_key84 (h : zMo σ ρ ow od nr md s) (hW : zWf σ) {o : Nat} (h2 : o < gn σ) (K : Int32 → Int32 → Int64 → Int32 → zSt → Option (Int64 × zSt)) (x2 : Int32) (x4 : Int64) {i : Nat} (hi : i < nr) (ho : ow i = o) : ∀ (d j n : Nat), d + j = nr → d < n → F_R_key_84 K n x2 (nI o) x4 (nI i) (nI (zCn (fun j => ow j = o ∧ zIB' s od j i) j)) (nI j) s = F_R_key_143 K x2 (nI o) x4 (nI i) (nI (zCn (fun j => ow j = o ∧ zIB' s od j i) nr)) s := by
  obtain ⟨a1, a2, a3, a4, a5⟩ := h.1
  have hw := hW.2.1
  have ci : gA s 5 (nI i).toNatClampNeg = nI o := by rw [nI_clamp (by omega), (h.2.2.2.2.2.1 i hi).1, ho]
  intro d
  induction d with
  | zero =>
    intro j n hd hn
    obtain ⟨m, rfl⟩ : ∃ m, n = m + 1 := ⟨n - 1, by omega⟩
    rw [F_R_key_84, a2, if_pos ((qI_le (by omega) (by omega)).mpr (by omega)), show j = nr by omega]
  | succ d ih =>
    intro j n hd hn
    obtain ⟨m, rfl⟩ : ∃ m, n = m + 1 := ⟨n - 1, by omega⟩
    have cj : gA s 5 (nI j).toNatClampNeg = nI (ow j) := by rw [nI_clamp (by omega), (h.2.2.2.2.2.1 j (by omega)).1]
    have hl := (h.2.2.2.2.2.1 j (by omega)).2.1
    have e := ih (j + 1) m (by omega) (by omega)
    rw [F_R_key_84, a2, if_neg (fun q => by have := (qI_le (a := nr) (b := j) (by omega) (by omega)).mp q; omega), if_pos (zin_nI' (by omega) (by decide)), if_pos (zin_nI' (by omega) (by decide)), ci, cj, if_pos rfl]
    unfold F_R_key_133 F_R_key_135
    rw [zCn] at e
    by_cases hoj : ow j = o
    · rw [if_pos (by rw [hoj]), m_isBefore h (by omega) hi, zb_some]
      by_cases hb : zIB' s od j i
      · rw [if_pos ⟨hoj, hb⟩, nI_succ, nI_succ] at e
        rw [if_neg (fun q => bI_eq0.mp q hb)]
        exact e
      · rw [if_neg (fun q => hb q.2), Nat.add_zero, nI_succ] at e
        rw [if_pos (bI_eq0.mpr hb)]
        exact e
    · rw [if_neg (fun q => hoj q.1), Nat.add_zero, nI_succ] at e
      rw [if_neg (fun q => hoj (qI_inj (by omega) (by omega) q))]
      exact e
theorem m_key69 (h : zMo σ ρ ow od nr md s) (hW : zWf σ) {o : Nat} (h1 : 1 ≤ o) (h2 : o < gn σ) {m1 m2 : List Nat} {w : Nat} (hl : ρ o = m1 ++ w :: m2) : ∀ (d i n : Nat), d + i = nr → d < n → F_R_key_69 n (nI m1.length) (nI o) (if w < i then gB s 1 w else 0) (nI i) s = some (gB s 1 w, s) := by
  obtain ⟨a1, a2, a3, a4, a5⟩ := h.1
  have hw := hW.2.1
  obtain ⟨g1, g2, g3, g4⟩ := h.obj h1 h2
  have hwr : w < nr := ((g3 w).mp (by rw [hl]; exact List.mem_append_right _ List.mem_cons_self)).1
  have hlen : (ρ o).length ≤ nr := by
    rw [← zCn_len (fun i => ow i = o) nr (ρ o) g2 (fun i => g3 i)]
    exact zCn_le _ _
  intro d
  induction d with
  | zero =>
    intro i n hd hn
    obtain ⟨m, rfl⟩ : ∃ m, n = m + 1 := ⟨n - 1, by omega⟩
    rw [F_R_key_69, a2, if_pos ((qI_le (by omega) (by omega)).mpr (by omega)), if_pos (by omega)]
  | succ d ih =>
    intro i n hd hn
    obtain ⟨m, rfl⟩ : ∃ m, n = m + 1 := ⟨n - 1, by omega⟩
    have zi : zin (nI i) 8400 := zin_nI' (by omega) (by decide)
    have ci : gA s 5 (nI i).toNatClampNeg = nI (ow i) := by rw [nI_clamp (by omega), (h.2.2.2.2.2.1 i (by omega)).1]
    have ki : gB s 1 (nI i).toNatClampNeg = gB s 1 i := by rw [nI_clamp (by omega)]
    have hli := (h.2.2.2.2.2.1 i (by omega)).2.1
    have e := ih (i + 1) m (by omega) (by omega)
    rw [nI_succ] at e
    rw [F_R_key_69, a2, if_neg (fun q => by have := (qI_le (a := nr) (b := i) (by omega) (by omega)).mp q; omega)]
    by_cases ho : ow i = o
    · have e2 := m_key84 h hW h2 (F_R_key_69 m) (nI m1.length) (if w < i then gB s 1 w else 0) (i := i) (by omega) ho nr 0 zFuel (by omega) (by rw [zFuel_eq]; omega)
      have e2' : F_R_key_84 (F_R_key_69 m) zFuel (nI m1.length) (nI o) (if w < i then gB s 1 w else 0) (nI i) 0 0 s = F_R_key_143 (F_R_key_69 m) (nI m1.length) (nI o) (if w < i then gB s 1 w else 0) (nI i) (nI (zCn (fun j => ow j = o ∧ zIB' s od j i) nr)) s := e2
      rw [e2']
      unfold F_R_key_143 F_R_key_170 F_R_key_172
      rw [if_pos zi, if_pos zi, ci, ki, if_pos (by rw [ho])]
      have hm := (g3 i).mpr ⟨by omega, ho⟩
      have hll : m1.length < (ρ o).length := by rw [hl, List.length_append, List.length_cons]; omega
      have hcn := zCn_le (fun j => ow j = o ∧ zIB' s od j i) nr
      have key : zCn (fun j => ow j = o ∧ zIB' s od j i) nr = m1.length ↔ i = w := by
        constructor
        · intro q
          rw [hl] at hm
          rcases List.mem_append.mp hm with e | e
          · exfalso
            obtain ⟨a, b, hab⟩ := List.append_of_mem e
            have hq := m_before h hW h1 h2 (l1 := a) (l2 := b ++ w :: m2) (i := i) (by rw [hl, hab, List.append_assoc, List.cons_append])
            rw [q, hab, List.length_append, List.length_cons] at hq
            omega
          · rcases List.mem_cons.mp e with e | e
            · exact e
            · exfalso
              obtain ⟨a, b, hab⟩ := List.append_of_mem e
              have hq := m_before h hW h1 h2 (l1 := m1 ++ w :: a) (l2 := b) (i := i) (by rw [hl, hab, List.append_assoc, List.cons_append])
              rw [q, List.length_append, List.length_cons] at hq
              omega
        · intro q
          rw [q]
          exact m_before h hW h1 h2 hl
      by_cases hiw : i = w
      · rw [if_pos (by rw [key.mpr hiw])]
        rw [if_pos (by omega)] at e
        rw [hiw] at e ⊢
        exact e
      · rw [if_neg (fun q => hiw (key.mp (qI_inj (by omega) (by omega) q)))]
        have : (if w < i + 1 then gB s 1 w else 0) = (if w < i then gB s 1 w else 0) := by
          by_cases hc : w < i
          · rw [if_pos hc, if_pos (by omega)]
          · rw [if_neg hc, if_neg (by omega)]
        rw [this] at e
        exact e
    · have hne : ¬ nI (ow i) = nI o := fun q => ho (qI_inj (by omega) (by omega) q)
      have hf : zFuel = (zFuel - 1) + 1 := by rw [zFuel_eq]
      rw [hf, F_R_key_84, a2, if_neg (fun q => by have := (qI_le (a := nr) (b := 0) (by omega) (by omega)).mp q; omega), if_pos zi, ci, if_neg hne]
      unfold F_R_key_143 F_R_key_170 F_R_key_172
      rw [if_pos zi, ci, if_neg hne]
      have hiw : i ≠ w := fun q => ho ((g3 i).mp (by rw [q, hl]; exact List.mem_append_right _ List.mem_cons_self)).2
      have : (if w < i + 1 then gB s 1 w else 0) = (if w < i then gB s 1 w else 0) := by
        by_cases hc : w < i
        · rw [if_pos hc, if_pos (by omega)]
        · rw [if_neg hc, if_neg (by omega)]
      rw [this] at e
      exact e
theorem M_key (h : zMs σ md s) (hW : zWf σ) (r k : Int32) : zMp (F_R_key r k s) (zVl 0 (S_key σ r k)) (zTh (S_key σ r k)) (S_key σ r k).2 md s := by
  obtain ⟨ρ, ow, od, nr, h1⟩ := h
  have hnr := h1.1.2.2.2
  have hw := hW.2.1
  unfold F_R_key F_R_key_31 F_R_key_47 S_key
  rw [m_holds h1 hW, zb_some]
  by_cases hc : zH σ r ≠ 0
  · have hv := zH_V hc
    have hr := hW.root r
    have hobj := h1.obj (o := zH σ r) (by omega) hr
    have hll := zRw_len _ _ hobj.1
    have hlen : (ρ (zH σ r)).length ≤ nr := by
      rw [← zCn_len (fun i => ow i = zH σ r) nr (ρ (zH σ r)) hobj.2.1 (fun i => hobj.2.2.1 i)]
      exact zCn_le _ _
    rw [if_neg (fun q => bI_eq0.mp q hc), m_holds h1 hW, zb_some, if_neg (fun q => bI_eq0.mp q hc), if_pos (zin_rt hv), h1.root hv, m_count h1 hW (by omega) hr, zb_some, m_in, zb_some]
    by_cases hk0 : 0 ≤ k
    · have hk00 : (0 : Int) ≤ k.toInt := by simpa using Int32.le_iff_toInt_le.mp hk0
      have hkN : k.toInt = (rN k : Int) := by
        show k.toInt = ((k.toInt.toNat : Nat) : Int)
        omega
      have hlt := k.toInt_lt
      have hkI : k = nI (rN k) := by
        apply Int32.toInt_inj.mp
        rw [nI_toInt (by omega), hkN]
      have hiff : ((0 : Int64) ≤ k.toInt64 ∧ k.toInt64 ≤ (nI (oL (gO σ (zH σ r))).length - 1).toInt64) ↔ rN k < (oL (gO σ (zH σ r))).length := by
        rw [show (0 : Int64) = (0 : Int32).toInt64 from rfl, z_le64, z_le64]
        cases hL : (oL (gO σ (zH σ r))).length with
        | zero =>
          constructor
          · intro q
            have := Int32.le_trans hk0 q.2
            exact absurd this (by decide)
          · intro q; omega
        | succ m =>
          have e1 : nI (m + 1) - 1 = nI m := qI_sub (a := m + 1) (b := 1) (by omega)
          rw [e1]
          constructor
          · intro q
            have q2 := q.2
            rw [hkI] at q2
            have := (qI_le (a := rN k) (b := m) (by omega) (by omega)).mp q2
            omega
          · intro q
            refine ⟨hk0, ?_⟩
            rw [hkI]
            exact (qI_le (a := rN k) (b := m) (by omega) (by omega)).mpr (by omega)
      rw [if_pos (show zH σ r ≠ 0 ∧ 0 ≤ k from ⟨hc, hk0⟩)]
      by_cases hlt2 : rN k < (oL (gO σ (zH σ r))).length
      · rw [if_neg (fun q => bI_eq0.mp q (hiff.mpr hlt2))]
        unfold F_R_key_48
        have es : F_R_says 1 s = some (1, sI s 13 0) := m_say_t (c := True) trivial s
        rw [es, zb_some, if_neg z_one, if_pos (zin_rt hv)]
        have h2 := h1.says 0
        have ht : gI (sI s 13 0) 13 = 0 := by rw [gI_sI, if_pos rfl]
        have hk0 : zKC s (sI s 13 0) := zKC.sI s (by decide) _
        generalize sI s 13 0 = s4 at h2 ht hk0 ⊢
        rw [h2.root hv]
        have hobj := h2.obj (o := zH σ r) (by omega) hr
        have hkl : rN k < (ρ (zH σ r)).length := by omega
        have hdec : ρ (zH σ r) = (ρ (zH σ r)).take (rN k) ++ (ρ (zH σ r))[rN k] :: (ρ (zH σ r)).drop (rN k + 1) := by
          rw [← List.drop_eq_getElem_cons hkl, List.take_append_drop]
        have e := m_key69 h2 hW (by omega) hr hdec nr 0 zFuel (by omega) (by rw [zFuel_eq]; omega)
        rw [List.length_take, Nat.min_eq_left (by omega), ← hkI, if_neg (by omega)] at e
        have e' : F_R_key_69 zFuel k (nI (zH σ r)) 0 0 s4 = some (gB s4 1 (ρ (zH σ r))[rN k], s4) := e
        have em := (zRw_keys _ _ hobj.1).1
        have e3 : gB s4 1 (ρ (zH σ r))[rN k] = kK (oL (gO σ (zH σ r)))[rN k] := by
          have := congrArg (fun l => l[rN k]?) em
          simp only [List.getElem?_map, List.getElem?_eq_getElem hkl, List.getElem?_eq_getElem hlt2, Option.map_some] at this
          exact Option.some.inj this
        rw [e', List.getElem?_eq_getElem hlt2, e3]
        exact ⟨s4, rfl, ht, ⟨ρ, ow, od, nr, h2⟩, hk0⟩
      · rw [if_pos (bI_eq0.mpr (fun q => hlt2 (hiff.mp q))), List.getElem?_eq_none (by omega)]
        unfold F_R_key_48
        have es : F_R_says 0 s = some (0, sI s 13 1) := m_say_f (c := False) (fun q => q) s
        rw [es, zb_some, if_pos rfl]
        exact m_no h1 0
    · rw [if_neg (fun q : zH σ r ≠ 0 ∧ 0 ≤ k => hk0 q.2), if_pos (bI_eq0.mpr (fun q => hk0 ((z_le64 0 k).mp q.1)))]
      unfold F_R_key_48
      have es : F_R_says 0 s = some (0, sI s 13 1) := m_say_f (c := False) (fun q => q) s
      rw [es, zb_some, if_pos rfl]
      exact m_no h1 0
  · rw [if_pos (bI_eq0.mpr hc), if_neg (fun q : zH σ r ≠ 0 ∧ 0 ≤ k => hc q.1)]
    unfold F_R_key_48
    have es : F_R_says 0 s = some (0, sI s 13 1) := m_say_f (c := False) (fun q => q) s
    rw [es, zb_some, if_pos rfl]
    exact m_no h1 0
/-! locked -/
theorem zFl_lk1 : ∀ f ∈ zFd ++ zFa, (f &&& 32 = 0 ↔ ¬ (f &&& 32 = 32)) := by decide
theorem zFl_lk2 : ∀ f ∈ zFd ++ zFa, (f &&& 34 = 0 ↔ ¬ (f &&& 32 = 32) ∧ (f &&& 64 = 64 ∨ ¬ (f &&& 2 = 2))) := by decide
theorem m_has' {i : Nat} (m : Int32) (hi : i < 8400) : F_R_has_0 (nI i) m s = some (bI (gA s 7 i &&& m = m), s) := by
  unfold F_R_has_0 F_R_has_0_17
  rw [if_pos (zin_nI' hi (by decide)), nI_clamp (by omega)]
  by_cases hc : gA s 7 i &&& m = m
  · rw [bI_t hc]
    first
      | rw [if_pos hc, if_pos z_nar1]
      | rw [if_neg (fun q => q hc), if_pos z_nar1]
  · rw [bI_f hc]
    first
      | rw [if_neg hc, if_pos z_nar0]
      | rw [if_pos hc, if_pos z_nar0]
theorem z_how {how : Int32} (h : 0 ≤ how ∧ how ≤ 2) : how = 0 ∨ how = 1 ∨ how = 2 := by
  have h1 := Int32.le_iff_toInt_le.mp h.1
  have h2 := Int32.le_iff_toInt_le.mp h.2
  have e0 : (0 : Int32).toInt = 0 := rfl
  have e1 : (1 : Int32).toInt = 1 := rfl
  have e2 : (2 : Int32).toInt = 2 := rfl
  rw [e0] at h1
  rw [e2] at h2
  have : how.toInt = 0 ∨ how.toInt = 1 ∨ how.toInt = 2 := by omega
  rcases this with q | q | q
  · exact Or.inl (Int32.toInt_inj.mp (q.trans e0.symm))
  · exact Or.inr (Or.inl (Int32.toInt_inj.mp (q.trans e1.symm)))
  · exact Or.inr (Or.inr (Int32.toInt_inj.mp (q.trans e2.symm)))
theorem m_hh {α : Type} (h : zMo σ ρ ow od nr md s) (hW : zWf σ) (r how : Int32) (G : Int32 → zSt → Option (α × zSt)) : (zb (F_R_holds r s) fun v1 s2 => if v1 = 0 then G 0 s2 else zb (F_R_in how.toInt64 0 2 s2) fun v3 s4 => if v3 = 0 then G 0 s4 else G 1 s4) = G (bI (zH σ r ≠ 0 ∧ (0 ≤ how ∧ how ≤ 2))) s := by
  have hi : ((0 : Int64) ≤ how.toInt64 ∧ how.toInt64 ≤ 2) ↔ (0 ≤ how ∧ how ≤ 2) := by
    rw [show (0 : Int64) = (0 : Int32).toInt64 from rfl, show (2 : Int64) = (2 : Int32).toInt64 from rfl, z_le64, z_le64]
  rw [m_holds h hW, zb_some]
  by_cases h1 : zH σ r ≠ 0
  · rw [if_neg (fun q => bI_eq0.mp q h1), m_in, zb_some]
    by_cases h2 : 0 ≤ how ∧ how ≤ 2
    · rw [if_neg (fun q => bI_eq0.mp q (hi.mpr h2)), bI_t ⟨h1, h2⟩]
    · rw [if_pos (bI_eq0.mpr (fun q => h2 (hi.mp q))), bI_f (fun q => h2 q.2)]
  · rw [if_pos (bI_eq0.mpr h1), bI_f (fun q => h1 q.1)]
theorem m_lstep {how : Int32} (hh : 0 ≤ how ∧ how ≤ 2) (r : Int32) (K : Int32 → Int32 → Int32 → Int32 → zSt → Option (Int32 × zSt)) {j : Nat} (hj : j < 8400) (y c : Prop) [Decidable y] [Decidable c] (hf : c → gA s 7 j ∈ zFd ++ zFa) : F_R_locked_79 K r how (bI y) (nI j) (bI c) s = K r how (bI (y ∧ (c → gA s 7 j &&& zLm how = 0))) (nI j + 1) s := by
  unfold F_R_locked_79 F_R_locked_109 F_R_locked_105 F_R_locked_110 F_R_locked_146 F_R_locked_150 F_R_locked_151
  by_cases hy : y
  · rw [if_neg (fun q => bI_eq0.mp q hy)]
    by_cases hc : c
    · rw [if_neg (fun q => bI_eq0.mp q hc), m_has' 32 hj, zb_some, m_has' 64 hj, zb_some, m_has' 2 hj, zb_some]
      have hl := hf hc
      rcases z_how hh with e | e | e
      · subst e
        rw [if_pos rfl, if_neg z_one, if_neg (fun q => bI_eq0.mp q hc), if_pos (by decide), bI_t]
        refine ⟨hy, fun _ => ?_⟩
        show gA s 7 j &&& 0 = 0
        exact Int32.and_zero
      · subst e
        have hm : (y ∧ (c → gA s 7 j &&& zLm 1 = 0)) ↔ ¬ (gA s 7 j &&& 32 = 32) := by
          rw [← zFl_lk1 _ hl]
          exact ⟨fun q => q.2 hc, fun q => ⟨hy, fun _ => q⟩⟩
        rw [if_neg z_one, bI_congr hm]
        by_cases h32 : gA s 7 j &&& 32 = 32
        · rw [if_neg (fun q => bI_eq0.mp q h32), if_pos rfl, bI_f (fun q => q h32)]
        · rw [if_pos (bI_eq0.mpr h32), if_neg z_one, if_neg (fun q => bI_eq0.mp q hc), if_pos (show (1 : Int32) < 2 by decide), bI_t h32]
      · subst e
        have hm : (y ∧ (c → gA s 7 j &&& zLm 2 = 0)) ↔ ¬ (gA s 7 j &&& 32 = 32) ∧ (gA s 7 j &&& 64 = 64 ∨ ¬ (gA s 7 j &&& 2 = 2)) := by
          rw [← zFl_lk2 _ hl]
          exact ⟨fun q => q.2 hc, fun q => ⟨hy, fun _ => q⟩⟩
        rw [if_neg (show ¬ (2 : Int32) = 0 by decide), bI_congr hm]
        by_cases h32 : gA s 7 j &&& 32 = 32
        · rw [if_neg (fun q => bI_eq0.mp q h32), if_pos rfl, bI_f (fun q => q.1 h32)]
        · rw [if_pos (bI_eq0.mpr h32), if_neg z_one, if_neg (fun q => bI_eq0.mp q hc), if_neg (show ¬ (2 : Int32) < 2 by decide)]
          by_cases h64 : gA s 7 j &&& 64 = 64
          · rw [if_neg (fun q => bI_eq0.mp q h64), bI_t ⟨h32, Or.inl h64⟩]
          · rw [if_pos (bI_eq0.mpr h64)]
            by_cases h2 : gA s 7 j &&& 2 = 2
            · rw [if_neg (fun q => bI_eq0.mp q h2), bI_f (fun q => q.2.elim h64 (fun z => z h2))]
            · rw [if_pos (bI_eq0.mpr h2), bI_t ⟨h32, Or.inr h2⟩]
    · rw [if_pos (bI_eq0.mpr hc), if_neg z_one, if_pos (bI_eq0.mpr hc), bI_t ⟨hy, fun q => absurd q hc⟩]
  · rw [if_pos (bI_eq0.mpr hy), if_pos rfl, bI_f (fun q => hy q.1)]
theorem m_locked49 (h : zMo σ ρ ow od nr md s) (hW : zWf σ) {r how : Int32} (hv : zV r) (h0 : zH σ r ≠ 0) (hh : 0 ≤ how ∧ how ≤ 2) (e : Bool) : ∀ (d j n : Nat), d + j = nr → d < n → F_R_locked_49 n r how (bI ((e && zAl (fun i => ow i = zH σ r → gA s 7 i &&& zLm how = 0) j) = true)) (nI j) s = some (bI ((e && zAl (fun i => ow i = zH σ r → gA s 7 i &&& zLm how = 0) nr) = true), s) := by
  obtain ⟨a1, a2, a3, a4, a5⟩ := h.1
  have hw := hW.2.1
  have hr := hW.root r
  obtain ⟨g1, g2, g3, g4⟩ := h.obj (o := zH σ r) (by omega) hr
  intro d
  induction d with
  | zero =>
    intro j n hd hn
    obtain ⟨m, rfl⟩ : ∃ m, n = m + 1 := ⟨n - 1, by omega⟩
    rw [F_R_locked_49, a2, if_pos ((qI_le (by omega) (by omega)).mpr (by omega)), if_pos (z_nar _), show j = nr by omega]
  | succ d ih =>
    intro j n hd hn
    obtain ⟨m, rfl⟩ : ∃ m, n = m + 1 := ⟨n - 1, by omega⟩
    have cj : gA s 5 (nI j).toNatClampNeg = nI (ow j) := by rw [nI_clamp (by omega), (h.2.2.2.2.2.1 j (by omega)).1]
    have hlj := (h.2.2.2.2.2.1 j (by omega)).2.1
    have e1 := ih (j + 1) m (by omega) (by omega)
    rw [nI_succ] at e1
    rw [F_R_locked_49, a2, if_neg (fun q => by have := (qI_le (a := nr) (b := j) (by omega) (by omega)).mp q; omega), if_pos (zin_nI' (by omega) (by decide)), if_pos (zin_rt hv), cj, h.root hv]
    have ee : (if nI (ow j) = nI (zH σ r) then F_R_locked_79 (F_R_locked_49 m) r how (bI ((e && zAl (fun i => ow i = zH σ r → gA s 7 i &&& zLm how = 0) j) = true)) (nI j) 1 s else F_R_locked_79 (F_R_locked_49 m) r how (bI ((e && zAl (fun i => ow i = zH σ r → gA s 7 i &&& zLm how = 0) j) = true)) (nI j) 0 s) = F_R_locked_79 (F_R_locked_49 m) r how (bI ((e && zAl (fun i => ow i = zH σ r → gA s 7 i &&& zLm how = 0) j) = true)) (nI j) (bI (ow j = zH σ r)) s := by
      by_cases ho : ow j = zH σ r
      · rw [if_pos (by rw [ho]), bI_t ho]
      · rw [if_neg (fun q => ho (qI_inj (by omega) (by omega) q)), bI_f ho]
    have hfl : ow j = zH σ r → gA s 7 j ∈ zFd ++ zFa := by
      intro ho
      have hm := (g3 j).mpr ⟨by omega, ho⟩
      have : gA s 7 j ∈ (ρ (zH σ r)).map (gA s 7) := List.mem_map_of_mem hm
      rw [(zRw_keys _ _ g1).2] at this
      obtain ⟨p, hp1, hp2⟩ := List.mem_map.mp this
      rw [← hp2]
      exact ((hW.2.2.2.1 _ (by omega) hr).2.1 p hp1).1.fl
    rw [ee, m_lstep hh r _ (by omega) _ _ hfl]
    rw [show bI (((e && zAl (fun i => ow i = zH σ r → gA s 7 i &&& zLm how = 0) j) = true) ∧ (ow j = zH σ r → gA s 7 j &&& zLm how = 0)) = bI ((e && zAl (fun i => ow i = zH σ r → gA s 7 i &&& zLm how = 0) (j + 1)) = true) from bI_congr (by rw [zAl, Bool.and_eq_true, Bool.and_eq_true, Bool.and_eq_true, decide_eq_true_eq, and_assoc])]
    exact e1
theorem M_locked (h : zMs σ md s) (hW : zWf σ) (r how : Int32) : zMp (F_R_locked r how s) (zVl 0 (S_locked σ r how)) (zTh (S_locked σ r how)) (S_locked σ r how).2 md s := by
  obtain ⟨ρ, ow, od, nr, h1⟩ := h
  have hnr := h1.1.2.2.2
  have hw := hW.2.1
  have e0 : F_R_locked r how s = F_R_locked_26 r how (bI (zH σ r ≠ 0 ∧ (0 ≤ how ∧ how ≤ 2))) s := m_hh h1 hW r how (fun y s => F_R_locked_26 r how y s)
  rw [e0]
  unfold F_R_locked_26 S_locked
  by_cases hc : zH σ r ≠ 0 ∧ (0 ≤ how ∧ how ≤ 2)
  · rw [m_say_t hc, zb_some, if_neg z_one, if_pos hc]
    have hv := zH_V hc.1
    have h2 := h1.says 0
    have ht : gI (sI s 13 0) 13 = 0 := by rw [gI_sI, if_pos rfl]
    have hk0 : zKC s (sI s 13 0) := zKC.sI s (by decide) _
    generalize sI s 13 0 = s4 at h2 ht hk0 ⊢
    have hr := hW.root r
    obtain ⟨g1, g2, g3, g4⟩ := h2.obj (o := zH σ r) (by omega) hr
    have c4 : gA s4 4 (nI (zH σ r)).toNatClampNeg = bI (oE (gO σ (zH σ r)) = false) := by rw [nI_clamp (by omega), (h2.2.1 _ (by omega) hr).2.2]
    rw [if_pos (zin_rt hv), h2.root hv, if_pos (zin_nI' (by omega) (by decide)), c4]
    have e1 := m_locked49 h2 hW hv hc.1 hc.2 (!oE (gO σ (zH σ r))) nr 0 zFuel (by omega) (by rw [zFuel_eq]; omega)
    rw [show bI ((!oE (gO σ (zH σ r)) && zAl (fun i => ow i = zH σ r → gA s4 7 i &&& zLm how = 0) 0) = true) = bI (oE (gO σ (zH σ r)) = false) from bI_congr (by rw [zAl, Bool.and_true, Bool.not_eq_true'])] at e1
    have e1' : F_R_locked_49 zFuel r how (bI (oE (gO σ (zH σ r)) = false)) 0 s4 = _ := e1
    rw [e1']
    have ev : (zAl (fun i => ow i = zH σ r → gA s4 7 i &&& zLm how = 0) nr) = (oL (gO σ (zH σ r))).all (fun p => decide (kF p &&& zLm how = 0)) := by
      rw [Bool.eq_iff_iff, zAl_iff, List.all_eq_true]
      have em := (zRw_keys _ _ g1).2
      constructor
      · intro q p hp
        have : kF p ∈ (oL (gO σ (zH σ r))).map kF := List.mem_map_of_mem hp
        rw [← em] at this
        obtain ⟨i, hi1, hi2⟩ := List.mem_map.mp this
        have hm := (g3 i).mp hi1
        rw [decide_eq_true_eq, ← hi2]
        exact q i hm.1 hm.2
      · intro q i hi ho
        have : gA s4 7 i ∈ (ρ (zH σ r)).map (gA s4 7) := List.mem_map_of_mem ((g3 i).mpr ⟨hi, ho⟩)
        rw [em] at this
        obtain ⟨p, hp1, hp2⟩ := List.mem_map.mp this
        have := q p hp1
        rw [decide_eq_true_eq] at this
        rw [← hp2]; exact this
    rw [ev]
    exact ⟨s4, rfl, ht, ⟨ρ, ow, od, nr, h2⟩, hk0⟩
  · rw [m_say_f hc, zb_some, if_pos rfl, if_neg hc]
    exact m_no h1 0
/-! lock -/
theorem sA_sA (s : zSt) (k : Nat) (f g : Nat → Int32) : sA (sA s k f) k g = sA s k g := by
  unfold sA
  have : (fun j => bif Nat.beq j k then g else (bif Nat.beq j k then f else s.2.2.1 j)) = (fun j => bif Nat.beq j k then g else s.2.2.1 j) := by
    funext j
    cases Nat.beq j k <;> rfl
  show (s.1, s.2.1, (fun j => bif Nat.beq j k then g else (bif Nat.beq j k then f else s.2.2.1 j)), s.2.2.2) = _
  rw [this]
theorem sA_id (s : zSt) (k : Nat) : sA s k (gA s k) = s := by
  unfold sA gA
  have : (fun j => bif Nat.beq j k then s.2.2.1 k else s.2.2.1 j) = s.2.2.1 := by
    funext j
    cases hb : Nat.beq j k with
    | false => rfl
    | true => rw [Nat.eq_of_beq_eq_true hb]; rfl
  rw [this]
theorem m_put0 {i : Nat} (m : Int32) (hi : i < 8400) : F_R_put_0 (nI i) m 0 s = some ((), sA s 7 (upd (gA s 7) i (gA s 7 i &&& (m ^^^ (-1))))) := by
  unfold F_R_put_0 F_R_put_0_30
  rw [if_pos rfl, if_pos (zin_nI' hi (by decide)), if_pos (zin_nI' hi (by decide)), nI_clamp (by omega)]
theorem m_put1 {i : Nat} (m v : Int32) (hv : v ≠ 0) (hi : i < 8400) : F_R_put_0 (nI i) m v s = some ((), sA s 7 (upd (gA s 7) i (gA s 7 i ||| m))) := by
  unfold F_R_put_0 F_R_put_0_30
  rw [if_neg hv, if_pos (zin_nI' hi (by decide)), if_pos (zin_nI' hi (by decide)), nI_clamp (by omega)]
theorem zFl_lk3 : ∀ f ∈ zFd ++ zFa, ((f &&& (32 ^^^ -1)) &&& 64 = 64 ↔ f &&& 64 = 64) ∧ (f &&& (32 ^^^ -1)) &&& (2 ^^^ -1) = f &&& (34 ^^^ -1) ∧ (f &&& 64 = 64 → f &&& (32 ^^^ -1) = f &&& (34 ^^^ -1)) ∧ f &&& (0 ^^^ -1) = f := by decide
theorem m_lkstep {how r : Int32} (hh : 0 ≤ how ∧ how ≤ 2) (K : Int32 → Int32 → Int32 → zSt → Option (Unit × zSt)) {j : Nat} (hj : j < 8400) (hf : gA s 7 j ∈ zFd ++ zFa) : (if how ≤ 0 then F_R_lock_85 K r how (nI j) s else (zb (F_R_put_0 (nI j) 32 0 s) (fun v9 s10 => F_R_lock_85 K r how (nI j) s10))) = K r how (nI j + 1) (sA s 7 (upd (gA s 7) j (gA s 7 j &&& (zLm how ^^^ (-1))))) := by
  obtain ⟨f1, f2, f3, f4⟩ := zFl_lk3 _ hf
  rw [m_put0 32 hj, zb_some]
  unfold F_R_lock_85 F_R_lock_107
  rcases z_how hh with e | e | e
  · subst e
    rw [if_pos (by decide), if_pos (by decide)]
    have e1 : upd (gA s 7) j (gA s 7 j &&& (zLm 0 ^^^ (-1))) = gA s 7 := by
      funext i
      show (if i = j then gA s 7 j &&& (0 ^^^ (-1)) else gA s 7 i) = gA s 7 i
      by_cases e : i = j
      · rw [if_pos e, e, f4]
      · rw [if_neg e]
    rw [e1, sA_id]
  · subst e
    rw [if_neg (by decide), if_pos (by decide)]
    rfl
  · subst e
    rw [if_neg (by decide), if_neg (by decide), m_has' 64 hj, zb_some]
    have eg : gA (sA s 7 (upd (gA s 7) j (gA s 7 j &&& (32 ^^^ (-1))))) 7 = upd (gA s 7) j (gA s 7 j &&& (32 ^^^ (-1))) := by rw [gA_sA, if_pos rfl]
    have ej : upd (gA s 7) j (gA s 7 j &&& (32 ^^^ (-1))) j = gA s 7 j &&& (32 ^^^ (-1)) := if_pos rfl
    rw [m_put0 2 hj, zb_some, eg, ej, sA_sA]
    have eu : ∀ a b : Int32, upd (upd (gA s 7) j a) j b = upd (gA s 7) j b := by
      intro a b
      funext i
      show (if i = j then b else if i = j then a else gA s 7 i) = (if i = j then b else gA s 7 i)
      by_cases e : i = j
      · rw [if_pos e, if_pos e]
      · rw [if_neg e, if_neg e, if_neg e]
    rw [eu, f2]
    by_cases h64 : gA s 7 j &&& 64 = 64
    · rw [if_neg (fun q => bI_eq0.mp q (f1.mpr h64)), f3 h64]; rfl
    · rw [if_pos (bI_eq0.mpr (fun q => h64 (f1.mp q)))]; rfl
theorem m_lock47 {o : Nat} {r how : Int32} (hv : zV r) (hh : 0 ≤ how ∧ how ≤ 2) (ho : o < 600) (hnr : nr ≤ 600) : ∀ (d j n : Nat) (s : zSt), gI s 15 = nI nr → (∀ i, i < nr → gA s 5 i = nI (ow i) ∧ ow i < 600) → gA s 1 r.toNatClampNeg = nI o → (∀ i, j ≤ i → i < nr → ow i = o → gA s 7 i ∈ zFd ++ zFa) → d + j = nr → d < n → F_R_lock_47 n r how (nI j) s = some ((), sA s 7 (fun i => if j ≤ i ∧ i < nr ∧ ow i = o then gA s 7 i &&& (zLm how ^^^ (-1)) else gA s 7 i)) := by
  intro d
  induction d with
  | zero =>
    intro j n s a2 a5 a1 hf hd hn
    obtain ⟨m, rfl⟩ : ∃ m, n = m + 1 := ⟨n - 1, by omega⟩
    rw [F_R_lock_47, a2, if_pos ((qI_le (by omega) (by omega)).mpr (by omega))]
    have : (fun i => if j ≤ i ∧ i < nr ∧ ow i = o then gA s 7 i &&& (zLm how ^^^ (-1)) else gA s 7 i) = gA s 7 := by
      funext i
      rw [if_neg (by omega)]
    rw [this, sA_id]
  | succ d ih =>
    intro j n s a2 a5 a1 hf hd hn
    obtain ⟨m, rfl⟩ : ∃ m, n = m + 1 := ⟨n - 1, by omega⟩
    have cj : gA s 5 (nI j).toNatClampNeg = nI (ow j) := by rw [nI_clamp (by omega), (a5 j (by omega)).1]
    have hlj := (a5 j (by omega)).2
    rw [F_R_lock_47, a2, if_neg (fun q => by have := (qI_le (a := nr) (b := j) (by omega) (by omega)).mp q; omega), if_pos (zin_nI' (by omega) (by decide)), if_pos (zin_rt hv), cj, a1]
    by_cases hoj : ow j = o
    · rw [if_pos (by rw [hoj]), m_lkstep hh _ (by omega) (hf j (by omega) (by omega) hoj), ← nI_succ]
      rw [ih (j + 1) m (sA s 7 (upd (gA s 7) j (gA s 7 j &&& (zLm how ^^^ (-1))))) a2 a5 a1 (fun i h1 h2 h3 => by
        rw [gA_sA, if_pos rfl]
        show (if i = j then _ else gA s 7 i) ∈ _
        rw [if_neg (by omega)]
        exact hf i (by omega) h2 h3) (by omega) (by omega)]
      rw [sA_sA]
      have : (fun i => if j + 1 ≤ i ∧ i < nr ∧ ow i = o then gA (sA s 7 (upd (gA s 7) j (gA s 7 j &&& (zLm how ^^^ (-1))))) 7 i &&& (zLm how ^^^ (-1)) else gA (sA s 7 (upd (gA s 7) j (gA s 7 j &&& (zLm how ^^^ (-1))))) 7 i) = (fun i => if j ≤ i ∧ i < nr ∧ ow i = o then gA s 7 i &&& (zLm how ^^^ (-1)) else gA s 7 i) := by
        funext i
        rw [gA_sA, if_pos rfl]
        show (if j + 1 ≤ i ∧ i < nr ∧ ow i = o then (if i = j then _ else gA s 7 i) &&& _ else (if i = j then _ else gA s 7 i)) = _
        by_cases e : i = j
        · rw [if_neg (by omega), if_pos e, if_pos ⟨by omega, by omega, by rw [e]; exact hoj⟩, e]
        · rw [if_neg e]
          by_cases c : j ≤ i ∧ i < nr ∧ ow i = o
          · rw [if_pos c, if_pos ⟨by omega, c.2⟩]
          · rw [if_neg c, if_neg (fun q => c ⟨by omega, q.2⟩)]
      rw [this]
    · rw [if_neg (fun q => hoj (qI_inj (by omega) (by omega) q))]
      unfold F_R_lock_107
      rw [← nI_succ, ih (j + 1) m s a2 a5 a1 (fun i h1 h2 h3 => hf i (by omega) h2 h3) (by omega) (by omega)]
      have : (fun i => if j + 1 ≤ i ∧ i < nr ∧ ow i = o then gA s 7 i &&& (zLm how ^^^ (-1)) else gA s 7 i) = (fun i => if j ≤ i ∧ i < nr ∧ ow i = o then gA s 7 i &&& (zLm how ^^^ (-1)) else gA s 7 i) := by
        funext i
        by_cases c : j ≤ i ∧ i < nr ∧ ow i = o
        · rw [if_pos c, if_pos ⟨by have : i ≠ j := fun e => hoj (e ▸ c.2.2); omega, c.2⟩]
        · rw [if_neg c, if_neg (fun q => c ⟨by omega, q.2⟩)]
      rw [this]
theorem zFl_lk4 : ∀ f ∈ zFd ++ zFa, ∀ m ∈ [(0 : Int32), 32, 34], ((f &&& (m ^^^ -1)) &&& 64 = 0 ↔ f &&& 64 = 0) := by decide
theorem zLm_mem (how : Int32) : zLm how ∈ [(0 : Int32), 32, 34] := by
  unfold zLm
  split
  · decide
  · split <;> decide
theorem zRw_clr {s t : zSt} {m : Int32} (hm : m ∈ [(0 : Int32), 32, 34]) (h1 : gB t 1 = gB s 1) (h2 : gB t 2 = gB s 2) (h8 : gA t 8 = gA s 8) (h9 : gA t 9 = gA s 9) (h10 : gA t 10 = gA s 10) : ∀ (is : List Nat) (ps : List zPr), (∀ i ∈ is, gA t 7 i = gA s 7 i &&& (m ^^^ -1)) → (∀ p ∈ ps, zWp p) → zRw s is ps → zRw t is (ps.map (zClr m)) := by
  intro is
  induction is with
  | nil => intro ps _ _ hp; cases ps with
    | nil => trivial
    | cons p ps => exact hp.elim
  | cons i is ih => intro ps hi hq hp; cases ps with
    | nil => exact hp.elim
    | cons p ps =>
      refine ⟨?_, ih ps (fun j hj => hi j (List.mem_cons_of_mem _ hj)) (fun q hq' => hq q (List.mem_cons_of_mem _ hq')) hp.2⟩
      obtain ⟨r1, r2, r3, r4, r5, r6⟩ := hp.1
      have hf := zFl_lk4 _ (hq p List.mem_cons_self).fl m hm
      unfold zR1
      rw [h1, h2, h8, h9, h10, hi i List.mem_cons_self, r1, r2, r3, r4, r5, r6]
      show kK p = kK p ∧ kF p &&& (m ^^^ -1) = kF p &&& (m ^^^ (-1)) ∧ (if kF p &&& 64 = 0 then kD p else 0) = (if (kF p &&& (m ^^^ (-1))) &&& 64 = 0 then kD p else 0) ∧ (if kF p &&& 64 = 0 then zBt (kD p) (kN p) (kO p) else 0) = (if (kF p &&& (m ^^^ (-1))) &&& 64 = 0 then zBt (kD p) (kN p) (kO p) else 0) ∧ (if kF p &&& 64 = 0 then 0 else nI (kO p)) = (if (kF p &&& (m ^^^ (-1))) &&& 64 = 0 then 0 else nI (kO p)) ∧ (if kF p &&& 64 = 0 then 0 else nI (kS p)) = (if (kF p &&& (m ^^^ (-1))) &&& 64 = 0 then 0 else nI (kS p))
      by_cases h64 : kF p &&& 64 = 0
      · simp only [if_pos h64, if_pos (hf.mpr h64), and_self]
      · simp only [if_neg h64, if_neg (fun q => h64 (hf.mp q)), and_self]
theorem M_lock (h : zMs σ md s) (hW : zWf σ) (r how : Int32) : zMp (F_R_lock r how s) () (zTh (S_lock σ r how)) (S_lock σ r how).2 md s := by
  obtain ⟨ρ, ow, od, nr, h1⟩ := h
  have hnr := h1.1.2.2.2
  have hw := hW.2.1
  have e0 : F_R_lock r how s = F_R_lock_26 r how (bI (zH σ r ≠ 0 ∧ (0 ≤ how ∧ how ≤ 2))) s := m_hh h1 hW r how (fun y s => F_R_lock_26 r how y s)
  rw [e0]
  unfold F_R_lock_26 S_lock
  by_cases hc : zH σ r ≠ 0 ∧ (0 ≤ how ∧ how ≤ 2)
  · rw [m_say_t hc, zb_some, if_neg z_one, if_pos hc]
    have hv := zH_V hc.1
    have h2 := h1.says 0
    have ht : gI (sI s 13 0) 13 = 0 := by rw [gI_sI, if_pos rfl]
    have hk0 : zKC s (sI s 13 0) := zKC.sI s (by decide) _
    generalize sI s 13 0 = s4 at h2 ht hk0 ⊢
    have hr := hW.root r
    obtain ⟨g1, g2, g3, g4⟩ := h2.obj (o := zH σ r) (by omega) hr
    have hwp := (hW.2.2.2.1 _ (by omega) hr).2.1
    have hfl : ∀ j, j < nr → ow j = zH σ r → gA s4 7 j ∈ zFd ++ zFa := by
      intro j hj ho
      have : gA s4 7 j ∈ (ρ (zH σ r)).map (gA s4 7) := List.mem_map_of_mem ((g3 j).mpr ⟨hj, ho⟩)
      rw [(zRw_keys _ _ g1).2] at this
      obtain ⟨p, hp1, hp2⟩ := List.mem_map.mp this
      rw [← hp2]
      exact (hwp p hp1).1.fl
    rw [if_pos (zin_rt hv), h2.root hv, if_pos (zin_nI' (by omega) (by decide)), nI_clamp (by omega), z_nar1]
    have e1 := m_lock47 (nr := nr) (ow := ow) (o := zH σ r) hv hc.2 (by omega) (by omega) nr 0 zFuel (sA s4 4 (upd (gA s4 4) (zH σ r) 1)) h2.1.2.1 (fun i hi => ⟨(h2.2.2.2.2.2.1 i hi).1, by have := (h2.2.2.2.2.2.1 i hi).2.1; omega⟩) (h2.root hv) (fun i _ hi ho => hfl i hi ho) (by omega) (by rw [zFuel_eq]; omega)
    have e1' : F_R_lock_47 zFuel r how 0 (sA s4 4 (upd (gA s4 4) (zH σ r) 1)) = _ := e1
    rw [e1']
    refine ⟨_, rfl, ht, ⟨(fun j => if j = zH σ r then ρ (zH σ r) else ρ j), ow, od, nr, ?_⟩, hk0.tr ((zKC.sA _ (by decide) _).tr (zKC.sA _ (by decide) _))⟩
    have e47 : gA (sA s4 4 (upd (gA s4 4) (zH σ r) 1)) 7 = gA s4 7 := by rw [gA_sA, if_neg (by decide)]
    have eg7 : ∀ i, gA (sA (sA s4 4 (upd (gA s4 4) (zH σ r) 1)) 7 (fun i => if 0 ≤ i ∧ i < nr ∧ ow i = zH σ r then gA (sA s4 4 (upd (gA s4 4) (zH σ r) 1)) 7 i &&& (zLm how ^^^ (-1)) else gA (sA s4 4 (upd (gA s4 4) (zH σ r) 1)) 7 i)) 7 i = if i < nr ∧ ow i = zH σ r then gA s4 7 i &&& (zLm how ^^^ (-1)) else gA s4 7 i := by
      intro i
      rw [gA_sA, if_pos rfl]
      show (if 0 ≤ i ∧ i < nr ∧ ow i = zH σ r then gA (sA s4 4 (upd (gA s4 4) (zH σ r) 1)) 7 i &&& (zLm how ^^^ (-1)) else gA (sA s4 4 (upd (gA s4 4) (zH σ r) 1)) 7 i) = _
      rw [e47]
      by_cases c : i < nr ∧ ow i = zH σ r
      · rw [if_pos c, if_pos ⟨Nat.zero_le _, c⟩]
      · rw [if_neg c, if_neg (fun q => c q.2)]
    refine h2.chg (by omega) hr (x := (oP (gO σ (zH σ r)), oA (gO σ (zH σ r)), false, (oL (gO σ (zH σ r))).map (zClr (zLm how)))) rfl rfl ((zCF.sA s4 (by decide) _).tr (zCF.sA _ (by decide) _)) ?_ (fun j hj => ?_) ⟨h2.1.2.1, h2.1.2.2.1, hnr.1, hnr.2⟩ h2.2.2.2.2.2.1 (fun i hi q1 q2 => ?_) (fun i hi q1 q2 => ⟨hi, rfl⟩) ⟨?_, g2, g3, g4⟩
    · rw [gA_sA, if_neg (by decide), gA_sA, if_pos rfl]
      show (if zH σ r = zH σ r then (1 : Int32) else _) = bI (false = false)
      rw [if_pos rfl, bI_t rfl]
    · rw [gA_sA, if_neg (by decide), gA_sA, if_pos rfl]
      show (if j = zH σ r then (1 : Int32) else _) = _
      rw [if_neg hj]
    · refine ⟨⟨hi, rfl, rfl⟩, rfl, rfl, ?_, rfl, rfl, rfl⟩
      rw [eg7, if_neg (fun q => q1 q.2)]
    · refine zRw_clr (zLm_mem how) ?_ ?_ ?_ ?_ ?_ _ _ (fun i hi => ?_) (fun p hp => (hwp p hp).1) g1
      · rfl
      · rfl
      · rfl
      · rfl
      · rfl
      · rw [eg7, if_pos ((g3 i).mp hi)]
  · rw [m_say_f hc, zb_some, if_pos rfl, if_neg hc]
    exact m_no h1 ()
end ZM6

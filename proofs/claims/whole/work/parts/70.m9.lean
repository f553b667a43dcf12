/-! the model: bits of descriptions, is it so, does it resist -/
theorem i_m1 {i : Nat} (hi : i < 32) : (-1 : Int32).toBitVec.getLsbD i = true := by
  rw [show (-1 : Int32).toBitVec = BitVec.allOnes 32 from rfl, BitVec.getLsbD_allOnes, decide_eq_true hi]
def zMi (f on a : Int32) : Int32 := (f &&& (a ^^^ (-1))) ||| (on &&& a)
theorem i_mix0 (f on : Int32) : zMi f on 0 = f := by
  unfold zMi
  apply Int32.toBitVec_inj.mp
  apply BitVec.eq_of_getLsbD_eq
  intro i hi
  simp only [Int32.toBitVec_and, Int32.toBitVec_or, Int32.toBitVec_xor, BitVec.getLsbD_and, BitVec.getLsbD_or, BitVec.getLsbD_xor, i_m1 hi]
  have e : (0 : Int32).toBitVec.getLsbD i = false := by
    rw [show (0 : Int32).toBitVec = 0#32 from rfl, BitVec.getLsbD_zero]
  rw [e]
  cases f.toBitVec.getLsbD i <;> cases on.toBitVec.getLsbD i <;> rfl
theorem i_mix3 (f on a b c : Int32) : zMi (zMi (zMi f on a) on b) on c = zMi f on (a ||| b ||| c) := by
  unfold zMi
  apply Int32.toBitVec_inj.mp
  apply BitVec.eq_of_getLsbD_eq
  intro i hi
  simp only [Int32.toBitVec_and, Int32.toBitVec_or, Int32.toBitVec_xor, BitVec.getLsbD_and, BitVec.getLsbD_or, BitVec.getLsbD_xor, i_m1 hi]
  cases f.toBitVec.getLsbD i <;> cases on.toBitVec.getLsbD i <;> cases a.toBitVec.getLsbD i <;> cases b.toBitVec.getLsbD i <;> cases c.toBitVec.getLsbD i <;> rfl
theorem i_mixf (f m : Int32) : (f &&& (m ^^^ (-1))) ||| m = f ||| m := by
  apply Int32.toBitVec_inj.mp
  apply BitVec.eq_of_getLsbD_eq
  intro i hi
  simp only [Int32.toBitVec_and, Int32.toBitVec_or, Int32.toBitVec_xor, BitVec.getLsbD_and, BitVec.getLsbD_or, BitVec.getLsbD_xor, i_m1 hi]
  cases f.toBitVec.getLsbD i <;> cases m.toBitVec.getLsbD i <;> rfl
theorem i_bit (x : Int32) (k : Nat) {m : Int32} (hm : m.toBitVec = BitVec.twoPow 32 k) : x &&& m = 0 ∨ x &&& m = m := by
  have h : x.toBitVec &&& m.toBitVec = if x.toBitVec.getLsbD k then m.toBitVec else 0 := by rw [hm]; exact BitVec.and_twoPow _ _
  by_cases hb : x.toBitVec.getLsbD k = true
  · rw [if_pos hb] at h
    exact Or.inr (Int32.toBitVec_inj.mp h)
  · rw [if_neg hb] at h
    exact Or.inl (Int32.toBitVec_inj.mp h)
theorem i_b2 (x : Int32) : x &&& 2 = 0 ∨ x &&& 2 = 2 := i_bit x 1 (by decide)
theorem i_b16 (x : Int32) : x &&& 16 = 0 ∨ x &&& 16 = 16 := i_bit x 4 (by decide)
theorem i_b32 (x : Int32) : x &&& 32 = 0 ∨ x &&& 32 = 32 := i_bit x 5 (by decide)
theorem i_and50 (t : Int32) : (t &&& 2) ||| (t &&& 16) ||| (t &&& 32) = t &&& 50 := by
  have : ∀ x y z : Int32, (t &&& x) ||| (t &&& y) ||| (t &&& z) = t &&& (x ||| y ||| z) := by
    intro x y z
    apply Int32.toBitVec_inj.mp
    apply BitVec.eq_of_getLsbD_eq
    intro i hi
    simp only [Int32.toBitVec_and, Int32.toBitVec_or, BitVec.getLsbD_and, BitVec.getLsbD_or]
    cases t.toBitVec.getLsbD i <;> cases x.toBitVec.getLsbD i <;> cases y.toBitVec.getLsbD i <;> cases z.toBitVec.getLsbD i <;> rfl
  rw [this]; rfl
theorem i_step (f on t m : Int32) (ht : t &&& m = 0 ∨ t &&& m = m) (ho : on &&& m = 0 ∨ on &&& m = m) : (if t &&& m = 0 then f else if on &&& m = 0 then f &&& (m ^^^ (-1)) else f ||| m) = zMi f on (t &&& m) := by
  by_cases h : t &&& m = 0
  · rw [if_pos h, h, i_mix0]
  · rw [if_neg h, ht.resolve_left h]
    unfold zMi
    by_cases h2 : on &&& m = 0
    · rw [if_pos h2, h2, Int32.or_zero]
    · rw [if_neg h2, ho.resolve_left h2, i_mixf]
/-- bits of bits -/
theorem i_sub {x a b : Int32} (hb : a &&& b = b) (h : x &&& a = 0) : x &&& b = 0 := by
  rw [← hb, ← Int32.and_assoc, h, Int32.zero_and]
theorem i_dF {t on m : Int32} (hm : 50 &&& m = m) : (on &&& t &&& 50) &&& m = on &&& (t &&& m) := by
  rw [Int32.and_assoc, hm, Int32.and_assoc]
theorem i_dFn {t on m : Int32} (hm : 50 &&& m = m) (ht : t &&& m = 0 ∨ t &&& m = m) : (on &&& t &&& 50) &&& m ≠ 0 ↔ t &&& m ≠ 0 ∧ on &&& m ≠ 0 := by
  rw [i_dF hm]
  rcases ht with e | e
  · rw [e, Int32.and_zero]; exact ⟨fun q => absurd rfl q, fun q => absurd rfl q.1⟩
  · rw [e]
    refine ⟨fun q => ⟨fun z => ?_, q⟩, fun q => q.2⟩
    rw [z, Int32.and_zero] at q
    exact q rfl
theorem m_told (t m : Int32) (s : zSt) : F_R_isTold t m s = some (bI (t &&& m ≠ 0), s) := by
  unfold F_R_isTold F_R_isTold_11
  by_cases h : t &&& m = 0
  · rw [if_pos h, if_pos z_nar0, bI_f (fun q => q h)]
  · rw [if_neg h, if_pos z_nar1, bI_t h]
theorem bI_n0 {c : Prop} [Decidable c] : bI c = 0 ↔ ¬ c := bI_eq0
theorem m_same {s : zSt} {i : Nat} (hi : i < 8400) (k : Int32) (b : Int64) : F_R_isSame (nI i) k b s = some (bI (gA s 8 i = k ∧ gB s 2 i = b), s) := by
  have hz : zin (nI i) 8400 := zin_nI' hi (by decide)
  unfold F_R_isSame F_R_isSame_25 F_R_isSame_26
  rw [if_pos hz, if_pos hz, nI_clamp (by omega), if_pos z_nar1, if_pos z_nar0]
  by_cases h1 : gA s 8 i = k
  · rw [if_pos h1]
    by_cases h2 : gB s 2 i = b
    · rw [if_pos ((lg_cmp_eq _ _).mpr h2), bI_t ⟨h1, h2⟩]
    · rw [if_neg (fun q => h2 ((lg_cmp_eq _ _).mp q)), bI_f (fun q => h2 q.2)]
  · rw [if_neg h1, bI_f (fun q => h1 q.1)]
theorem zBt_inj {k : Int32} {n m : Int64} {o u : Nat} (h1 : zWv k n o) (h2 : zWv k m u) (ho : o < 600) (hu : u < 600) (h : zBt k n o = zBt k m u) : n = m ∧ o = u := by
  unfold zBt at h
  by_cases h5 : k = 5
  · rw [if_pos h5, if_pos h5] at h
    have h4 : k ≠ 4 := by rw [h5]; decide
    exact ⟨(h1.2.1 h4).trans (h2.2.1 h4).symm, (qL_eq (by omega) (by omega)).mp h⟩
  · rw [if_neg h5, if_neg h5] at h
    exact ⟨h, (h1.2.2.1 h5).trans (h2.2.2.1 h5).symm⟩
/-- the description as the model's arguments -/
def zDm (d : zDs) (told on k : Int32) (b : Int64) (g q : Int32) : Prop := dT d = told ∧ dF d = on &&& told &&& 50 ∧ dK d = k ∧ zBt (dK d) (dN d) (dO d) = b ∧ g = nI (dG d) ∧ q = nI (dS d) ∧ dG d < 600 ∧ dS d < 600 ∧ dO d < 600 ∧ zWv (dK d) (dN d) (dO d) ∧ zTd told
abbrev zSo (d : zDs) (on : Int32) (p : zPr) : Prop := (kF p ^^^ on) &&& (dT d &&& 50) = 0 ∧ (dT d &&& 3 = 0 ∨ kF p &&& 64 = 0) ∧ (dT d &&& 12 = 0 ∨ kF p &&& 64 ≠ 0) ∧ (dT d &&& 1 ≠ 0 → zSv d p) ∧ (dT d &&& 4 ≠ 0 → kO p = dG d) ∧ (dT d &&& 8 ≠ 0 → kS p = dS d)
theorem i_told : ∀ t : Fin 64, ∀ m ∈ [(3 : Int32), 12], (nI t.1 &&& m ≤ 0 ↔ nI t.1 &&& m = 0) := by decide
theorem zTd.fin {told : Int32} (h : 0 ≤ told ∧ told ≤ 63) : ∃ t : Fin 64, told = nI t.1 := by
  have h1 := Int32.le_iff_toInt_le.mp h.1
  have h2 := Int32.le_iff_toInt_le.mp h.2
  rw [show (0 : Int32).toInt = 0 from rfl] at h1
  rw [show (63 : Int32).toInt = 63 from rfl] at h2
  refine ⟨⟨told.toInt.toNat, by omega⟩, ?_⟩
  apply Int32.toInt_inj.mp
  show _ = (nI told.toInt.toNat).toInt
  rw [nI_toInt (by omega)]
  omega
theorem zTd.le {told : Int32} (h : 0 ≤ told ∧ told ≤ 63) {m : Int32} (hm : m ∈ [(3 : Int32), 12]) : told &&& m ≤ 0 ↔ told &&& m = 0 := by
  obtain ⟨t, rfl⟩ := zTd.fin h
  exact i_told t m hm
section ZM9
variable {d : zDs} {told on k : Int32} {b : Int64} {g q : Int32} {s : zSt} {i : Nat} {p : zPr}
theorem m_sv (hd : zDm d told on k b g q) (hi : i < 8400) (hp : zR1 s i p) (hwp : zWp p) (hO : kO p < 600) (h64 : kF p &&& 64 = 0) : F_R_isSame (nI i) k b s = some (bI (zSv d p), s) := by
  obtain ⟨d1, d2, d3, d4, d5, d6, d7, d8, d9, d10, d11⟩ := hd
  rw [m_same hi, hp.2.2.1, hp.2.2.2.1, if_pos h64, if_pos h64, ← d3, ← d4]
  congr 2
  refine bI_congr ⟨fun z => ?_, fun z => ?_⟩
  · have hv := (hwp.data h64).2
    rw [z.1] at hv
    have h2 := z.2
    rw [z.1] at h2
    obtain ⟨e1, e2⟩ := zBt_inj hv d10 hO d9 h2
    exact ⟨z.1, e1, e2⟩
  · rw [z.1, z.2.1, z.2.2]; exact ⟨rfl, rfl⟩
theorem m_isSo (hd : zDm d told on k b g q) (hi : i < 8400) (hp : zR1 s i p) (hwp : zWp p) (hO : kO p < 600) (hS : kS p < 600) : F_R_isSo (nI i) told on k b g q s = some (bI (zSo d on p), s) := by
  have hsv := m_sv hd hi hp hwp hO
  obtain ⟨d1, d2, d3, d4, d5, d6, d7, d8, d9, d10, d11⟩ := hd
  have hz : zin (nI i) 8400 := zin_nI' hi (by decide)
  have c7 : gA s 7 (nI i).toNatClampNeg = kF p := by rw [nI_clamp (by omega), hp.2.1]
  have l3 := zTd.le d11.1 (m := 3) (by simp)
  have l12 := zTd.le d11.1 (m := 12) (by simp)
  unfold F_R_isSo F_R_isSo_38 F_R_isSo_55 F_R_isSo_57 F_R_isSo_79 F_R_isSo_98 F_R_isSo_118 F_R_isSo_122 F_R_isSo_123
  rw [if_pos hz, c7]
  simp only [m_has hi hp, zb_some, m_told, z_nar1, z_nar0, if_true, if_pos hz]
  subst d1
  by_cases h50 : (kF p ^^^ on) &&& (dT d &&& 50) = 0
  · rw [if_pos h50]
    by_cases h64 : kF p &&& 64 = 0
    · rw [if_pos (bI_eq0.mpr (fun z => (hwp.bit (by simp)).mp z h64)), if_pos (bI_eq0.mpr (fun z => (hwp.bit (by simp)).mp z h64))]
      have e3 : ∀ A : Option (Int32 × zSt), (if dT d &&& 3 ≤ 0 then A else A) = A := fun A => by split <;> rfl
      rw [e3]
      by_cases h12 : dT d &&& 12 = 0
      · have h4 : dT d &&& 4 = 0 := i_sub (by decide) h12
        have h8 : dT d &&& 8 = 0 := i_sub (by decide) h12
        rw [if_pos (l12.mpr h12), hsv h64, zb_some, if_pos (show bI (dT d &&& 4 ≠ 0) = 0 from bI_eq0.mpr (fun z => z h4)), if_pos (show bI (dT d &&& 8 ≠ 0) = 0 from bI_eq0.mpr (fun z => z h8))]
        by_cases h1 : dT d &&& 1 = 0
        · rw [if_pos (bI_eq0.mpr (fun z => z h1)), bI_t ⟨h50, Or.inr h64, Or.inl h12, fun z => absurd h1 z, fun z => absurd h4 z, fun z => absurd h8 z⟩]
        · rw [if_neg (fun z => bI_eq0.mp z h1)]
          by_cases hv : zSv d p
          · rw [if_neg (fun z => bI_eq0.mp z hv), bI_t ⟨h50, Or.inr h64, Or.inl h12, fun _ => hv, fun z => absurd h4 z, fun z => absurd h8 z⟩]
          · rw [if_pos (bI_eq0.mpr hv), bI_f (fun z => hv (z.2.2.2.1 h1))]
      · rw [if_neg (fun z => h12 (l12.mp z)), bI_f (fun z => z.2.2.1.elim h12 (fun w => w h64))]
    · have hb64 : ¬ bI (kF p &&& 64 = 64) = 0 := fun z => bI_eq0.mp z ((hwp.bit (by simp)).mpr h64)
      rw [if_neg hb64, if_neg hb64]
      have c9 : gA s 9 (nI i).toNatClampNeg = nI (kO p) := by rw [nI_clamp (by omega), hp.2.2.2.2.1, if_neg h64]
      have c10 : gA s 10 (nI i).toNatClampNeg = nI (kS p) := by rw [nI_clamp (by omega), hp.2.2.2.2.2, if_neg h64]
      by_cases h3 : dT d &&& 3 = 0
      · have h1 : dT d &&& 1 = 0 := i_sub (by decide) h3
        have e12 : ∀ A : Option (Int32 × zSt), (if dT d &&& 12 ≤ 0 then A else A) = A := fun A => by split <;> rfl
        rw [if_pos (l3.mpr h3), if_pos (bI_eq0.mpr (fun z => z h1)), e12, c9, c10, d5, d6]
        have p8 : (if bI (dT d &&& 8 ≠ 0) = 0 then some (1, s) else if nI (kS p) = nI (dS d) then some (1, s) else some (0, s)) = some (bI (dT d &&& 8 ≠ 0 → kS p = dS d), s) := by
          by_cases h8 : dT d &&& 8 = 0
          · rw [if_pos (bI_eq0.mpr (fun z => z h8)), bI_t (fun z => absurd h8 z)]
          · rw [if_neg (fun z => bI_eq0.mp z h8)]
            by_cases he : kS p = dS d
            · rw [if_pos (by rw [he]), bI_t (fun _ => he)]
            · rw [if_neg (fun z => he (qI_inj (by omega) (by omega) z)), bI_f (fun z => he (z h8))]
        rw [p8]
        by_cases h4 : dT d &&& 4 = 0
        · rw [if_pos (bI_eq0.mpr (fun z => z h4))]
          congr 2
          exact bI_congr ⟨fun z => ⟨h50, Or.inl h3, Or.inr h64, fun w => absurd h1 w, fun w => absurd h4 w, z⟩, fun z => z.2.2.2.2.2⟩
        · rw [if_neg (fun z => bI_eq0.mp z h4)]
          by_cases he : kO p = dG d
          · rw [if_pos (by rw [he])]
            congr 2
            exact bI_congr ⟨fun z => ⟨h50, Or.inl h3, Or.inr h64, fun w => absurd h1 w, fun _ => he, z⟩, fun z => z.2.2.2.2.2⟩
          · rw [if_neg (fun z => he (qI_inj (by omega) (by omega) z)), bI_f (fun z => he (z.2.2.2.2.1 h4))]
      · rw [if_neg (fun z => h3 (l3.mp z)), bI_f (fun z => z.2.1.elim h3 h64)]
  · rw [if_neg h50, bI_f (fun z => h50 z.1)]
theorem m_resists (hd : zDm d told on k b g q) (hi : i < 8400) (hp : zR1 s i p) (hwp : zWp p) (hO : kO p < 600) (hS : kS p < 600) : F_R_resists (nI i) told on k b g q s = some (bI (zFix d p = true), s) := by
  have hsv := m_sv hd hi hp hwp hO
  obtain ⟨d1, d2, d3, d4, d5, d6, d7, d8, d9, d10, d11⟩ := hd
  have hz : zin (nI i) 8400 := zin_nI' hi (by decide)
  have l3 := zTd.le d11.1 (m := 3) (by simp)
  have l12 := zTd.le d11.1 (m := 12) (by simp)
  subst d1
  have f32 : dF d &&& 32 ≠ 0 ↔ dT d &&& 32 ≠ 0 ∧ on &&& 32 ≠ 0 := by rw [d2]; exact i_dFn (by decide) (i_b32 _)
  have f16 : dF d &&& 16 ≠ 0 ↔ dT d &&& 16 ≠ 0 ∧ on &&& 16 ≠ 0 := by rw [d2]; exact i_dFn (by decide) (i_b16 _)
  have f2 : dF d &&& 2 ≠ 0 ↔ dT d &&& 2 ≠ 0 ∧ on &&& 2 ≠ 0 := by rw [d2]; exact i_dFn (by decide) (i_b2 _)
  unfold F_R_resists F_R_resists_20
  simp only [m_told, zb_some, m_has hi hp]
  have p47 : (¬ dF d &&& 32 ≠ 0) → (¬ (dT d &&& 16 ≠ 0 ∧ ¬ (bI (dF d &&& 16 ≠ 0) = bI (kF p &&& 16 ≠ 0)))) → F_R_resists_47 (nI i) (dT d) on k b g q s = some (bI (zFix d p = true), s) := by
    intro n32 n16
    unfold F_R_resists_47 F_R_resists_67 F_R_resists_79 F_R_resists_81 F_R_resists_105 F_R_resists_125 F_R_resists_129 F_R_resists_130 F_R_resists_158 F_R_resists_178 F_R_resists_182 F_R_resists_183 zFix
    simp only [m_has hi hp, zb_some, m_told, z_nar1, z_nar0, if_true, if_pos hz]
    rw [if_neg n32, if_neg n16]
    by_cases h64 : kF p &&& 64 = 0
    · have hb64 : bI (kF p &&& 64 = 64) = 0 := bI_eq0.mpr (fun z => (hwp.bit (by simp)).mp z h64)
      rw [if_neg (show ¬ (kF p &&& 64 ≠ 0) from fun z => z h64), if_pos hb64, if_pos hb64, if_pos hb64]
      have e3 : ∀ A : Option (Int32 × zSt), (if dT d &&& 3 ≤ 0 then A else A) = A := fun A => by split <;> rfl
      rw [e3]
      by_cases h12 : dT d &&& 12 = 0
      · rw [if_pos (l12.mpr h12), if_neg (show ¬ (dT d &&& 12 ≠ 0) from fun z => z h12), hsv h64, zb_some]
        by_cases h2 : kF p &&& 2 = 0
        · rw [if_pos (bI_eq0.mpr (fun z => (hwp.bit (by simp)).mp z h2))]
          have p1 : (if bI (dT d &&& 1 ≠ 0) = 0 then some (0, s) else if bI (zSv d p) = 0 then some (1, s) else some ((0 : Int32), s)) = some (bI (dT d &&& 1 ≠ 0 ∧ ¬ zSv d p), s) := by
            by_cases h1 : dT d &&& 1 = 0
            · rw [if_pos (bI_eq0.mpr (fun z => z h1)), bI_f (fun z => z.1 h1)]
            · rw [if_neg (fun z => bI_eq0.mp z h1)]
              by_cases hv : zSv d p
              · rw [if_neg (fun z => bI_eq0.mp z hv), bI_f (fun z => z.2 hv)]
              · rw [if_pos (bI_eq0.mpr hv), bI_t ⟨h1, hv⟩]
          rw [p1]
          have p2 : dF d &&& 2 = 0 → some (bI (dT d &&& 1 ≠ 0 ∧ ¬ zSv d p), s) = some (bI (decide (kF p &&& 2 = 0 ∧ (dF d &&& 2 ≠ 0 ∨ (dT d &&& 1 ≠ 0 ∧ ¬ zSv d p))) = true), s) := by
            intro h
            congr 2
            refine bI_congr ?_
            rw [decide_eq_true_eq]
            exact ⟨fun z => ⟨h2, Or.inr z⟩, fun z => z.2.resolve_left (fun w => w h)⟩
          by_cases ht : dT d &&& 2 = 0
          · rw [if_pos (bI_eq0.mpr (fun z => z ht))]
            exact p2 (Classical.byContradiction (fun z => (f2.mp z).1 ht))
          · rw [if_neg (fun z => bI_eq0.mp z ht)]
            by_cases ho : on &&& 2 = 0
            · rw [if_pos (bI_eq0.mpr (fun z => z ho))]
              exact p2 (Classical.byContradiction (fun z => (f2.mp z).2 ho))
            · rw [if_neg (fun z => bI_eq0.mp z ho), bI_t]
              rw [decide_eq_true_eq]
              exact ⟨h2, Or.inl (f2.mpr ⟨ht, ho⟩)⟩
        · rw [if_neg (fun z => bI_eq0.mp z ((hwp.bit (by simp)).mpr h2)), bI_f]
          rw [decide_eq_true_eq]
          exact fun z => h2 z.1
      · rw [if_neg (fun z => h12 (l12.mp z)), if_pos h12, bI_t rfl]
    · have hb64 : ¬ bI (kF p &&& 64 = 64) = 0 := fun z => bI_eq0.mp z ((hwp.bit (by simp)).mpr h64)
      have c9 : gA s 9 (nI i).toNatClampNeg = nI (kO p) := by rw [nI_clamp (by omega), hp.2.2.2.2.1, if_neg h64]
      have c10 : gA s 10 (nI i).toNatClampNeg = nI (kS p) := by rw [nI_clamp (by omega), hp.2.2.2.2.2, if_neg h64]
      rw [if_pos h64, if_neg hb64, if_neg hb64, if_neg hb64]
      by_cases h3 : dT d &&& 3 = 0
      · have e12 : ∀ A : Option (Int32 × zSt), (if dT d &&& 12 ≤ 0 then A else A) = A := fun A => by split <;> rfl
        rw [if_pos (l3.mpr h3), e12, c9, c10, d5, d6]
        have p8 : (if bI (dT d &&& 8 ≠ 0) = 0 then some (0, s) else if nI (kS p) = nI (dS d) then some (0, s) else some ((1 : Int32), s)) = some (bI (dT d &&& 8 ≠ 0 ∧ dS d ≠ kS p), s) := by
          by_cases h8 : dT d &&& 8 = 0
          · rw [if_pos (bI_eq0.mpr (fun z => z h8)), bI_f (fun z => z.1 h8)]
          · rw [if_neg (fun z => bI_eq0.mp z h8)]
            by_cases he : kS p = dS d
            · rw [if_pos (by rw [he]), bI_f (fun z => z.2 he.symm)]
            · rw [if_neg (fun z => he (qI_inj (by omega) (by omega) z)), bI_t ⟨h8, fun z => he z.symm⟩]
        rw [p8]
        by_cases h4 : dT d &&& 4 = 0
        · rw [if_pos (bI_eq0.mpr (fun z => z h4))]
          congr 2
          refine bI_congr ?_
          rw [decide_eq_true_eq]
          exact ⟨fun z => Or.inr (Or.inr z), fun z => z.elim (fun w => absurd h3 w) (fun w => w.elim (fun v => absurd h4 v.1) id)⟩
        · rw [if_neg (fun z => bI_eq0.mp z h4)]
          by_cases he : kO p = dG d
          · rw [if_pos (by rw [he])]
            congr 2
            refine bI_congr ?_
            rw [decide_eq_true_eq]
            exact ⟨fun z => Or.inr (Or.inr z), fun z => z.elim (fun w => absurd h3 w) (fun w => w.elim (fun v => absurd he.symm v.2) id)⟩
          · rw [if_neg (fun z => he (qI_inj (by omega) (by omega) z)), bI_t]
            rw [decide_eq_true_eq]
            exact Or.inr (Or.inl ⟨h4, fun z => he z.symm⟩)
      · rw [if_neg (fun z => h3 (l3.mp z)), bI_t]
        rw [decide_eq_true_eq]
        exact Or.inl h3
  have z32 : dF d &&& 32 ≠ 0 → zFix d p = true := fun h => by unfold zFix; rw [if_pos h]
  have p20 : (¬ dF d &&& 32 ≠ 0) → (if bI (dT d &&& 16 ≠ 0) = 0 then F_R_resists_47 (nI i) (dT d) on k b g q s else if bI (on &&& 16 ≠ 0) = bI (kF p &&& 16 = 16) then F_R_resists_47 (nI i) (dT d) on k b g q s else some (1, s)) = some (bI (zFix d p = true), s) := by
    intro n32
    have e16 : bI (kF p &&& 16 = 16) = bI (kF p &&& 16 ≠ 0) := bI_congr (hwp.bit (by simp))
    by_cases h16 : dT d &&& 16 = 0
    · rw [if_pos (bI_eq0.mpr (fun z => z h16))]
      exact p47 n32 (fun z => z.1 h16)
    · have eo : bI (dF d &&& 16 ≠ 0) = bI (on &&& 16 ≠ 0) := bI_congr ⟨fun z => (f16.mp z).2, fun z => f16.mpr ⟨h16, z⟩⟩
      rw [if_neg (fun z => bI_eq0.mp z h16), e16]
      by_cases he : bI (on &&& 16 ≠ 0) = bI (kF p &&& 16 ≠ 0)
      · rw [if_pos he]
        exact p47 n32 (fun z => z.2 (eo.trans he))
      · rw [if_neg he, bI_t]
        unfold zFix
        rw [if_neg n32, if_pos ⟨h16, fun z => he (eo.symm.trans z)⟩]
  by_cases h32 : dT d &&& 32 = 0
  · rw [if_pos (bI_eq0.mpr (fun z => z h32))]
    exact p20 (fun z => (f32.mp z).1 h32)
  · rw [if_neg (fun z => bI_eq0.mp z h32)]
    by_cases ho : on &&& 32 = 0
    · rw [if_pos (bI_eq0.mpr (fun z => z ho))]
      exact p20 (fun z => (f32.mp z).2 ho)
    · rw [if_neg (fun z => bI_eq0.mp z ho), bI_t (z32 (f32.mpr ⟨h32, ho⟩))]
end ZM9

/-! the model: a row becomes what a description says -/
theorem i_so {f on m : Int32} (h : (f ^^^ on) &&& m = 0) : on &&& m = f &&& m ∧ zMi f on m = f := by
  have hb : ∀ i, i < 32 → ((f.toBitVec.getLsbD i ^^ on.toBitVec.getLsbD i) && m.toBitVec.getLsbD i) = false := by
    intro i hi
    have := congrArg (fun x : Int32 => x.toBitVec.getLsbD i) h
    simp only [Int32.toBitVec_and, Int32.toBitVec_xor, BitVec.getLsbD_and, BitVec.getLsbD_xor] at this
    rw [this]
    show (0#32).getLsbD i = false
    exact BitVec.getLsbD_zero
  constructor
  · apply Int32.toBitVec_inj.mp
    apply BitVec.eq_of_getLsbD_eq
    intro i hi
    have := hb i hi
    simp only [Int32.toBitVec_and, BitVec.getLsbD_and]
    revert this
    cases f.toBitVec.getLsbD i <;> cases on.toBitVec.getLsbD i <;> cases m.toBitVec.getLsbD i <;> decide
  · unfold zMi
    apply Int32.toBitVec_inj.mp
    apply BitVec.eq_of_getLsbD_eq
    intro i hi
    have := hb i hi
    simp only [Int32.toBitVec_and, Int32.toBitVec_or, Int32.toBitVec_xor, BitVec.getLsbD_and, BitVec.getLsbD_or, BitVec.getLsbD_xor, i_m1 hi]
    revert this
    cases f.toBitVec.getLsbD i <;> cases on.toBitVec.getLsbD i <;> cases m.toBitVec.getLsbD i <;> decide
theorem zB2_mi (d : zDs) (on : Int32) (p : zPr) (hF : dF d = on &&& dT d &&& 50) : zB2 d p = (kK p, zMi (kF p) on (dT d &&& 50), kD p, kN p, kO p, kS p) := by
  unfold zB2 zMi
  rw [hF, Int32.and_assoc]
/-- what is so already stays -/
theorem zSo_id {d : zDs} {on : Int32} {p : zPr} (hF : dF d = on &&& dT d &&& 50) (hwp : zWp p) (h : zSo d on p) : zBec d p = p ∧ zChg d p = false := by
  obtain ⟨h1, h2, h3, h4, h5, h6⟩ := h
  obtain ⟨e1, e2⟩ := i_so h1
  have hdf : dF d = kF p &&& (dT d &&& 50) := by rw [hF, Int32.and_assoc, e1]
  have b1 : zB1 d p = p := by
    unfold zB1
    by_cases h64 : kF p &&& 64 = 0
    · rw [if_pos h64, if_pos (h3.resolve_right (fun z => z h64))]
    · rw [if_neg h64, if_pos (h2.resolve_right h64)]
  have b2 : zB2 d p = p := by rw [zB2_mi d on p hF, e2]; rfl
  have b3 : zB3 d p = p := by
    unfold zB3
    by_cases ht : dT d &&& 1 = 0
    · rw [if_pos ht]
    · rw [if_neg ht]
      obtain ⟨z1, z2, z3⟩ := h4 ht
      rw [← z1, ← z2, ← z3]; rfl
  have b4 : zB4 d p = p := by
    unfold zB4
    by_cases ht : dT d &&& 4 = 0
    · rw [if_pos ht]
    · rw [if_neg ht]
      have h64 : kF p &&& 64 ≠ 0 := h3.resolve_left (fun z => ht (i_sub (by decide) z))
      obtain ⟨z1, z2⟩ := hwp.acc h64
      rw [← h5 ht, ← z1, ← z2]; rfl
  have b5 : zB5 d p = p := by
    unfold zB5
    by_cases ht : dT d &&& 8 = 0
    · rw [if_pos ht]
    · rw [if_neg ht, ← h6 ht]; rfl
  refine ⟨by unfold zBec; rw [b1, b2, b3, b4, b5], ?_⟩
  unfold zChg
  by_cases h32 : kF p &&& 32 = 0
  · rw [decide_eq_true h32, Bool.true_and]
    have hd : ∀ m : Int32, dF d &&& m = (kF p &&& m) &&& (dT d &&& 50) := by
      intro m
      rw [hdf, Int32.and_assoc, Int32.and_comm (dT d &&& 50) m, ← Int32.and_assoc]
    unfold zFix
    rw [if_neg (fun z => z (by rw [hd, h32, Int32.zero_and]))]
    rw [if_neg (fun z => z.2 (by
      have ht := (i_b16 (dT d)).resolve_left z.1
      have e : dF d &&& 16 = kF p &&& 16 := by
        rw [hd, Int32.and_comm (dT d) 50, ← Int32.and_assoc, Int32.and_assoc (kF p) 16 50, show (16 : Int32) &&& 50 = 16 from rfl, Int32.and_assoc, Int32.and_comm 16, ht]
      rw [e]))]
    by_cases h64 : kF p &&& 64 = 0
    · rw [if_neg (fun z => z h64), if_neg (fun z => (h3.resolve_right (fun w => w h64) ▸ z) rfl)]
      apply decide_eq_false
      intro z
      rcases z.2 with w | w
      · exact w (by rw [hd, z.1, Int32.zero_and])
      · exact w.2 (h4 w.1)
    · rw [if_pos h64]
      apply decide_eq_false
      rintro (z | z | z)
      · exact z (h2.resolve_right h64)
      · exact z.2 (h5 z.1).symm
      · exact z.2 (h6 z.1).symm
  · rw [decide_eq_false h32, Bool.false_and]
/-- only the row i changes, and not its owner, key, order -/
def zRF (s t : zSt) (i : Nat) : Prop := (zCF s t ∧ zKC s t) ∧ (gI t 13 = gI s 13 ∧ gI t 15 = gI s 15 ∧ gI t 16 = gI s 16) ∧ (gA t 4 = gA s 4 ∧ gA t 5 = gA s 5 ∧ gA t 6 = gA s 6 ∧ gB t 1 = gB s 1) ∧ ∀ j, j ≠ i → zRK s t j
theorem zRF.rf (s : zSt) (i : Nat) : zRF s s i := ⟨⟨zCF.rf s, zKC.rf s⟩, ⟨rfl, rfl, rfl⟩, ⟨rfl, rfl, rfl, rfl⟩, fun j _ => zRK.rf s j⟩
theorem zRF.tr {a b c : zSt} {i : Nat} (h1 : zRF a b i) (h2 : zRF b c i) : zRF a c i := ⟨⟨h1.1.1.tr h2.1.1, h1.1.2.tr h2.1.2⟩, ⟨h2.2.1.1.trans h1.2.1.1, h2.2.1.2.1.trans h1.2.1.2.1, h2.2.1.2.2.trans h1.2.1.2.2⟩, ⟨h2.2.2.1.1.trans h1.2.2.1.1, h2.2.2.1.2.1.trans h1.2.2.1.2.1, h2.2.2.1.2.2.1.trans h1.2.2.1.2.2.1, h2.2.2.1.2.2.2.trans h1.2.2.1.2.2.2⟩, fun j hj => (h1.2.2.2 j hj).tr (h2.2.2.2 j hj)⟩
theorem zRF.au (s : zSt) {k : Nat} (hk : 7 ≤ k) (i : Nat) (v : Int32) : zRF s (sAu s k i v) i := by
  have e : ∀ j, j < 7 → gA (sAu s k i v) j = gA s j := by
    intro j hj
    unfold sAu
    rw [gA_sA, if_neg (by omega)]
  refine ⟨⟨zCF.sAu s (by omega) _ _, zKC.sAu s (by omega) _ _⟩, ⟨rfl, rfl, rfl⟩, ⟨e 4 (by decide), e 5 (by decide), e 6 (by decide), rfl⟩, fun j hj => ⟨rfl, rfl, ?_, ?_, ?_, ?_⟩⟩
  · rw [gA_sAu, if_neg (fun q => hj q.2)]
  · rw [gA_sAu, if_neg (fun q => hj q.2)]
  · rw [gA_sAu, if_neg (fun q => hj q.2)]
  · rw [gA_sAu, if_neg (fun q => hj q.2)]
theorem zRF.bu (s : zSt) (i : Nat) (v : Int64) : zRF s (sBu s 2 i v) i := by
  refine ⟨⟨zCF.sBu s _ _ _, zKC.sBu s (by decide) _ _⟩, ⟨rfl, rfl, rfl⟩, ⟨rfl, rfl, rfl, ?_⟩, fun j hj => ⟨?_, ?_, rfl, rfl, rfl, rfl⟩⟩
  · unfold sBu
    rw [gB_sB, if_neg (by decide)]
  · rw [gB_sBu, if_neg (fun q => hj q.2)]
  · rw [gB_sBu, if_neg (fun q => hj q.2)]
/-- the row i is f d b g q -/
def zRT (s t : zSt) (i : Nat) (f d : Int32) (b : Int64) (g q : Int32) : Prop := zRF s t i ∧ gA t 7 i = f ∧ gA t 8 i = d ∧ gB t 2 i = b ∧ gA t 9 i = g ∧ gA t 10 i = q
section ZRT
variable {s t : zSt} {i : Nat} {f d : Int32} {b : Int64} {g q : Int32}
theorem zRT.s7 (h : zRT s t i f d b g q) (v : Int32) : zRT s (sAu t 7 i v) i v d b g q := ⟨h.1.tr (zRF.au t (by decide) i v), by rw [gA_sAu, if_pos ⟨rfl, rfl⟩], by rw [gA_sAu, if_neg (by simp)]; exact h.2.2.1, h.2.2.2.1, by rw [gA_sAu, if_neg (by simp)]; exact h.2.2.2.2.1, by rw [gA_sAu, if_neg (by simp)]; exact h.2.2.2.2.2⟩
theorem zRT.s8 (h : zRT s t i f d b g q) (v : Int32) : zRT s (sAu t 8 i v) i f v b g q := ⟨h.1.tr (zRF.au t (by decide) i v), by rw [gA_sAu, if_neg (by simp)]; exact h.2.1, by rw [gA_sAu, if_pos ⟨rfl, rfl⟩], h.2.2.2.1, by rw [gA_sAu, if_neg (by simp)]; exact h.2.2.2.2.1, by rw [gA_sAu, if_neg (by simp)]; exact h.2.2.2.2.2⟩
theorem zRT.s9 (h : zRT s t i f d b g q) (v : Int32) : zRT s (sAu t 9 i v) i f d b v q := ⟨h.1.tr (zRF.au t (by decide) i v), by rw [gA_sAu, if_neg (by simp)]; exact h.2.1, by rw [gA_sAu, if_neg (by simp)]; exact h.2.2.1, h.2.2.2.1, by rw [gA_sAu, if_pos ⟨rfl, rfl⟩], by rw [gA_sAu, if_neg (by simp)]; exact h.2.2.2.2.2⟩
theorem zRT.s10 (h : zRT s t i f d b g q) (v : Int32) : zRT s (sAu t 10 i v) i f d b g v := ⟨h.1.tr (zRF.au t (by decide) i v), by rw [gA_sAu, if_neg (by simp)]; exact h.2.1, by rw [gA_sAu, if_neg (by simp)]; exact h.2.2.1, h.2.2.2.1, by rw [gA_sAu, if_neg (by simp)]; exact h.2.2.2.2.1, by rw [gA_sAu, if_pos ⟨rfl, rfl⟩]⟩
theorem zRT.s2 (h : zRT s t i f d b g q) (v : Int64) : zRT s (sBu t 2 i v) i f d v g q := ⟨h.1.tr (zRF.bu t i v), h.2.1, h.2.2.1, by rw [gB_sBu, if_pos ⟨rfl, rfl⟩], h.2.2.2.2.1, h.2.2.2.2.2⟩
theorem zRT.put (h : zRT s t i f d b g q) (hi : i < 8400) (m v : Int32) : ∃ u, F_R_put_0 (nI i) m v t = some ((), u) ∧ zRT s u i (if v = 0 then f &&& (m ^^^ (-1)) else f ||| m) d b g q := by
  by_cases hv : v = 0
  · subst hv
    refine ⟨_, m_put0 m hi, ?_⟩
    have := h.s7 (gA t 7 i &&& (m ^^^ (-1)))
    rw [if_pos rfl, ← h.2.1]
    exact this
  · refine ⟨_, m_put1 m v hv hi, ?_⟩
    have := h.s7 (gA t 7 i ||| m)
    rw [if_neg hv, ← h.2.1]
    exact this
theorem m_any363 (h : zRT s t i f d b g q) (hi : i < 8400) (told x11 : Int32) : ∃ u, F_R_defineAny_363 told x11 (nI i) t = some (0, u) ∧ zRT s u i f d b g (if told &&& 8 = 0 then q else x11) := by
  unfold F_R_defineAny_363 F_R_defineAny_382
  rw [m_told, zb_some]
  by_cases h8 : told &&& 8 = 0
  · rw [if_pos (bI_eq0.mpr (fun z => z h8)), if_pos h8]; exact ⟨_, rfl, h⟩
  · rw [if_neg (fun z => bI_eq0.mp z h8), if_neg h8, if_pos (zin_nI' hi (by decide)), nI_clamp (by omega)]; exact ⟨_, rfl, h.s10 x11⟩
theorem m_any345 (h : zRT s t i f d b g q) (hi : i < 8400) (told x10 x11 : Int32) : ∃ u, F_R_defineAny_345 told x10 x11 (nI i) t = some (0, u) ∧ zRT s u i f d b (if told &&& 4 = 0 then g else x10) (if told &&& 8 = 0 then q else x11) := by
  unfold F_R_defineAny_345
  rw [m_told, zb_some]
  by_cases h8 : told &&& 4 = 0
  · rw [if_pos (bI_eq0.mpr (fun z => z h8)), if_pos h8]; exact m_any363 h hi told x11
  · rw [if_neg (fun z => bI_eq0.mp z h8), if_neg h8, if_pos (zin_nI' hi (by decide)), nI_clamp (by omega)]; exact m_any363 (h.s9 x10) hi told x11
theorem m_anyF {on told m : Int32} (hm : on &&& m = 0 ∨ on &&& m = m) (hm2 : told &&& m = 0 ∨ told &&& m = m) (h : zRT s t i f d b g q) (hi : i < 8400) (K : zSt → Option (Int32 × zSt)) (f2 d2 : Int32) (b2 : Int64) (g2 q2 : Int32) (hK : ∀ t, zRT s t i (zMi f on (told &&& m)) d b g q → ∃ u, K t = some (0, u) ∧ zRT s u i f2 d2 b2 g2 q2) : ∃ u, (zb (F_R_isTold told m t) (fun v15 s16 => (if v15 = 0 then K s16 else (zb (F_R_isTold on m s16) (fun v21 s22 => (zb (F_R_put_0 (nI i) m v21 s22) (fun v23 s24 => K s24)))))))= some (0, u) ∧ zRT s u i f2 d2 b2 g2 q2 := by
  rw [m_told, zb_some]
  have e := i_step f on told m hm2 hm
  by_cases h8 : told &&& m = 0
  · rw [if_pos (bI_eq0.mpr (fun z => z h8))]
    rw [if_pos h8] at e
    rw [← e] at hK
    exact hK t h
  · rw [if_neg (fun z => bI_eq0.mp z h8), m_told, zb_some]
    rw [if_neg h8] at e
    obtain ⟨u, hu1, hu2⟩ := h.put hi m (bI (on &&& m ≠ 0))
    rw [hu1, zb_some]
    apply hK
    rw [← e]
    by_cases ho : on &&& m = 0
    · rw [if_pos (bI_eq0.mpr (fun z => z ho))] at hu2
      rw [if_pos ho]; exact hu2
    · rw [if_neg (fun z => bI_eq0.mp z ho)] at hu2
      rw [if_neg ho]; exact hu2
theorem m_any237 (h : zRT s t i f d b g q) (hi : i < 8400) (told on x6 : Int32) (x7 : Int64) (x10 x11 : Int32) : ∃ u, F_R_defineAny_237 told on x6 x7 x10 x11 (nI i) t = some (0, u) ∧ zRT s u i (zMi f on (told &&& 50)) (if told &&& 1 = 0 then d else x6) (if told &&& 1 = 0 then b else x7) (if told &&& 4 = 0 then g else x10) (if told &&& 8 = 0 then q else x11) := by
  have h273 : ∀ t d b, zRT s t i f d b g q → ∃ u, F_R_defineAny_273 told on x10 x11 (nI i) t = some (0, u) ∧ zRT s u i (zMi f on (told &&& 50)) d b (if told &&& 4 = 0 then g else x10) (if told &&& 8 = 0 then q else x11) := by
    intro t d b h
    unfold F_R_defineAny_273
    refine m_anyF (i_b2 on) (i_b2 told) h hi (fun s => F_R_defineAny_295 told on x10 x11 (nI i) s) _ _ _ _ _ (fun t h => ?_)
    show ∃ u, F_R_defineAny_295 told on x10 x11 (nI i) t = some (0, u) ∧ _
    unfold F_R_defineAny_295
    refine m_anyF (i_b16 on) (i_b16 told) h hi (fun s => F_R_defineAny_320 told on x10 x11 (nI i) s) _ _ _ _ _ (fun t h => ?_)
    show ∃ u, F_R_defineAny_320 told on x10 x11 (nI i) t = some (0, u) ∧ _
    unfold F_R_defineAny_320
    refine m_anyF (i_b32 on) (i_b32 told) h hi (fun s => F_R_defineAny_345 told x10 x11 (nI i) s) _ _ _ _ _ (fun t h => ?_)
    rw [i_mix3, i_and50] at h
    exact m_any345 h hi told x10 x11
  unfold F_R_defineAny_237 F_R_defineAny_255
  rw [m_told, zb_some]
  by_cases h1 : told &&& 1 = 0
  · rw [if_pos (bI_eq0.mpr (fun z => z h1)), m_told, zb_some, if_pos (bI_eq0.mpr (fun z => z h1)), if_pos h1, if_pos h1]
    exact h273 t d b h
  · rw [if_neg (fun z => bI_eq0.mp z h1), if_pos (zin_nI' hi (by decide)), m_told, zb_some, if_neg (fun z => bI_eq0.mp z h1), if_pos (zin_nI' hi (by decide)), nI_clamp (by omega), if_neg h1, if_neg h1]
    exact h273 _ _ _ ((h.s8 x6).s2 x7)
end ZRT
theorem i_tn1 : ∀ f ∈ zFd, (f ||| 64) &&& (2 ^^^ -1) = (f &&& 48) ||| 64 := by decide
theorem i_tn2 : ∀ f ∈ zFa, (f &&& (64 ^^^ -1)) &&& (2 ^^^ -1) = f &&& 48 := by decide
theorem zMi64 (f on t : Int32) : zMi f on (t &&& 50) &&& 64 = f &&& 64 := by
  unfold zMi
  have e : ∀ i, i < 32 → ((64 : Int32).toBitVec.getLsbD i && (50 : Int32).toBitVec.getLsbD i) = false := by decide
  apply Int32.toBitVec_inj.mp
  apply BitVec.eq_of_getLsbD_eq
  intro i hi
  have := e i hi
  simp only [Int32.toBitVec_and, Int32.toBitVec_or, Int32.toBitVec_xor, BitVec.getLsbD_and, BitVec.getLsbD_or, BitVec.getLsbD_xor, i_m1 hi]
  revert this
  cases f.toBitVec.getLsbD i <;> cases on.toBitVec.getLsbD i <;> cases t.toBitVec.getLsbD i <;> cases (64 : Int32).toBitVec.getLsbD i <;> cases (50 : Int32).toBitVec.getLsbD i <;> decide
/-- the fields of a property as the model keeps them -/
def zRTp (s t : zSt) (i : Nat) (p : zPr) : Prop := zRT s t i (kF p) (if kF p &&& 64 = 0 then kD p else 0) (if kF p &&& 64 = 0 then zBt (kD p) (kN p) (kO p) else 0) (if kF p &&& 64 = 0 then 0 else nI (kO p)) (if kF p &&& 64 = 0 then 0 else nI (kS p))
theorem zRTp.of {s : zSt} {i : Nat} {p : zPr} (h : zR1 s i p) : zRTp s s i p := ⟨zRF.rf s i, h.2⟩
theorem zRTp.r1 {s t : zSt} {i : Nat} {p : zPr} (h : zRTp s t i p) (hk : gB s 1 i = kK p) : zR1 t i p := ⟨by rw [h.1.2.2.1.2.2.2]; exact hk, h.2⟩
section ZMA
variable {d : zDs} {told on k : Int32} {b : Int64} {g q : Int32} {s t : zSt} {i : Nat} {p : zPr}
/-- the description's own part, on a property of its kind -/
theorem m_becT (hd : zDm d told on k b g q) (hi : i < 8400) (h : zRTp s t i p) (hc : if kF p &&& 64 = 0 then told &&& 12 = 0 else told &&& 3 = 0) : ∃ u, F_R_defineAny_237 told on k b g q (nI i) t = some (0, u) ∧ zRTp s u i (zB5 d (zB4 d (zB3 d (zB2 d p)))) := by
  obtain ⟨d1, d2, d3, d4, d5, d6, d7, d8, d9, d10, d11⟩ := hd
  subst d1
  obtain ⟨u, hu1, hu2⟩ := m_any237 h hi (dT d) on k b g q
  refine ⟨u, hu1, ?_⟩
  have e64 := zMi64 (kF p) on (dT d)
  rw [zB2_mi d on p d2]
  unfold zRTp
  by_cases h64 : kF p &&& 64 = 0
  · rw [if_pos h64] at hc
    have h4 : dT d &&& 4 = 0 := i_sub (by decide) hc
    have h8 : dT d &&& 8 = 0 := i_sub (by decide) hc
    rw [if_pos h64, if_pos h64, if_pos h64, if_pos h64, if_pos h4, if_pos h8] at hu2
    have e4 : ∀ p, zB4 d p = p := fun p => if_pos h4
    have e5 : ∀ p, zB5 d p = p := fun p => if_pos h8
    rw [e5, e4]
    unfold zB3
    by_cases h1 : dT d &&& 1 = 0
    · rw [if_pos h1, if_pos h1] at hu2
      rw [if_pos h1]
      show zRT s u i (zMi (kF p) on (dT d &&& 50)) (if zMi (kF p) on (dT d &&& 50) &&& 64 = 0 then kD p else 0) (if zMi (kF p) on (dT d &&& 50) &&& 64 = 0 then zBt (kD p) (kN p) (kO p) else 0) (if zMi (kF p) on (dT d &&& 50) &&& 64 = 0 then 0 else nI (kO p)) (if zMi (kF p) on (dT d &&& 50) &&& 64 = 0 then 0 else nI (kS p))
      rw [e64, if_pos h64, if_pos h64, if_pos h64, if_pos h64]
      exact hu2
    · rw [if_neg h1, if_neg h1] at hu2
      rw [if_neg h1]
      show zRT s u i (zMi (kF p) on (dT d &&& 50)) (if zMi (kF p) on (dT d &&& 50) &&& 64 = 0 then dK d else 0) (if zMi (kF p) on (dT d &&& 50) &&& 64 = 0 then zBt (dK d) (dN d) (dO d) else 0) (if zMi (kF p) on (dT d &&& 50) &&& 64 = 0 then 0 else nI (dO d)) (if zMi (kF p) on (dT d &&& 50) &&& 64 = 0 then 0 else nI (kS p))
      rw [e64, if_pos h64, if_pos h64, if_pos h64, if_pos h64, d4, d3]
      exact hu2
  · rw [if_neg h64] at hc
    have h1 : dT d &&& 1 = 0 := i_sub (by decide) hc
    rw [if_neg h64, if_neg h64, if_neg h64, if_neg h64, if_pos h1, if_pos h1] at hu2
    have e3 : ∀ p, zB3 d p = p := fun p => if_pos h1
    rw [e3]
    have key : ∀ (o2 s2 : Nat) (dd : Int32) (nn : Int64), zRT s u i (zMi (kF p) on (dT d &&& 50)) 0 0 (nI o2) (nI s2) → zRT s u i (zMi (kF p) on (dT d &&& 50)) (if zMi (kF p) on (dT d &&& 50) &&& 64 = 0 then dd else 0) (if zMi (kF p) on (dT d &&& 50) &&& 64 = 0 then zBt dd nn o2 else 0) (if zMi (kF p) on (dT d &&& 50) &&& 64 = 0 then 0 else nI o2) (if zMi (kF p) on (dT d &&& 50) &&& 64 = 0 then 0 else nI s2) := by
      intro o2 s2 dd nn hh
      rw [e64, if_neg h64, if_neg h64, if_neg h64, if_neg h64]
      exact hh
    unfold zB4 zB5
    rw [d5, d6] at hu2
    by_cases h4 : dT d &&& 4 = 0
    · rw [if_pos h4] at hu2 ⊢
      by_cases h8 : dT d &&& 8 = 0
      · rw [if_pos h8] at hu2 ⊢
        exact key (kO p) (kS p) _ _ hu2
      · rw [if_neg h8] at hu2 ⊢
        exact key (kO p) (dS d) _ _ hu2
    · rw [if_neg h4] at hu2 ⊢
      by_cases h8 : dT d &&& 8 = 0
      · rw [if_pos h8] at hu2 ⊢
        exact key (dG d) (kS p) _ _ hu2
      · rw [if_neg h8] at hu2 ⊢
        exact key (dG d) (dS d) _ _ hu2
/-- the turn, and then the description's part -/
theorem m_any124 (hd : zDm d told on k b g q) (hi : i < 8400) (hp : zR1 s i p) (hwp : zWp p) : ∃ u, F_R_defineAny_124 told on k b g q (nI i) s = some (0, u) ∧ zRTp s u i (zBec d p) := by
  have hd' := hd
  obtain ⟨d1, d2, d3, d4, d5, d6, d7, d8, d9, d10, d11⟩ := hd
  have l3 := zTd.le d11.1 (m := 3) (by simp)
  have l12 := zTd.le d11.1 (m := 12) (by simp)
  have hz : zin (nI i) 8400 := zin_nI' hi (by decide)
  subst d1
  have h0 := zRTp.of hp
  have turn : ∀ f v : Int32, (if v = 0 then kF p &&& (64 ^^^ (-1)) else kF p ||| 64) &&& (2 ^^^ (-1)) = f → (if f &&& 64 = 0 then dT d &&& 12 = 0 else dT d &&& 3 = 0) → ∃ u, F_R_defineAny_194 (dT d) on k b g q (nI i) v 64 (nI i) s = some (0, u) ∧ zRTp s u i (zB5 d (zB4 d (zB3 d (zB2 d (kK p, f, 0, 0, 0, 0))))) := by
    intro f v hf hc
    unfold F_R_defineAny_194
    obtain ⟨u1, w1, w2⟩ := h0.put hi 64 v
    rw [w1, zb_some]
    obtain ⟨u2, w3, w4⟩ := w2.put hi 2 0
    rw [w3, zb_some, if_pos hz, if_pos hz, if_pos hz, if_pos hz, nI_clamp (by omega)]
    rw [if_pos rfl, hf] at w4
    have w5 := ((((w4.s8 0).s2 0).s9 0).s10 0)
    refine m_becT hd' hi (p := (kK p, f, 0, 0, 0, 0)) (s := s) ?_ hc
    show zRT s _ i f (if f &&& 64 = 0 then 0 else 0) (if f &&& 64 = 0 then zBt 0 0 0 else 0) (if f &&& 64 = 0 then 0 else nI 0) (if f &&& 64 = 0 then 0 else nI 0)
    have z1 : (if f &&& 64 = 0 then (0 : Int32) else 0) = 0 := by split <;> rfl
    have z2 : (if f &&& 64 = 0 then zBt 0 0 0 else 0) = 0 := by split <;> rfl
    have z3 : (if f &&& 64 = 0 then (0 : Int32) else nI 0) = 0 := by split <;> rfl
    rw [z1, z2, z3]
    exact w5
  unfold F_R_defineAny_124 F_R_defineAny_142 F_R_defineAny_161 F_R_defineAny_165 F_R_defineAny_166
  simp only [m_has hi hp, zb_some, if_true, if_neg z_one]
  unfold zBec zB1
  by_cases h64 : kF p &&& 64 = 0
  · have hb : bI (kF p &&& 64 = 64) = 0 := bI_eq0.mpr (fun z => (hwp.bit (by simp)).mp z h64)
    have hfd : kF p ∈ zFd := by
      rcases hwp.2 with w | w
      · exact w.1
      · exact absurd h64 (zFa_acc _ w.1)
    rw [if_pos hb, if_pos hb, if_pos hb, if_pos h64]
    have e3 : ∀ A : Option (Int32 × zSt), (if dT d &&& 3 ≤ 0 then A else A) = A := fun A => by split <;> rfl
    rw [e3]
    by_cases h12 : dT d &&& 12 = 0
    · rw [if_pos (l12.mpr h12), if_pos h12]
      exact m_becT hd' hi h0 (by rw [if_pos h64]; exact h12)
    · rw [if_neg (fun z => h12 (l12.mp z)), if_neg h12]
      have h3 : dT d &&& 3 = 0 := d11.2.resolve_right h12
      have := turn ((kF p &&& 48) ||| 64) 1 (by rw [if_neg z_one]; exact i_tn1 _ hfd) (by
        have : ∀ f ∈ zFd, ((f &&& 48) ||| 64) &&& 64 ≠ 0 := by decide
        rw [if_neg (this _ hfd)]; exact h3)
      unfold zTurn
      rw [if_pos h64]
      exact this
  · have hb : ¬ bI (kF p &&& 64 = 64) = 0 := fun z => bI_eq0.mp z ((hwp.bit (by simp)).mpr h64)
    have hfa : kF p ∈ zFa := by
      rcases hwp.2 with w | w
      · exact absurd (zFd_no _ w.1) h64
      · exact w.1
    rw [if_neg hb, if_neg hb, if_neg hb, if_neg h64]
    have e12 : ∀ A : Option (Int32 × zSt), (if dT d &&& 12 ≤ 0 then A else A) = A := fun A => by split <;> rfl
    rw [e12]
    by_cases h3 : dT d &&& 3 = 0
    · rw [if_pos (l3.mpr h3), if_pos h3]
      exact m_becT hd' hi h0 (by rw [if_neg h64]; exact h3)
    · rw [if_neg (fun z => h3 (l3.mp z)), if_neg h3]
      have h12 : dT d &&& 12 = 0 := d11.2.resolve_left h3
      have := turn (kF p &&& 48) 0 (by rw [if_pos rfl]; exact i_tn2 _ hfa) (by
        have : ∀ f ∈ zFa, (f &&& 48) &&& 64 = 0 := by decide
        rw [if_pos (this _ hfa)]; exact h12)
      unfold zTurn
      rw [if_neg h64]
      exact this
end ZMA

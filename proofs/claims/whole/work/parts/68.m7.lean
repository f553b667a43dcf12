/-! the model: operand, new rows, new objects -/
def sAu (s : zSt) (k i : Nat) (v : Int32) : zSt := sA s k (upd (gA s k) i v)
def sBu (s : zSt) (k i : Nat) (v : Int64) : zSt := sB s k (vp_updL (gB s k) i v)
theorem gA_sAu (s : zSt) (k i : Nat) (v : Int32) (j n : Nat) : gA (sAu s k i v) j n = if j = k ∧ n = i then v else gA s j n := by
  unfold sAu
  rw [gA_sA]
  by_cases h : j = k
  · rw [if_pos h]
    show (if n = i then v else gA s k n) = _
    by_cases h2 : n = i
    · rw [if_pos h2, if_pos ⟨h, h2⟩]
    · rw [if_neg h2, if_neg (fun q => h2 q.2), h]
  · rw [if_neg h, if_neg (fun q => h q.1)]
theorem gB_sBu (s : zSt) (k i : Nat) (v : Int64) (j n : Nat) : gB (sBu s k i v) j n = if j = k ∧ n = i then v else gB s j n := by
  unfold sBu
  rw [gB_sB]
  by_cases h : j = k
  · rw [if_pos h]
    show (if n = i then v else gB s k n) = _
    by_cases h2 : n = i
    · rw [if_pos h2, if_pos ⟨h, h2⟩]
    · rw [if_neg h2, if_neg (fun q => h2 q.2), h]
  · rw [if_neg h, if_neg (fun q => h q.1)]
theorem gB_sAu (s : zSt) (k i : Nat) (v : Int32) (j : Nat) : gB (sAu s k i v) j = gB s j := rfl
theorem gA_sBu (s : zSt) (k i : Nat) (v : Int64) (j : Nat) : gA (sBu s k i v) j = gA s j := rfl
theorem gI_sAu (s : zSt) (k i : Nat) (v : Int32) (j : Nat) : gI (sAu s k i v) j = gI s j := rfl
theorem gI_sBu (s : zSt) (k i : Nat) (v : Int64) (j : Nat) : gI (sBu s k i v) j = gI s j := rfl
theorem zKC.sAu (s : zSt) {k : Nat} (hk : 1 ≤ k) (i : Nat) (v : Int32) : zKC s (sAu s k i v) := zKC.sA s hk _
theorem zKC.sBu (s : zSt) {k : Nat} (hk : k = 1 ∨ k = 2) (i : Nat) (v : Int64) : zKC s (sBu s k i v) := zKC.sB s hk _
theorem zCF.sAu (s : zSt) {k : Nat} (hk : 4 ≤ k) (i : Nat) (v : Int32) : zCF s (sAu s k i v) := zCF.sA s hk _
theorem zCF.sBu (s : zSt) (k i : Nat) (v : Int64) : zCF s (sBu s k i v) := zCF.sB s k _
def zAd8 (s : zSt) (i : Nat) (o : Int32) (k : Int64) (f d : Int32) (b : Int64) (y : Int32) : zSt :=
  sAu (sAu (sBu (sAu (sAu (sAu (sBu (sAu (sI s 15 y) 5 i o) 1 i k) 6 i (gI s 16)) 7 i f) 8 i d) 2 i b) 9 i 0) 10 i 0
def zAdd (s : zSt) (i : Nat) (o : Int32) (k : Int64) (f d : Int32) (b : Int64) (y : Int32) : zSt := sI (zAd8 s i o k f d b y) 16 (gI s 16 + 1)
theorem zAdd_I (s : zSt) (i : Nat) (o : Int32) (k : Int64) (f d : Int32) (b : Int64) (y : Int32) (j : Nat) : gI (zAdd s i o k f d b y) j = if j = 16 then gI s 16 + 1 else if j = 15 then y else gI s j := by
  unfold zAdd zAd8
  simp only [gI_sAu, gI_sBu, gI_sI]
theorem zAdd_A (s : zSt) (i : Nat) (o : Int32) (k : Int64) (f d : Int32) (b : Int64) (y : Int32) (j n : Nat) : gA (zAdd s i o k f d b y) j n = if n = i then (if j = 5 then o else if j = 6 then gI s 16 else if j = 7 then f else if j = 8 then d else if j = 9 ∨ j = 10 then 0 else gA s j n) else gA s j n := by
  unfold zAdd zAd8
  simp only [gA_sAu, gA_sBu, gA_sI]
  by_cases hn : n = i
  · simp only [hn, and_true, if_true]
    by_cases h10 : j = 10
    · subst h10; rfl
    · by_cases h9 : j = 9
      · subst h9; rfl
      · by_cases h8 : j = 8
        · subst h8; simp
        · by_cases h7 : j = 7
          · subst h7; simp
          · by_cases h6 : j = 6
            · subst h6; simp
            · by_cases h5 : j = 5
              · subst h5; simp
              · simp only [h5, h6, h7, h8, h9, h10, if_false, or_self]
  · simp only [hn, and_false, if_false]
theorem zAdd_B (s : zSt) (i : Nat) (o : Int32) (k : Int64) (f d : Int32) (b : Int64) (y : Int32) (j n : Nat) : gB (zAdd s i o k f d b y) j n = if n = i then (if j = 1 then k else if j = 2 then b else gB s j n) else gB s j n := by
  unfold zAdd zAd8
  simp only [gB_sAu, gB_sBu, gB_sI]
  by_cases hn : n = i
  · simp only [hn, and_true, if_true]
    by_cases h1 : j = 1
    · subst h1; simp
    · by_cases h2 : j = 2
      · subst h2; simp
      · simp only [h1, h2, if_false]
  · simp only [hn, and_false, if_false]
theorem zAdd_KC (s : zSt) (i : Nat) (o : Int32) (k : Int64) (f d : Int32) (b : Int64) (y : Int32) : zKC s (zAdd s i o k f d b y) :=
  ((((((((((zKC.sI s (by decide) _).tr (zKC.sAu _ (by decide) _ _)).tr (zKC.sBu _ (by decide) _ _)).tr (zKC.sAu _ (by decide) _ _)).tr (zKC.sAu _ (by decide) _ _)).tr (zKC.sAu _ (by decide) _ _)).tr (zKC.sBu _ (by decide) _ _)).tr (zKC.sAu _ (by decide) _ _)).tr (zKC.sAu _ (by decide) _ _)).tr (zKC.sI _ (by decide) _))
theorem zAdd_CF (s : zSt) (i : Nat) (o : Int32) (k : Int64) (f d : Int32) (b : Int64) (y : Int32) : zCF s (zAdd s i o k f d b y) :=
  ((((((((((zCF.sI s (by decide) _).tr (zCF.sAu _ (by decide) _ _)).tr (zCF.sBu _ _ _ _)).tr (zCF.sAu _ (by decide) _ _)).tr (zCF.sAu _ (by decide) _ _)).tr (zCF.sAu _ (by decide) _ _)).tr (zCF.sBu _ _ _ _)).tr (zCF.sAu _ (by decide) _ _)).tr (zCF.sAu _ (by decide) _ _)).tr (zCF.sI _ (by decide) _))
theorem m_add51 {x8 : Int32} (hz : zin x8 8400) (x1 : Int32) (x2 : Int64) (x4 x5 : Int32) (x6 : Int64) (y0 : Int32) (s : zSt) : F_R_add_51 x1 x2 x4 x5 x6 x8 y0 s = some (x8, zAdd s x8.toNatClampNeg x1 x2 x4 x5 x6 y0) := by
  unfold F_R_add_51
  exact (if_pos hz).trans ((if_pos hz).trans ((if_pos hz).trans ((if_pos hz).trans ((if_pos hz).trans ((if_pos hz).trans ((if_pos hz).trans ((if_pos hz).trans rfl)))))))
/-- where the row of a new property stands among its object's rows -/
def zInr (k : Int64) (i : Nat) : List Nat → List zPr → List Nat
  | j :: is, p :: ps => if zAh (kK p) k then j :: zInr k i is ps else i :: j :: is
  | _, _ => [i]
theorem zInr_mem {s : zSt} {k : Int64} {i : Nat} : ∀ (is : List Nat) (ps : List zPr), zRw s is ps → ∀ j, j ∈ zInr k i is ps ↔ j = i ∨ j ∈ is := by
  intro is
  induction is with
  | nil => intro ps h j; cases ps with
    | nil => show j ∈ [i] ↔ _; simp
    | cons p ps => exact h.elim
  | cons a is ih => intro ps h j; cases ps with
    | nil => exact h.elim
    | cons p ps =>
      show j ∈ (if zAh (kK p) k then a :: zInr k i is ps else i :: a :: is) ↔ _
      split
      · rw [List.mem_cons, ih ps h.2 j, List.mem_cons]
        exact ⟨fun q => q.elim (fun z => Or.inr (Or.inl z)) (fun z => z.elim Or.inl (fun z => Or.inr (Or.inr z))), fun q => q.elim (fun z => Or.inr (Or.inl z)) (fun z => z.elim Or.inl (fun z => Or.inr (Or.inr z)))⟩
      · rw [List.mem_cons]
theorem zInr_nd {s : zSt} {k : Int64} {i : Nat} : ∀ (is : List Nat) (ps : List zPr), zRw s is ps → is.Nodup → i ∉ is → (zInr k i is ps).Nodup := by
  intro is
  induction is with
  | nil => intro ps h _ _; cases ps with
    | nil => show [i].Nodup; simp
    | cons p ps => exact h.elim
  | cons a is ih => intro ps h hn hi; cases ps with
    | nil => exact h.elim
    | cons p ps =>
      show (if zAh (kK p) k then a :: zInr k i is ps else i :: a :: is).Nodup
      rw [List.nodup_cons] at hn
      rw [List.mem_cons, not_or] at hi
      split
      · rw [List.nodup_cons, zInr_mem is ps h.2]
        exact ⟨fun q => q.elim (fun z => hi.1 z.symm) hn.1, ih ps h.2 hn.2 hi.2⟩
      · rw [List.nodup_cons, List.mem_cons, List.nodup_cons]
        exact ⟨fun q => q.elim hi.1 hi.2, hn⟩
theorem zInr_rw {s t : zSt} {k : Int64} {i : Nat} {q : zPr} (hq : zR1 t i q) : ∀ (is : List Nat) (ps : List zPr), zRw s is ps → (∀ j ∈ is, zRK s t j) → zRw t (zInr k i is ps) (zIns k q ps) := by
  intro is
  induction is with
  | nil => intro ps h _; cases ps with
    | nil => exact ⟨hq, trivial⟩
    | cons p ps => exact h.elim
  | cons a is ih => intro ps h hk; cases ps with
    | nil => exact h.elim
    | cons p ps =>
      show zRw t (if zAh (kK p) k then a :: zInr k i is ps else i :: a :: is) (if zAh (kK p) k then p :: zIns k q ps else q :: p :: ps)
      by_cases hc : zAh (kK p) k
      · rw [if_pos hc, if_pos hc]
        exact ⟨(hk a List.mem_cons_self).r1 h.1, ih ps h.2 (fun j hj => hk j (List.mem_cons_of_mem _ hj))⟩
      · rw [if_neg hc, if_neg hc]
        exact ⟨hq, zRw_on (a :: is) (p :: ps) hk h⟩
theorem zInr_pw {s : zSt} {k : Int64} {i : Nat} {R : Nat → Nat → Prop} : ∀ (is : List Nat) (ps : List zPr), zRw s is ps → is.Pairwise R → (∀ j ∈ is, R j i) → (0 ≤ k → ∀ j ∈ is, R i j) → (zInr k i is ps).Pairwise R := by
  intro is
  induction is with
  | nil => intro ps h _ _ _; cases ps with
    | nil => show [i].Pairwise R; simp
    | cons p ps => exact h.elim
  | cons a is ih => intro ps h hp h1 h2; cases ps with
    | nil => exact h.elim
    | cons p ps =>
      show (if zAh (kK p) k then a :: zInr k i is ps else i :: a :: is).Pairwise R
      have hp' := List.pairwise_cons.mp hp
      by_cases hc : zAh (kK p) k
      · rw [if_pos hc, List.pairwise_cons]
        refine ⟨fun j hj => ?_, ih ps h.2 hp'.2 (fun j hj => h1 j (List.mem_cons_of_mem _ hj)) (fun hk j hj => h2 hk j (List.mem_cons_of_mem _ hj))⟩
        rcases (zInr_mem is ps h.2 j).mp hj with e | e
        · rw [e]; exact h1 a List.mem_cons_self
        · exact hp'.1 j e
      · rw [if_neg hc, List.pairwise_cons]
        refine ⟨fun j hj => ?_, hp⟩
        exact h2 (Int64.not_lt.mp (fun q => hc (Or.inl q))) j hj
section ZM7
variable {σ : zSg} {ρ : Nat → List Nat} {ow od : Nat → Nat} {nr md : Nat} {s : zSt}
theorem m_add3 (h : zMo σ ρ ow od nr md s) (hw : gn σ ≤ 600) (x1 : Int32) (x2 : Int64) (x4 x5 : Int32) (x6 : Int64) : ∀ (d j n : Nat), d + j = nr → d < n → ∃ i, i ≤ nr ∧ (i < nr → ow i = 0) ∧ F_R_add_3 n x1 x2 x4 x5 x6 (nI j) s = F_R_add_28 x1 x2 x4 x5 x6 (nI i) s := by
  obtain ⟨a1, a2, a3, a4, a5⟩ := h.1
  intro d
  induction d with
  | zero =>
    intro j n hd hn
    obtain ⟨m, rfl⟩ : ∃ m, n = m + 1 := ⟨n - 1, by omega⟩
    refine ⟨j, by omega, fun q => by omega, ?_⟩
    rw [F_R_add_3, a2, if_pos ((qI_le (by omega) (by omega)).mpr (by omega))]
  | succ d ih =>
    intro j n hd hn
    obtain ⟨m, rfl⟩ : ∃ m, n = m + 1 := ⟨n - 1, by omega⟩
    have cj : gA s 5 (nI j).toNatClampNeg = nI (ow j) := by rw [nI_clamp (by omega), (h.2.2.2.2.2.1 j (by omega)).1]
    have hl := (h.2.2.2.2.2.1 j (by omega)).2.1
    rw [F_R_add_3, a2, if_neg (fun q => by have := (qI_le (a := nr) (b := j) (by omega) (by omega)).mp q; omega), if_pos (zin_nI' (by omega) (by decide)), cj]
    by_cases h0 : ow j = 0
    · rw [if_pos ((qI_le0 (by omega)).mpr h0)]
      exact ⟨j, by omega, fun _ => h0, rfl⟩
    · rw [if_neg (fun q => h0 ((qI_le0 (by omega)).mp q)), ← nI_succ]
      exact ih (j + 1) m (by omega) (by omega)
theorem m_add (h : zMo σ ρ ow od nr md s) (hw : gn σ ≤ 600) (x1 : Int32) (x2 : Int64) (x4 x5 : Int32) (x6 : Int64) : ∃ i nr2, i ≤ nr ∧ (i < nr → ow i = 0) ∧ nr ≤ nr2 ∧ i < nr2 ∧ nr2 ≤ nr + 1 ∧ (nr2 = nr + 1 → i = nr) ∧ F_R_add x1 x2 x4 x5 x6 s = some (nI i, zAdd s i x1 x2 x4 x5 x6 (nI nr2)) := by
  obtain ⟨a1, a2, a3, a4, a5⟩ := h.1
  obtain ⟨i, h1, h2, h3⟩ := m_add3 h hw x1 x2 x4 x5 x6 nr 0 zFuel (by omega) (by rw [zFuel_eq]; omega)
  have h3' : F_R_add x1 x2 x4 x5 x6 s = F_R_add_28 x1 x2 x4 x5 x6 (nI i) s := h3
  have hz : zin (nI i) 8400 := zin_nI' (by omega) (by decide)
  rw [h3']
  unfold F_R_add_28
  rw [m_add51 hz, m_add51 hz, a2, nI_clamp (by omega)]
  by_cases e : i = nr
  · refine ⟨i, nr + 1, h1, h2, by omega, by omega, by omega, fun _ => e, ?_⟩
    rw [if_pos (by rw [e]), ← nI_succ]
  · refine ⟨i, nr, h1, h2, by omega, by omega, by omega, fun q => by omega, ?_⟩
    rw [if_neg (fun q => e (qI_inj (by omega) (by omega) q))]
/-- a new row -/
theorem zMo.add (h : zMo σ ρ ow od nr md s) (hmd : md < 600) {o : Nat} (h1 : 1 ≤ o) (h2 : o < gn σ) {i nr2 : Nat} (hi : i ≤ nr) (hi0 : i < nr → ow i = 0) (hn1 : nr ≤ nr2) (hn2 : i < nr2) (hn3 : nr2 ≤ nr + 1) (hn4 : nr2 = nr + 1 → i = nr) {k : Int64} {f d : Int32} {b : Int64} {p : zPr} (hp : kK p = k) (hpf : kF p = f) (hp8 : d = (if kF p &&& 64 = 0 then kD p else 0)) (hp2 : b = (if kF p &&& 64 = 0 then zBt (kD p) (kN p) (kO p) else 0)) (hp9 : (0 : Int32) = (if kF p &&& 64 = 0 then 0 else nI (kO p))) (hp10 : (0 : Int32) = (if kF p &&& 64 = 0 then 0 else nI (kS p))) :
    zMo (zSO σ o (zSL (gO σ o) (zIns k p (oL (gO σ o))))) (fun j => if j = o then zInr k i (ρ o) (oL (gO σ o)) else ρ j) (fun j => if j = i then o else ow j) (fun j => if j = i then md else od j) nr2 (md + 1) (zAdd s i (nI o) k f d b (nI nr2)) := by
  obtain ⟨a1, a2, a3, a4, a5⟩ := h.1
  obtain ⟨g1, g2, g3, g4⟩ := h.obj h1 h2
  have hino : i ∉ ρ o := fun q => by
    obtain ⟨q1, q2⟩ := (g3 i).mp q
    have := hi0 q1
    omega
  have hk : ∀ j, j ≠ i → zRK s (zAdd s i (nI o) k f d b (nI nr2)) j := by
    intro j hj
    refine ⟨?_, ?_, ?_, ?_, ?_, ?_⟩
    · rw [zAdd_B, if_neg hj]
    · rw [zAdd_B, if_neg hj]
    · rw [zAdd_A, if_neg hj]
    · rw [zAdd_A, if_neg hj]
    · rw [zAdd_A, if_neg hj]
    · rw [zAdd_A, if_neg hj]
  have hr1 : zR1 (zAdd s i (nI o) k f d b (nI nr2)) i p := by
    refine ⟨?_, ?_, ?_, ?_, ?_, ?_⟩
    · rw [zAdd_B, if_pos rfl, if_pos rfl, hp]
    · rw [zAdd_A, if_pos rfl, if_neg (by decide), if_neg (by decide), if_pos rfl, hpf]
    · rw [zAdd_A, if_pos rfl, if_neg (by decide), if_neg (by decide), if_neg (by decide), if_pos rfl, hp8]
    · rw [zAdd_B, if_pos rfl, if_neg (by decide), if_pos rfl, hp2]
    · rw [zAdd_A, if_pos rfl, if_neg (by decide), if_neg (by decide), if_neg (by decide), if_neg (by decide), if_pos (by decide), ← hp9]
    · rw [zAdd_A, if_pos rfl, if_neg (by decide), if_neg (by decide), if_neg (by decide), if_neg (by decide), if_pos (by decide), ← hp10]
  refine h.chg h1 h2 (x := zSL (gO σ o) (zIns k p (oL (gO σ o)))) rfl rfl (zAdd_CF _ _ _ _ _ _ _ _) ?_ (fun j hj => ?_) ⟨?_, ?_, by omega, by omega⟩ (fun j hj => ?_) (fun j hj q1 q2 => ?_) (fun j hj q1 q2 => ?_) ⟨?_, ?_, fun j => ?_, ?_⟩
  · rw [zAdd_A]
    have := (h.2.1 o h1 h2).2.2
    by_cases e : o = i
    · rw [if_pos e, if_neg (by decide), if_neg (by decide), if_neg (by decide), if_neg (by decide), if_neg (by decide)]; exact this
    · rw [if_neg e]; exact this
  · rw [zAdd_A]
    by_cases e : j = i
    · rw [if_pos e, if_neg (by decide), if_neg (by decide), if_neg (by decide), if_neg (by decide), if_neg (by decide)]
    · rw [if_neg e]
  · rw [zAdd_I, if_neg (by decide), if_pos rfl]
  · rw [zAdd_I, if_pos rfl, a3, nI_succ]
  · show gA _ 5 j = nI (if j = i then o else ow j) ∧ (if j = i then o else ow j) < gn σ ∧ gA _ 6 j = nI (if j = i then md else od j) ∧ (if j = i then md else od j) < md + 1
    rw [zAdd_A, zAdd_A]
    by_cases e : j = i
    · rw [if_pos e, if_pos e, if_pos e, if_pos e, if_pos rfl, if_neg (by decide), if_pos rfl]
      exact ⟨rfl, h2, a3, by omega⟩
    · rw [if_neg e, if_neg e, if_neg e, if_neg e]
      obtain ⟨w1, w2, w3, w4⟩ := h.2.2.2.2.2.1 j (by omega)
      exact ⟨w1, w2, w3, by omega⟩
  · have e : j ≠ i := fun e => q2 (by rw [e]; exact hi0 (by omega))
    refine ⟨⟨by omega, ?_, ?_⟩, hk j e⟩
    · show (if j = i then o else ow j) = ow j
      rw [if_neg e]
    · show (if j = i then md else od j) = od j
      rw [if_neg e]
  · have e : ¬ j = i := fun e => q1 (if_pos e)
    refine ⟨by omega, ?_⟩
    show ow j = if j = i then o else ow j
    rw [if_neg e]
  · exact zInr_rw hr1 _ _ g1 (fun j hj => hk j (fun e => hino (e ▸ hj)))
  · exact zInr_nd _ _ g1 g2 hino
  · rw [zInr_mem _ _ g1, g3 j]
    show _ ↔ j < nr2 ∧ (if j = i then o else ow j) = o
    by_cases e : j = i
    · rw [if_pos e]; exact ⟨fun _ => ⟨by omega, rfl⟩, fun _ => Or.inl e⟩
    · rw [if_neg e]
      exact ⟨fun q => ⟨by have := (q.resolve_left e).1; omega, (q.resolve_left e).2⟩, fun q => Or.inr ⟨by omega, q.2⟩⟩
  · have hne : ∀ j ∈ ρ o, j ≠ i := fun j hj e => hino (e ▸ hj)
    refine zInr_pw _ _ g1 ?_ (fun j hj _ _ => ?_) (fun hk0 j hj q => ?_)
    · refine List.Pairwise.imp_of_mem ?_ g4
      intro a c ha hc q
      show gB _ 1 a < 0 → gB _ 1 c < 0 → (if a = i then md else od a) < (if c = i then md else od c)
      rw [(hk a (hne a ha)).1, (hk c (hne c hc)).1, if_neg (hne a ha), if_neg (hne c hc)]
      exact q
    · show (if j = i then md else od j) < (if i = i then md else od i)
      rw [if_neg (hne j hj), if_pos rfl]
      exact (h.2.2.2.2.2.1 j ((g3 j).mp hj).1).2.2.2
    · exfalso
      rw [hr1.1, hp] at q
      exact absurd q (Int64.not_lt.mpr hk0)
end ZM7

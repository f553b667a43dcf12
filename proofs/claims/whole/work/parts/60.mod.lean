/-! the model against the same spec -/
def zBt (k : Int32) (n : Int64) (o : Nat) : Int64 := if k = 5 then nL o else n
def zR1 (s : zSt) (i : Nat) (p : zPr) : Prop := gB s 1 i = kK p ∧ gA s 7 i = kF p ∧ gA s 8 i = (if kF p &&& 64 = 0 then kD p else 0) ∧ gB s 2 i = (if kF p &&& 64 = 0 then zBt (kD p) (kN p) (kO p) else 0) ∧ gA s 9 i = (if kF p &&& 64 = 0 then 0 else nI (kO p)) ∧ gA s 10 i = (if kF p &&& 64 = 0 then 0 else nI (kS p))
def zRw (s : zSt) : List Nat → List zPr → Prop
  | [], [] => True
  | i :: is, p :: ps => zR1 s i p ∧ zRw s is ps
  | _, _ => False
def zMo (σ : zSg) (ρ : Nat → List Nat) (ow od : Nat → Nat) (nr md : Nat) (s : zSt) : Prop :=
  (gI s 14 = nI (gn σ) ∧ gI s 15 = nI nr ∧ gI s 16 = nI md ∧ nr ≤ md ∧ md ≤ 600) ∧
  (∀ o, 1 ≤ o → o < gn σ → gA s 2 o = nI (oP (gO σ o)) ∧ gA s 3 o = bI (oA (gO σ o) = true) ∧ gA s 4 o = bI (oE (gO σ o) = false)) ∧
  (∀ o, gn σ ≤ o → gA s 4 o = 0) ∧ (∀ i, i < 24 → gA s 1 i = nI (gR σ i)) ∧
  (gI s 17 = gPK σ ∧ gJ s 3 = zBt (gPK σ) (gPN σ) (gR σ 24) ∧ gI s 18 = gRK σ ∧ gJ s 4 = zBt (gRK σ) (gRN σ) (gR σ 25)) ∧
  (∀ i, i < nr → gA s 5 i = nI (ow i) ∧ ow i < gn σ ∧ gA s 6 i = nI (od i) ∧ od i < md) ∧
  ∀ o, 1 ≤ o → o < gn σ → zRw s (ρ o) (oL (gO σ o)) ∧ (ρ o).Nodup ∧ (∀ i, i ∈ ρ o ↔ i < nr ∧ ow i = o) ∧ (ρ o).Pairwise (fun i j => gB s 1 i < 0 → gB s 1 j < 0 → od i < od j)
def zMs (σ : zSg) (md : Nat) (s : zSt) : Prop := ∃ ρ ow od nr, zMo σ ρ ow od nr md s
/-- what is the store's stays -/
def zKC (s t : zSt) : Prop := (∀ k, k < 13 → gI t k = gI s k) ∧ (∀ k, k < 3 → gJ t k = gJ s k) ∧ gA t 0 = gA s 0 ∧ gB t 0 = gB s 0 ∧ gB t 3 = gB s 3 ∧ gN t = gN s ∧ gE t = gE s
theorem zKC.rf (s : zSt) : zKC s s := ⟨fun _ _ => rfl, fun _ _ => rfl, rfl, rfl, rfl, rfl, rfl⟩
theorem zKC.tr {a b c : zSt} (h1 : zKC a b) (h2 : zKC b c) : zKC a c := ⟨fun k hk => (h2.1 k hk).trans (h1.1 k hk), fun k hk => (h2.2.1 k hk).trans (h1.2.1 k hk), h2.2.2.1.trans h1.2.2.1, h2.2.2.2.1.trans h1.2.2.2.1, h2.2.2.2.2.1.trans h1.2.2.2.2.1, h2.2.2.2.2.2.1.trans h1.2.2.2.2.2.1, h2.2.2.2.2.2.2.trans h1.2.2.2.2.2.2⟩
theorem zKC.sI (s : zSt) {k : Nat} (hk : 13 ≤ k) (v : Int32) : zKC s (sI s k v) := ⟨fun j hj => by rw [gI_sI, if_neg (by omega)], fun _ _ => rfl, rfl, rfl, rfl, rfl, rfl⟩
theorem zKC.sJ (s : zSt) {k : Nat} (hk : 3 ≤ k) (v : Int64) : zKC s (sJ s k v) := ⟨fun _ _ => rfl, fun j hj => by rw [gJ_sJ, if_neg (by omega)], rfl, rfl, rfl, rfl, rfl⟩
theorem zKC.sA (s : zSt) {k : Nat} (hk : 1 ≤ k) (f : Nat → Int32) : zKC s (sA s k f) := ⟨fun _ _ => rfl, fun _ _ => rfl, by rw [gA_sA, if_neg (by omega)], rfl, rfl, rfl, rfl⟩
theorem zKC.sB (s : zSt) {k : Nat} (hk : k = 1 ∨ k = 2) (f : Nat → Int64) : zKC s (sB s k f) := ⟨fun _ _ => rfl, fun _ _ => rfl, rfl, by rw [gB_sB, if_neg (by omega)], by rw [gB_sB, if_neg (by omega)], rfl, rfl⟩
/-- a call's answer in the model -/
def zMp {α : Type} (F : Option (α × zSt)) (v : α) (code : Int32) (σ : zSg) (md : Nat) (s : zSt) : Prop := ∃ t, F = some (v, t) ∧ gI t 13 = code ∧ zMs σ md t ∧ zKC s t
theorem m_in (a b c : Int64) (s : zSt) : F_R_in a b c s = some (bI (b ≤ a ∧ a ≤ c), s) := by
  unfold F_R_in F_R_in_17 F_R_in_18
  by_cases h1 : a < b
  · rw [if_pos ((lg_cmp_lt _ _).mpr h1), if_pos z_nar0, bI_f (fun q => absurd h1 (Int64.not_lt.mpr q.1))]
  · rw [if_neg (fun q => h1 ((lg_cmp_lt _ _).mp q))]
    by_cases h2 : c < a
    · rw [if_pos ((lg_cmp_gt _ _).mpr h2), if_pos z_nar0, bI_f (fun q => absurd h2 (Int64.not_lt.mpr q.2))]
    · rw [if_neg (fun q => h2 ((lg_cmp_gt _ _).mp q)), if_pos z_nar1, bI_t ⟨Int64.not_lt.mp h1, Int64.not_lt.mp h2⟩]
theorem z_nar (c : Prop) [Decidable c] : vp_nar .boolean (bI c) = bI c := by
  by_cases h : c
  · rw [bI_t h]; rfl
  · rw [bI_f h]; rfl
theorem bI_congr {c d : Prop} [Decidable c] [Decidable d] (h : c ↔ d) : bI c = bI d := by
  by_cases hc : c
  · rw [bI_t hc, bI_t (h.mp hc)]
  · rw [bI_f hc, bI_f (fun q => hc (h.mpr q))]
theorem z_le64 (a b : Int32) : a.toInt64 ≤ b.toInt64 ↔ a ≤ b := by
  rw [Int64.le_iff_toInt_le, Int32.le_iff_toInt_le, Int32.toInt_toInt64, Int32.toInt_toInt64]
theorem m_isRoot (r : Int32) (s : zSt) : F_R_isRoot r s = some (bI (zV r), s) := by
  unfold F_R_isRoot
  rw [m_in, zb_some, if_pos (z_nar _)]
  congr 2
  refine bI_congr ?_
  rw [show (0 : Int64) = (0 : Int32).toInt64 from rfl, show (23 : Int64) = (23 : Int32).toInt64 from rfl, z_le64, z_le64]
  refine ⟨fun q => ⟨q.1, ?_⟩, fun q => ⟨q.1, ?_⟩⟩
  · rw [Int32.lt_iff_toInt_lt]
    have := Int32.le_iff_toInt_le.mp q.2
    have e1 : (23 : Int32).toInt = 23 := rfl
    have e2 : (24 : Int32).toInt = 24 := rfl
    omega
  · rw [Int32.le_iff_toInt_le]
    have := Int32.lt_iff_toInt_lt.mp q.2
    have e1 : (23 : Int32).toInt = 23 := rfl
    have e2 : (24 : Int32).toInt = 24 := rfl
    omega
theorem m_isKey (k : Int64) (s : zSt) : F_R_isKey k s = some (bI (zKy k), s) := by
  unfold F_R_isKey
  rw [m_in, zb_some, if_pos (z_nar _)]
theorem m_says (c : Prop) [Decidable c] (s : zSt) : F_R_says (bI c) s = some (bI c, sI s 13 (if c then 0 else 1)) := by
  unfold F_R_says F_R_says_10
  by_cases h : c
  · rw [if_neg (fun q => bI_eq0.mp q h), if_pos (z_nar c), if_pos h]
  · rw [if_pos (bI_eq0.mpr h), if_pos (z_nar c), if_neg h]
theorem zin_rt {r : Int32} (h : zV r) : zin r 24 := by
  obtain ⟨h1, h2⟩ := zV_nI h
  exact ⟨h.1, h2⟩
section ZM
variable {σ : zSg} {ρ : Nat → List Nat} {ow od : Nat → Nat} {nr md : Nat} {s : zSt}
theorem zMo.root (h : zMo σ ρ ow od nr md s) {r : Int32} (hr : zV r) : gA s 1 r.toNatClampNeg = nI (zH σ r) := by
  unfold zH
  rw [if_pos hr]
  exact h.2.2.2.1 _ (zV_nI hr).2
theorem qI_le0 {a : Nat} (ha : a < 2 ^ 31) : nI a ≤ 0 ↔ a = 0 := by
  have := qI_le (a := a) (b := 0) ha (by decide)
  exact ⟨fun q => by have := this.mp q; omega, fun q => this.mpr (by omega)⟩
theorem m_holds (h : zMo σ ρ ow od nr md s) (hW : zWf σ) (r : Int32) : F_R_holds r s = some (bI (zH σ r ≠ 0), s) := by
  unfold F_R_holds F_R_holds_20 F_R_holds_21
  rw [m_isRoot, zb_some]
  have hlt := hW.root r
  have := hW.2.1
  by_cases hr : zV r
  · rw [if_neg (fun q => bI_eq0.mp q hr), if_pos (zin_rt hr), h.root hr]
    by_cases h0 : zH σ r = 0
    · rw [if_pos ((qI_le0 (by omega)).mpr h0), if_pos z_nar0, bI_f (fun q => q h0)]
    · rw [if_neg (fun q => h0 ((qI_le0 (by omega)).mp q)), if_pos z_nar1, bI_t h0]
  · rw [if_pos (bI_eq0.mpr hr), if_pos z_nar0, bI_f]
    intro q
    apply q
    unfold zH
    rw [if_neg hr]
theorem m_result (k : Int32) (b : Int64) (s : zSt) : F_R_result k b s = some ((), sJ (sI s 18 k) 4 (if k = 4 ∨ k = 5 then b else 0)) := by
  unfold F_R_result F_R_result_16 F_R_result_21
  by_cases h4 : k = 4
  · rw [if_pos h4, if_pos (Or.inl h4)]
  · rw [if_neg h4]
    by_cases h5 : k = 5
    · rw [if_pos h5, if_pos (Or.inr h5)]
    · rw [if_neg h5, if_neg (fun q => q.elim h4 h5)]
/-- thrown alone is written -/
theorem zMo.says (h : zMo σ ρ ow od nr md s) (v : Int32) : zMo σ ρ ow od nr md (sI s 13 v) := by
  obtain ⟨⟨a1, a2, a3, a4, a5⟩, b, c, d, ⟨e1, e2, e3, e4⟩, f, g⟩ := h
  refine ⟨⟨?_, ?_, ?_, a4, a5⟩, b, c, d, ⟨?_, e2, ?_, e4⟩, f, fun o h1 h2 => ?_⟩
  · rw [gI_sI, if_neg (by decide)]; exact a1
  · rw [gI_sI, if_neg (by decide)]; exact a2
  · rw [gI_sI, if_neg (by decide)]; exact a3
  · rw [gI_sI, if_neg (by decide)]; exact e1
  · rw [gI_sI, if_neg (by decide)]; exact e3
  · obtain ⟨g1, g2⟩ := g o h1 h2
    refine ⟨?_, g2⟩
    have : ∀ (is : List Nat) (ps : List zPr), zRw s is ps → zRw (sI s 13 v) is ps := by
      intro is
      induction is with
      | nil => intro ps hp; cases ps with
        | nil => trivial
        | cons p ps => exact hp.elim
      | cons i is ih => intro ps hp; cases ps with
        | nil => exact hp.elim
        | cons p ps => exact ⟨hp.1, ih ps hp.2⟩
    exact this _ _ g1
/-- rows that are the same say the same -/
theorem zRw_kept {s t : zSt} (hB1 : gB t 1 = gB s 1) (hB2 : gB t 2 = gB s 2) (h7 : gA t 7 = gA s 7) (h8 : gA t 8 = gA s 8) (h9 : gA t 9 = gA s 9) (h10 : gA t 10 = gA s 10) : ∀ (is : List Nat) (ps : List zPr), zRw s is ps → zRw t is ps := by
  intro is
  induction is with
  | nil => intro ps hp; cases ps with
    | nil => trivial
    | cons p ps => exact hp.elim
  | cons i is ih => intro ps hp; cases ps with
    | nil => exact hp.elim
    | cons p ps =>
      refine ⟨?_, ih ps hp.2⟩
      unfold zR1
      rw [hB1, hB2, h7, h8, h9, h10]
      exact hp.1
theorem zMo.res (h : zMo σ ρ ow od nr md s) (k : Int32) (n : Int64) (o : Nat) (hv : zWv k n o) : zMo (zRs σ k n o) ρ ow od nr md (sJ (sI s 18 k) 4 (if k = 4 ∨ k = 5 then zBt k n o else 0)) := by
  obtain ⟨⟨a1, a2, a3, a4, a5⟩, b, c, d, ⟨e1, e2, e3, e4⟩, f, g⟩ := h
  refine ⟨⟨?_, ?_, ?_, a4, a5⟩, b, c, fun i hi => ?_, ⟨?_, ?_, ?_, ?_⟩, f, fun o h1 h2 => ?_⟩
  · rw [gI_sJ, gI_sI, if_neg (by decide)]; exact a1
  · rw [gI_sJ, gI_sI, if_neg (by decide)]; exact a2
  · rw [gI_sJ, gI_sI, if_neg (by decide)]; exact a3
  · show gA s 1 i = nI (if i = 25 then o else gR σ i)
    rw [if_neg (by omega)]; exact d i hi
  · rw [gI_sJ, gI_sI, if_neg (by decide)]; exact e1
  · rw [gJ_sJ, if_neg (by decide)]
    show gJ s 3 = zBt (gPK σ) (gPN σ) (if 24 = 25 then o else gR σ 24)
    rw [if_neg (by decide)]; exact e2
  · rw [gI_sJ, gI_sI, if_pos rfl]; rfl
  · rw [gJ_sJ, if_pos rfl]
    show (if k = 4 ∨ k = 5 then zBt k n o else 0) = zBt k n (if 25 = 25 then o else gR σ 25)
    rw [if_pos rfl]
    by_cases h45 : k = 4 ∨ k = 5
    · rw [if_pos h45]
    · rw [if_neg h45]
      unfold zBt
      rw [if_neg (fun q => h45 (Or.inr q)), hv.2.1 (fun q => h45 (Or.inl q))]
  · obtain ⟨g1, g2⟩ := g o h1 h2
    exact ⟨zRw_kept (s := s) (t := sJ (sI s 18 k) 4 _) rfl rfl rfl rfl rfl rfl _ _ g1, g2⟩
theorem zMo.setR (h : zMo σ ρ ow od nr md s) {i : Nat} (hi : i < 24) (o : Nat) : zMo (zR σ i o) ρ ow od nr md (sA s 1 (upd (gA s 1) i (nI o))) := by
  obtain ⟨a, b, c, d, ⟨e1, e2, e3, e4⟩, f, g⟩ := h
  refine ⟨a, b, c, fun j hj => ?_, ⟨e1, ?_, e3, ?_⟩, f, fun o h1 h2 => ?_⟩
  · rw [gA_sA, if_pos rfl]
    show (if j = i then nI o else gA s 1 j) = nI (if j = i then o else gR σ j)
    by_cases hji : j = i
    · rw [if_pos hji, if_pos hji]
    · rw [if_neg hji, if_neg hji]; exact d j hj
  · show gJ s 3 = zBt (gPK σ) (gPN σ) (if 24 = i then o else gR σ 24)
    rw [if_neg (by omega)]; exact e2
  · show gJ s 4 = zBt (gRK σ) (gRN σ) (if 25 = i then o else gR σ 25)
    rw [if_neg (by omega)]; exact e4
  · obtain ⟨g1, g2⟩ := g o h1 h2
    exact ⟨zRw_kept (s := s) (t := sA s 1 _) rfl rfl rfl rfl rfl rfl _ _ g1, g2⟩
end ZM

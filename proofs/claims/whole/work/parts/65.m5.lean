/-! the model: one object changes -/
def zCF (s t : zSt) : Prop := gI t 14 = gI s 14 ∧ gI t 17 = gI s 17 ∧ gI t 18 = gI s 18 ∧ gJ t 3 = gJ s 3 ∧ gJ t 4 = gJ s 4 ∧ gA t 1 = gA s 1 ∧ gA t 2 = gA s 2 ∧ gA t 3 = gA s 3
theorem zCF.rf (s : zSt) : zCF s s := ⟨rfl, rfl, rfl, rfl, rfl, rfl, rfl, rfl⟩
theorem zCF.tr {a b c : zSt} (h1 : zCF a b) (h2 : zCF b c) : zCF a c := ⟨h2.1.trans h1.1, h2.2.1.trans h1.2.1, h2.2.2.1.trans h1.2.2.1, h2.2.2.2.1.trans h1.2.2.2.1, h2.2.2.2.2.1.trans h1.2.2.2.2.1, h2.2.2.2.2.2.1.trans h1.2.2.2.2.2.1, h2.2.2.2.2.2.2.1.trans h1.2.2.2.2.2.2.1, h2.2.2.2.2.2.2.2.trans h1.2.2.2.2.2.2.2⟩
theorem zCF.sA (s : zSt) {k : Nat} (hk : 4 ≤ k) (f : Nat → Int32) : zCF s (sA s k f) := ⟨rfl, rfl, rfl, rfl, rfl, by rw [gA_sA, if_neg (by omega)], by rw [gA_sA, if_neg (by omega)], by rw [gA_sA, if_neg (by omega)]⟩
theorem zCF.sB (s : zSt) (k : Nat) (f : Nat → Int64) : zCF s (sB s k f) := ⟨rfl, rfl, rfl, rfl, rfl, rfl, rfl, rfl⟩
theorem zCF.sI (s : zSt) {k : Nat} (hk : k = 13 ∨ k = 15 ∨ k = 16) (v : Int32) : zCF s (sI s k v) := ⟨by rw [gI_sI, if_neg (by omega)], by rw [gI_sI, if_neg (by omega)], by rw [gI_sI, if_neg (by omega)], rfl, rfl, rfl, rfl, rfl⟩
/-- a row is kept -/
def zRK (s t : zSt) (i : Nat) : Prop := gB t 1 i = gB s 1 i ∧ gB t 2 i = gB s 2 i ∧ gA t 7 i = gA s 7 i ∧ gA t 8 i = gA s 8 i ∧ gA t 9 i = gA s 9 i ∧ gA t 10 i = gA s 10 i
theorem zRK.rf (s : zSt) (i : Nat) : zRK s s i := ⟨rfl, rfl, rfl, rfl, rfl, rfl⟩
theorem zRK.tr {a b c : zSt} {i : Nat} (h1 : zRK a b i) (h2 : zRK b c i) : zRK a c i := ⟨h2.1.trans h1.1, h2.2.1.trans h1.2.1, h2.2.2.1.trans h1.2.2.1, h2.2.2.2.1.trans h1.2.2.2.1, h2.2.2.2.2.1.trans h1.2.2.2.2.1, h2.2.2.2.2.2.trans h1.2.2.2.2.2⟩
theorem zRK.r1 {s t : zSt} {i : Nat} {p : zPr} (h : zRK s t i) (hp : zR1 s i p) : zR1 t i p := hp.kept h.1 h.2.1 h.2.2.1 h.2.2.2.1 h.2.2.2.2.1 h.2.2.2.2.2
theorem zRw_on {s t : zSt} : ∀ (is : List Nat) (ps : List zPr), (∀ i ∈ is, zRK s t i) → zRw s is ps → zRw t is ps := by
  intro is
  induction is with
  | nil => intro ps _ hp; cases ps with
    | nil => trivial
    | cons p ps => exact hp.elim
  | cons i is ih => intro ps hk hp; cases ps with
    | nil => exact hp.elim
    | cons p ps => exact ⟨(hk i List.mem_cons_self).r1 hp.1, ih ps (fun j hj => hk j (List.mem_cons_of_mem _ hj)) hp.2⟩
theorem zRw_len {s : zSt} : ∀ (is : List Nat) (ps : List zPr), zRw s is ps → is.length = ps.length := by
  intro is
  induction is with
  | nil => intro ps hp; cases ps with
    | nil => rfl
    | cons p ps => exact hp.elim
  | cons i is ih => intro ps hp; cases ps with
    | nil => exact hp.elim
    | cons p ps => rw [List.length_cons, List.length_cons, ih ps hp.2]
theorem gO_SO (σ : zSg) (o : Nat) (x : zOb) (j : Nat) : gO (zSO σ o x) j = if j = o then x else gO σ j := rfl
section ZM5
variable {σ : zSg} {ρ : Nat → List Nat} {ow od : Nat → Nat} {nr md : Nat} {s : zSt}
theorem zMo.chg (h : zMo σ ρ ow od nr md s) {o : Nat} (h1 : 1 ≤ o) (h2 : o < gn σ) {x : zOb} (hP : oP x = oP (gO σ o)) (hA : oA x = oA (gO σ o)) {ρo : List Nat} {ow2 od2 : Nat → Nat} {nr2 md2 : Nat} {t : zSt} (hF : zCF s t) (hE : gA t 4 o = bI (oE x = false)) (hE2 : ∀ j, j ≠ o → gA t 4 j = gA s 4 j) (hn : gI t 15 = nI nr2 ∧ gI t 16 = nI md2 ∧ nr2 ≤ md2 ∧ md2 ≤ 600) (hR : ∀ i, i < nr2 → gA t 5 i = nI (ow2 i) ∧ ow2 i < gn σ ∧ gA t 6 i = nI (od2 i) ∧ od2 i < md2) (hO : ∀ i, i < nr → ow i ≠ o → ow i ≠ 0 → (i < nr2 ∧ ow2 i = ow i ∧ od2 i = od i) ∧ zRK s t i) (hN : ∀ i, i < nr2 → ow2 i ≠ o → ow2 i ≠ 0 → i < nr ∧ ow i = ow2 i) (hL : zRw t ρo (oL x) ∧ ρo.Nodup ∧ (∀ i, i ∈ ρo ↔ i < nr2 ∧ ow2 i = o) ∧ ρo.Pairwise (fun i j => gB t 1 i < 0 → gB t 1 j < 0 → od2 i < od2 j)) : zMo (zSO σ o x) (fun j => if j = o then ρo else ρ j) ow2 od2 nr2 md2 t := by
  obtain ⟨⟨a1, a2, a3, a4, a5⟩, b, c, d, ⟨e1, e2, e3, e4⟩, f, g⟩ := h
  obtain ⟨F1, F2, F3, F4, F5, F6, F7, F8⟩ := hF
  refine ⟨⟨F1.trans a1, hn.1, hn.2.1, hn.2.2.1, hn.2.2.2⟩, fun j j1 j2 => ?_, fun j hj => ?_, fun i hi => ?_, ⟨F2.trans e1, F4.trans e2, F3.trans e3, F5.trans e4⟩, hR, fun j j1 j2 => ?_⟩
  · rw [F7, F8, gO_SO]
    have hj : j < gn σ := j2
    by_cases e : j = o
    · rw [if_pos e, e, hP, hA]
      exact ⟨(b o h1 h2).1, (b o h1 h2).2.1, hE⟩
    · rw [if_neg e, hE2 j e]; exact b j j1 hj
  · have hj : gn σ ≤ j := hj
    rw [hE2 j (by omega)]; exact c j hj
  · rw [F6]; exact d i hi
  · rw [gO_SO]
    have hj : j < gn σ := j2
    show zRw t (if j = o then ρo else ρ j) _ ∧ (if j = o then ρo else ρ j).Nodup ∧ (∀ i, i ∈ (if j = o then ρo else ρ j) ↔ _) ∧ (if j = o then ρo else ρ j).Pairwise _
    by_cases e : j = o
    · rw [if_pos e, if_pos e, e]; exact hL
    · rw [if_neg e, if_neg e]
      obtain ⟨g1, g2, g3, g4⟩ := g j j1 hj
      have hk : ∀ i ∈ ρ j, (i < nr2 ∧ ow2 i = ow i ∧ od2 i = od i) ∧ zRK s t i := by
        intro i hi
        obtain ⟨w1, w2⟩ := (g3 i).mp hi
        exact hO i w1 (by omega) (by omega)
      refine ⟨zRw_on _ _ (fun i hi => (hk i hi).2) g1, g2, fun i => ⟨fun q => ?_, fun q => ?_⟩, ?_⟩
      · have := (g3 i).mp q
        have := (hk i q).1
        exact ⟨this.1, by omega⟩
      · obtain ⟨q1, q2⟩ := hN i q.1 (by omega) (by omega)
        exact (g3 i).mpr ⟨q1, by omega⟩
      · refine List.Pairwise.imp_of_mem ?_ g4
        intro a b ha hb q
        rw [(hk a ha).2.1, (hk b hb).2.1, (hk a ha).1.2.2, (hk b hb).1.2.2]
        exact q
theorem zRw_rm {k : Int64} : ∀ (is : List Nat) (ps : List zPr) (i : Nat), zRw s is ps → is.Nodup → zRx k is ps = some i → zRw s (is.erase i) (zRm k ps) := by
  intro is
  induction is with
  | nil => intro ps i hp _ h; cases ps <;> cases h
  | cons j is ih => intro ps i hp hn h; cases ps with
    | nil => exact hp.elim
    | cons p ps =>
      have h : (if kK p = k then some j else zRx k is ps) = some i := h
      show zRw s ((j :: is).erase i) (if kK p = k then ps else p :: zRm k ps)
      rw [List.nodup_cons] at hn
      by_cases hk : kK p = k
      · rw [if_pos hk] at h
        rw [if_pos hk, Option.some.inj h, List.erase_cons_head]; exact hp.2
      · rw [if_neg hk] at h
        rw [if_neg hk]
        have hm : i ∈ is := by
          rcases zRx_at (k := k) hp.2 with ⟨-, q⟩ | ⟨q, i2, -, q2, q3, -⟩
          · rw [h] at q; cases q
          · rw [h] at q2; rw [Option.some.inj q2]; exact q3
        have hne : j ≠ i := fun e => hn.1 (by rw [e]; exact hm)
        rw [List.erase_cons_tail (by simpa using hne)]
        exact ⟨hp.1, ih ps i hp.2 hn.2 h⟩
theorem zSL_id (x : zOb) : zSL x (oL x) = x := rfl
/-- a row is given up -/
theorem zMo.drop (h : zMo σ ρ ow od nr md s) {o : Nat} (h1 : 1 ≤ o) (h2 : o < gn σ) {i : Nat} (hi : i ∈ ρ o) {l : List zPr} (hl : zRw s ((ρ o).erase i) l) : zMo (zSO σ o (zSL (gO σ o) l)) (fun j => if j = o then (ρ o).erase i else ρ j) (fun j => if j = i then 0 else ow j) od nr md (sA s 5 (upd (gA s 5) i 0)) := by
  have hn := h.1
  obtain ⟨g1, g2, g3, g4⟩ := h.obj h1 h2
  obtain ⟨hi1, hi2⟩ := (g3 i).mp hi
  refine h.chg h1 h2 (x := zSL (gO σ o) l) rfl rfl (zCF.sA s (by decide) _) ?_ (fun j _ => rfl) ⟨hn.2.1, hn.2.2.1, hn.2.2.2.1, hn.2.2.2.2⟩ (fun j hj => ?_) (fun j hj q1 q2 => ?_) (fun j hj q1 q2 => ?_) ⟨?_, g2.erase i, fun j => ?_, ?_⟩
  · exact (h.2.1 o h1 h2).2.2
  · obtain ⟨w1, w2, w3, w4⟩ := h.2.2.2.2.2.1 j hj
    refine ⟨?_, ?_, w3, w4⟩
    · rw [gA_sA, if_pos rfl]
      show (if j = i then 0 else gA s 5 j) = nI (if j = i then 0 else ow j)
      by_cases e : j = i
      · rw [if_pos e, if_pos e]; rfl
      · rw [if_neg e, if_neg e]; exact w1
    · show (if j = i then 0 else ow j) < gn σ
      split <;> omega
  · refine ⟨⟨hj, ?_, rfl⟩, zRK.rf s j⟩
    show (if j = i then 0 else ow j) = ow j
    rw [if_neg (fun e => q1 (by rw [e]; exact hi2))]
  · have e : ¬ j = i := fun e => q2 (if_pos e)
    refine ⟨hj, ?_⟩
    show ow j = if j = i then 0 else ow j
    rw [if_neg e]
  · exact zRw_on (s := s) (t := sA s 5 _) _ _ (fun j _ => zRK.rf s j) hl
  · rw [g2.mem_erase_iff, g3 j]
    constructor
    · intro q
      refine ⟨q.2.1, ?_⟩
      show (if j = i then 0 else ow j) = o
      rw [if_neg q.1]; exact q.2.2
    · intro q
      have q2 : (if j = i then 0 else ow j) = o := q.2
      by_cases e : j = i
      · rw [if_pos e] at q2; omega
      · rw [if_neg e] at q2; exact ⟨e, q.1, q2⟩
  · exact g4.sublist List.erase_sublist
theorem M_delete (h : zMs σ md s) (hW : zWf σ) (r : Int32) (k : Int64) : zMp (F_R_delete r k s) (zVl 0 (S_delete σ r k)) (zTh (S_delete σ r k)) (S_delete σ r k).2 md s := by
  obtain ⟨ρ, ow, od, nr, h1⟩ := h
  have hnr := h1.1.2.2.2
  have hw := hW.2.1
  have e0 : F_R_delete r k s = F_R_delete_21 r k (bI (zH σ r ≠ 0 ∧ zKy k)) s := m_hk h1 hW r k (fun y s => F_R_delete_21 r k y s)
  rw [e0]
  unfold F_R_delete_21 S_delete
  by_cases hc : zH σ r ≠ 0 ∧ zKy k
  · rw [m_say_t hc, zb_some, if_neg z_one, if_pos hc]
    have hv := zH_V hc.1
    have h2 := h1.says 0
    have ht : gI (sI s 13 0) 13 = 0 := by rw [gI_sI, if_pos rfl]
    have hk0 : zKC s (sI s 13 0) := zKC.sI s (by decide) _
    generalize sI s 13 0 = s4 at h2 ht hk0 ⊢
    have hr := hW.root r
    rw [if_pos (zin_rt hv), h2.root hv, m_find h2 hW (by omega) hr, zb_some]
    have hobj := h2.obj (o := zH σ r) (by omega) hr
    rcases zRx_at (k := k) hobj.1 with ⟨q1, q2⟩ | ⟨p, i, q1, q2, q3, q4, q5, q6⟩
    · rw [q1, q2, if_neg zRi_none]
      exact ⟨s4, rfl, ht, ⟨ρ, ow, od, nr, h2⟩, hk0⟩
    · rw [q1, q2, zRi_some]
      have hi : i < 8400 := by have := ((hobj.2.2.1 i).mp q3).1; omega
      obtain ⟨w1, w2, w3⟩ := (hW.2.2.2.1 _ (by omega) hr).2.1 p q4
      have hiz : zin (nI i) 8400 := zin_nI' hi (by decide)
      rw [if_pos (qI_nonneg (by omega)), m_has hi q5, zb_some, if_pos hiz, nI_clamp (by omega)]
      dsimp only
      by_cases ha : kF p &&& 32 = 0
      · rw [if_pos (bI_eq0.mpr (fun z => (w1.bit (by simp)).mp z ha)), if_pos ha]
        exact ⟨s4, rfl, ht, ⟨ρ, ow, od, nr, h2⟩, hk0⟩
      · rw [if_neg (fun z => bI_eq0.mp z ((w1.bit (by simp)).mpr ha)), if_neg ha]
        exact ⟨_, rfl, ht, ⟨_, _, _, _, h2.drop (by omega) hr q3 (zRw_rm _ _ _ hobj.1 hobj.2.1 q2)⟩, hk0.tr (zKC.sA _ (by decide) _)⟩
  · rw [m_say_f hc, zb_some, if_pos rfl, if_neg hc]
    exact m_no h1 0
end ZM5

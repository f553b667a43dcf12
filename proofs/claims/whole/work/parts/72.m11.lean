/-! the model: defining a property without regard to length -/
theorem zSO_self (σ : zSg) (o : Nat) : zSO σ o (gO σ o) = σ := by
  show (σ.1, (fun j => if j = o then gO σ o else σ.2.1 j), σ.2.2) = σ
  have : (fun j => if j = o then gO σ o else σ.2.1 j) = σ.2.1 := zSO_id σ o
  rw [this]
theorem zSO_SO (σ : zSg) (o : Nat) (x y : zOb) : zSO (zSO σ o x) o y = zSO σ o y := by
  show (σ.1, (fun j => if j = o then y else (if j = o then x else σ.2.1 j)), σ.2.2) = (σ.1, (fun j => if j = o then y else σ.2.1 j), σ.2.2)
  have : (fun j => if j = o then y else (if j = o then x else σ.2.1 j)) = (fun j => if j = o then y else σ.2.1 j) := by
    funext j
    by_cases h : j = o
    · rw [if_pos h, if_pos h]
    · rw [if_neg h, if_neg h, if_neg h]
  rw [this]
theorem gO_own (σ : zSg) (o : Nat) (x : zOb) : gO (zSO σ o x) o = x := if_pos rfl
theorem zUp_self {k : Int64} {p : zPr} : ∀ {ps : List zPr}, zG k ps = some p → zUp k p ps = ps := by
  intro ps
  induction ps with
  | nil => intro h; cases h
  | cons a r ih =>
    intro h
    have h : (if kK a = k then some a else zG k r) = some p := h
    show (if kK a = k then p :: r else a :: zUp k p r) = a :: r
    by_cases hk : kK a = k
    · rw [if_pos hk] at h
      rw [if_pos hk, Option.some.inj h]
    · rw [if_neg hk] at h
      rw [if_neg hk, ih h]
theorem zRx_up {k k2 : Int64} {q : zPr} (hq : kK q = k) : ∀ (is : List Nat) (ps : List zPr), zRx k2 is (zUp k q ps) = zRx k2 is ps := by
  intro is
  induction is with
  | nil => intro ps; cases ps with
    | nil => rfl
    | cons p r =>
      show zRx k2 [] (if kK p = k then q :: r else p :: zUp k q r) = none
      split <;> rfl
  | cons i is ih => intro ps; cases ps with
    | nil => rfl
    | cons p r =>
      show zRx k2 (i :: is) (if kK p = k then q :: r else p :: zUp k q r) = (if kK p = k2 then some i else zRx k2 is r)
      by_cases h : kK p = k
      · rw [if_pos h]
        show (if kK q = k2 then some i else zRx k2 is r) = _
        rw [hq, h]
      · rw [if_neg h]
        show (if kK p = k2 then some i else zRx k2 is (zUp k q r)) = _
        rw [ih]
theorem zRx_ins {s : zSt} {k k2 : Int64} {q : zPr} {i j : Nat} (hq : kK q = k) : ∀ (is : List Nat) (ps : List zPr), zRw s is ps → zG k ps = none → (zRx k2 is ps = some j → zRx k2 (zInr k i is ps) (zIns k q ps) = some j) ∧ zRx k (zInr k i is ps) (zIns k q ps) = some i := by
  intro is
  induction is with
  | nil => intro ps h _; cases ps with
    | nil => exact ⟨fun z => (by cases z), (by show (if kK q = k then some i else none) = some i; rw [if_pos hq])⟩
    | cons p r => exact h.elim
  | cons a is ih => intro ps h hg; cases ps with
    | nil => exact h.elim
    | cons p r =>
      have hg : (if kK p = k then some p else zG k r) = none := hg
      by_cases hk : kK p = k
      · rw [if_pos hk] at hg; cases hg
      · rw [if_neg hk] at hg
        obtain ⟨i1, i2⟩ := ih r h.2 hg
        show ((if kK p = k2 then some a else zRx k2 is r) = some j → zRx k2 (if zAh (kK p) k then a :: zInr k i is r else i :: a :: is) (if zAh (kK p) k then p :: zIns k q r else q :: p :: r) = some j) ∧ zRx k (if zAh (kK p) k then a :: zInr k i is r else i :: a :: is) (if zAh (kK p) k then p :: zIns k q r else q :: p :: r) = some i
        by_cases hc : zAh (kK p) k
        · rw [if_pos hc, if_pos hc]
          refine ⟨fun z => ?_, ?_⟩
          · show (if kK p = k2 then some a else zRx k2 (zInr k i is r) (zIns k q r)) = some j
            by_cases h2 : kK p = k2
            · rw [if_pos h2] at z ⊢; exact z
            · rw [if_neg h2] at z ⊢; exact i1 z
          · show (if kK p = k then some a else zRx k (zInr k i is r) (zIns k q r)) = some i
            rw [if_neg hk]; exact i2
        · rw [if_neg hc, if_neg hc]
          refine ⟨fun z => ?_, ?_⟩
          · show (if kK q = k2 then some i else if kK p = k2 then some a else zRx k2 is r) = some j
            have : ¬ kK q = k2 := by
              intro e
              rw [hq] at e
              subst e
              rw [if_neg hk] at z
              rcases zRx_at (k := k) h.2 with ⟨-, w⟩ | ⟨p2, i2, w, -⟩
              · rw [w] at z; cases z
              · rw [hg] at w; cases w
            rw [if_neg this]; exact z
          · show (if kK q = k then some i else _) = some i
            rw [if_pos hq]
theorem zUp_ins {k : Int64} {q q2 : zPr} (hq : kK q = k) : ∀ (ps : List zPr), zG k ps = none → zUp k q2 (zIns k q ps) = zIns k q2 ps := by
  intro ps
  induction ps with
  | nil => intro _; show (if kK q = k then _ else _) = _; rw [if_pos hq]; rfl
  | cons p r ih =>
    intro hg
    have hg : (if kK p = k then some p else zG k r) = none := hg
    by_cases hk : kK p = k
    · rw [if_pos hk] at hg; cases hg
    · rw [if_neg hk] at hg
      show zUp k q2 (if zAh (kK p) k then p :: zIns k q r else q :: p :: r) = (if zAh (kK p) k then p :: zIns k q2 r else q2 :: p :: r)
      by_cases hc : zAh (kK p) k
      · rw [if_pos hc, if_pos hc]
        show (if kK p = k then _ else p :: zUp k q2 (zIns k q r)) = _
        rw [if_neg hk, ih hg]
      · rw [if_neg hc, if_neg hc]
        show (if kK q = k then q2 :: p :: r else _) = _
        rw [if_pos hq]
theorem zRw_upd {s t : zSt} {k : Int64} {i : Nat} {q : zPr} (hq : zR1 t i q) (hk : ∀ j, j ≠ i → zRK s t j) : ∀ (is : List Nat) (ps : List zPr), zRw s is ps → is.Nodup → zRx k is ps = some i → zRw t is (zUp k q ps) := by
  intro is
  induction is with
  | nil => intro ps h _ hx; cases ps <;> cases hx
  | cons a is ih => intro ps h hn hx; cases ps with
    | nil => exact h.elim
    | cons p r =>
      rw [List.nodup_cons] at hn
      have hx : (if kK p = k then some a else zRx k is r) = some i := hx
      show zRw t (a :: is) (if kK p = k then q :: r else p :: zUp k q r)
      by_cases h2 : kK p = k
      · rw [if_pos h2] at hx
        have e := Option.some.inj hx
        subst e
        rw [if_pos h2]
        exact ⟨hq, zRw_on is r (fun j hj => hk j (fun e => hn.1 (e ▸ hj))) h.2⟩
      · rw [if_neg h2] at hx
        have hm : i ∈ is := by
          rcases zRx_at (k := k) h.2 with ⟨-, w⟩ | ⟨p2, i2, -, w, w2, -⟩
          · rw [hx] at w; cases w
          · rw [hx] at w; rw [Option.some.inj w]; exact w2
        rw [if_neg h2]
        exact ⟨(hk a (fun e => hn.1 (e ▸ hm))).r1 h.1, ih r h.2 hn.2 hx⟩
section ZMB
variable {σ : zSg} {ρ : Nat → List Nat} {ow od : Nat → Nat} {nr md : Nat} {s t : zSt}
theorem zMo.row (h : zMo σ ρ ow od nr md s) {o : Nat} (h1 : 1 ≤ o) (h2 : o < gn σ) {k : Int64} {i : Nat} {q : zPr} (hx : zRx k (ρ o) (oL (gO σ o)) = some i) (hq : kK q = k) (hT : zRTp s t i q) : zMo (zSO σ o (zSL (gO σ o) (zUp k q (oL (gO σ o))))) ρ ow od nr md t := by
  have hn := h.1
  obtain ⟨g1, g2, g3, g4⟩ := h.obj h1 h2
  have hki : gB s 1 i = k := by
    rcases zRx_at (k := k) g1 with ⟨-, w⟩ | ⟨p2, i2, -, w, -, -, w2, w3⟩
    · rw [hx] at w; cases w
    · rw [hx] at w; rw [Option.some.inj w, ← w3]; exact w2.1
  have hr1 : zR1 t i q := hT.r1 (hki.trans hq.symm)
  obtain ⟨⟨f1, f2⟩, ⟨f3, f4, f5⟩, ⟨f6, f7, f8, f9⟩, f10⟩ := hT.1
  have := h.chg h1 h2 (t := t) (x := zSL (gO σ o) (zUp k q (oL (gO σ o)))) (ρo := ρ o) (ow2 := ow) (od2 := od) (nr2 := nr) (md2 := md) rfl rfl f1 (by rw [f6]; exact (h.2.1 o h1 h2).2.2) (fun j _ => by rw [f6]) ⟨f4.trans hn.2.1, f5.trans hn.2.2.1, hn.2.2.2.1, hn.2.2.2.2⟩ (fun j hj => by rw [f7, f8]; exact h.2.2.2.2.2.1 j hj) (fun j hj q1 q2 => ⟨⟨hj, rfl, rfl⟩, f10 j (fun e => by
      subst e
      have : j ∈ ρ o := by
        rcases zRx_at (k := k) g1 with ⟨-, w⟩ | ⟨p2, i2, -, w, w2, -⟩
        · rw [hx] at w; cases w
        · rw [hx] at w; rw [Option.some.inj w]; exact w2
      exact q1 ((g3 j).mp this).2)⟩) (fun j hj q1 q2 => ⟨hj, rfl⟩) ⟨zRw_upd hr1 f10 _ _ g1 g2 hx, g2, g3, by rw [f9]; exact g4⟩
  rw [zπ_id] at this
  exact this
theorem zAdd_r1 {i : Nat} {o : Int32} {k : Int64} {f : Int32} {y : Int32} : zR1 (zAdd s i o k f 0 0 y) i (k, f, 0, 0, 0, 0) := by
  refine ⟨?_, ?_, ?_, ?_, ?_, ?_⟩
  · rw [zAdd_B, if_pos rfl, if_pos rfl]; rfl
  · rw [zAdd_A, if_pos rfl, if_neg (by decide), if_neg (by decide), if_pos rfl]; rfl
  · rw [zAdd_A, if_pos rfl, if_neg (by decide), if_neg (by decide), if_neg (by decide), if_pos rfl]
    show (0 : Int32) = if f &&& 64 = 0 then 0 else 0
    split <;> rfl
  · rw [zAdd_B, if_pos rfl, if_neg (by decide), if_pos rfl]
    show (0 : Int64) = if f &&& 64 = 0 then zBt 0 0 0 else 0
    split <;> rfl
  · rw [zAdd_A, if_pos rfl, if_neg (by decide), if_neg (by decide), if_neg (by decide), if_neg (by decide), if_pos (by decide)]
    show (0 : Int32) = if f &&& 64 = 0 then 0 else nI 0
    split <;> rfl
  · rw [zAdd_A, if_pos rfl, if_neg (by decide), if_neg (by decide), if_neg (by decide), if_neg (by decide), if_pos (by decide)]
    show (0 : Int32) = if f &&& 64 = 0 then 0 else nI 0
    split <;> rfl
theorem kK_bec (d : zDs) (p : zPr) : kK (zBec d p) = kK p := by
  have h1 : ∀ p, kK (zB1 d p) = kK p := fun p => by unfold zB1; split <;> split <;> rfl
  have h3 : ∀ p, kK (zB3 d p) = kK p := fun p => by unfold zB3; split <;> rfl
  have h4 : ∀ p, kK (zB4 d p) = kK p := fun p => by unfold zB4; split <;> rfl
  have h5 : ∀ p, kK (zB5 d p) = kK p := fun p => by unfold zB5; split <;> rfl
  unfold zBec
  rw [h5, h4, h3]
  exact h1 p
/-- what an object's change leaves: the rows of keys stay -/
def zMz (F : Option (Int32 × zSt)) (v : Int32) (σ : zSg) (ρ : Nat → List Nat) (o : Nat) (x : zOb) (md : Nat) (s : zSt) : Prop := ∃ t ρ2 ow2 od2 nr2 md2, F = some (v, t) ∧ md2 ≤ md + 1 ∧ zMo (zSO σ o x) ρ2 ow2 od2 nr2 md2 t ∧ zKC s t ∧ gI t 13 = gI s 13 ∧ ∀ k2 i2, zRx k2 (ρ o) (oL (gO σ o)) = some i2 → zRx k2 (ρ2 o) (oL x) = some i2
theorem zMz.id (h : zMo σ ρ ow od nr md s) {o : Nat} (v : Int32) : zMz (some (v, s)) v σ ρ o (gO σ o) md s := ⟨s, ρ, ow, od, nr, md, rfl, by omega, by rw [zSO_self]; exact h, zKC.rf s, rfl, fun _ _ z => z⟩
theorem m_plain (h : zMo σ ρ ow od nr md s) (hW : zWf σ) (hmd : md < 600) {o : Nat} (h1 : 1 ≤ o) (h2 : o < gn σ) {d : zDs} {told on kd : Int32} {b : Int64} {pair : Int32} (hd : zDm d told on kd b (pair / 4200) (pair - pair / 4200 * 4200)) (k : Int64) : zMz (F_R_defineAny (nI o) k told on kd b pair s) (zPl (gO σ o) k d).1 σ ρ o (zPl (gO σ o) k d).2 md s := by
  have hw := hW.2.1
  have hn := h.1.2.2.2
  obtain ⟨g1, g2, g3, g4⟩ := h.obj h1 h2
  have hd' := hd
  obtain ⟨d1, d2, d3, d4, d5, d6, d7, d8, d9, d10, d11⟩ := hd
  unfold F_R_defineAny zPl
  rw [m_find h hW h1 h2, zb_some]
  rcases zRx_at (k := k) g1 with ⟨q1, q2⟩ | ⟨p, i, q1, q2, q3, q4, q5, q6⟩
  · rw [q1, q2, if_neg zRi_none, if_pos (zin_nI' (by omega) (by decide))]
    have c4 : gA s 4 (nI o).toNatClampNeg = bI (oE (gO σ o) = false) := by rw [nI_clamp (by omega), (h.2.1 o h1 h2).2.2]
    rw [c4]
    dsimp only
    cases hE : oE (gO σ o) with
    | false =>
      rw [if_neg (fun z => bI_eq0.mp z rfl), if_neg (by decide)]
      exact zMz.id h 2
    | true =>
      rw [if_pos (bI_eq0.mpr (by decide)), if_pos rfl]
      have l12 := zTd.le d11.1 (m := 12) (by simp)
      have key : ∀ f : Int32, (if f &&& 64 = 0 then told &&& 12 = 0 else told &&& 3 = 0) → zB1 d (k, 0, 0, 0, 0, 0) = (k, f, 0, 0, 0, 0) → zMz (F_R_defineAny_57 told on kd b (pair / 4200) (pair - pair / 4200 * 4200) f k (nI o) s) 0 σ ρ o (zSL (gO σ o) (zIns k (zBec d (k, 0, 0, 0, 0, 0)) (oL (gO σ o)))) md s := by
        intro f hc hb1
        unfold F_R_defineAny_57
        obtain ⟨i, nr2, w1, w2, w3, w4, w5, w6, w7⟩ := m_add h hw (nI o) k f 0 0
        rw [w7, zb_some]
        have z0 : ∀ c : Prop, [Decidable c] → (0 : Int32) = (if c then 0 else 0) := fun c _ => by split <;> rfl
        have hA := h.add hmd h1 h2 w1 w2 w3 w4 w5 w6 (k := k) (f := f) (d := 0) (b := 0) (p := (k, f, 0, 0, 0, 0)) rfl rfl (by show (0 : Int32) = if f &&& 64 = 0 then 0 else 0; split <;> rfl) (by show (0 : Int64) = if f &&& 64 = 0 then zBt 0 0 0 else 0; split <;> rfl) (by show (0 : Int32) = if f &&& 64 = 0 then 0 else nI 0; split <;> rfl) (by show (0 : Int32) = if f &&& 64 = 0 then 0 else nI 0; split <;> rfl)
        have hr := zAdd_r1 (s := s) (i := i) (o := nI o) (k := k) (f := f) (y := nI nr2)
        have hk := zAdd_KC s i (nI o) k f 0 0 (nI nr2)
        have hth : gI (zAdd s i (nI o) k f 0 0 (nI nr2)) 13 = gI s 13 := by rw [zAdd_I, if_neg (by decide), if_neg (by decide)]
        generalize zAdd s i (nI o) k f 0 0 (nI nr2) = sa at hA hr hk hth ⊢
        obtain ⟨u, u1, u2⟩ := m_becT hd' (i := i) (by omega) (zRTp.of hr) hc
        have hxk := zRx_ins (k2 := k) (j := i) (i := i) (q := (k, f, 0, 0, 0, 0)) (k := k) rfl (ρ o) _ g1 q1
        have hrow := hA.row (o := o) h1 h2 (k := k) (i := i) (q := zB5 d (zB4 d (zB3 d (zB2 d (k, f, 0, 0, 0, 0))))) (by
          rw [gO_own]
          show zRx k (if o = o then _ else _) _ = _
          rw [if_pos rfl]
          exact hxk.2) (by
          rw [← hb1]
          exact kK_bec d (k, 0, 0, 0, 0, 0)) u2
        rw [zSO_SO, gO_own] at hrow
        have eU : zUp k (zB5 d (zB4 d (zB3 d (zB2 d (k, f, 0, 0, 0, 0))))) (zIns k (k, f, 0, 0, 0, 0) (oL (gO σ o))) = zIns k (zB5 d (zB4 d (zB3 d (zB2 d (k, f, 0, 0, 0, 0))))) (oL (gO σ o)) := zUp_ins (k := k) (q := (k, f, 0, 0, 0, 0)) rfl _ q1
        have eB : zBec d (k, 0, 0, 0, 0, 0) = zB5 d (zB4 d (zB3 d (zB2 d (k, f, 0, 0, 0, 0)))) := by unfold zBec; rw [hb1]
        rw [eB]
        have e3 : zSL (zSL (gO σ o) (zIns k (k, f, 0, 0, 0, 0) (oL (gO σ o)))) (zUp k (zB5 d (zB4 d (zB3 d (zB2 d (k, f, 0, 0, 0, 0))))) (oL (zSL (gO σ o) (zIns k (k, f, 0, 0, 0, 0) (oL (gO σ o)))))) = zSL (gO σ o) (zIns k (zB5 d (zB4 d (zB3 d (zB2 d (k, f, 0, 0, 0, 0))))) (oL (gO σ o))) := by
          rw [← eU]; rfl
        rw [e3] at hrow
        refine ⟨u, _, _, _, nr2, md + 1, u1, by omega, hrow, hk.tr u2.1.1.2, u2.1.2.1.1.trans hth, fun k2 i2 z => ?_⟩
        · show zRx k2 (if o = o then zInr k i (ρ o) (oL (gO σ o)) else ρ o) (zIns k _ (oL (gO σ o))) = some i2
          rw [if_pos rfl]
          exact (zRx_ins (k2 := k2) (j := i2) (i := i) (q := zB5 d (zB4 d (zB3 d (zB2 d (k, f, 0, 0, 0, 0))))) (k := k) (by rw [← hb1]; exact kK_bec d (k, 0, 0, 0, 0, 0)) (ρ o) _ g1 q1).1 z
      by_cases h12 : told &&& 12 = 0
      · rw [if_pos (l12.mpr h12)]
        refine key 0 h12 ?_
        unfold zB1
        rw [d1, if_pos (show kF ((k, 0, 0, 0, 0, 0) : zPr) &&& 64 = 0 from Int32.zero_and), if_pos h12]
      · rw [if_neg (fun z => h12 (l12.mp z))]
        refine key 64 (d11.2.resolve_right h12) ?_
        unfold zB1
        rw [d1, if_pos (show kF ((k, 0, 0, 0, 0, 0) : zPr) &&& 64 = 0 from Int32.zero_and), if_neg h12]
        unfold zTurn
        rw [if_pos (show kF ((k, 0, 0, 0, 0, 0) : zPr) &&& 64 = 0 from Int32.zero_and)]
        have e : kF ((k, 0, 0, 0, 0, 0) : zPr) &&& 48 ||| 64 = 64 := by
          show (0 : Int32) &&& 48 ||| 64 = 64
          decide
        rw [e]
        rfl
  · rw [q1, q2, zRi_some]
    have hi : i < nr := ((g3 i).mp q3).1
    obtain ⟨w1, w2, w3⟩ := (hW.2.2.2.1 o h1 h2).2.1 p q4
    rw [if_pos (qI_nonneg (by omega)), m_isSo hd' (by omega) q5 w1 (by omega) (by omega), zb_some]
    dsimp only
    by_cases hso : zSo d on p
    · rw [if_neg (fun z => bI_eq0.mp z hso)]
      obtain ⟨e1, e2⟩ := zSo_id (by rw [d2, d1]) w1 hso
      rw [e1, e2, if_neg (by decide), zUp_self q1, zSL_id]
      exact zMz.id h 0
    · rw [if_pos (bI_eq0.mpr hso), m_has (by omega) q5, zb_some, m_resists hd' (by omega) q5 w1 (by omega) (by omega), zb_some]
      have fin : zMz (F_R_defineAny_124 told on kd b (pair / 4200) (pair - pair / 4200 * 4200) (nI i) s) 0 σ ρ o (zSL (gO σ o) (zUp k (zBec d p) (oL (gO σ o)))) md s := by
        obtain ⟨u, u1, u2⟩ := m_any124 hd' (i := i) (by omega) q5 w1
        have hkb : kK (zBec d p) = k := (kK_bec d p).trans q6
        refine ⟨u, ρ, ow, od, nr, md, u1, by omega, h.row h1 h2 q2 hkb u2, u2.1.1.2, u2.1.2.1.1, fun k2 i2 z => ?_⟩
        show zRx k2 (ρ o) (zUp k (zBec d p) (oL (gO σ o))) = some i2
        rw [zRx_up hkb]; exact z
      unfold zChg
      by_cases h32 : kF p &&& 32 = 0
      · rw [if_pos (bI_eq0.mpr (fun z => (w1.bit (by simp)).mp z h32)), decide_eq_true h32, Bool.true_and]
        cases hf : zFix d p with
        | false =>
          rw [if_pos (bI_eq0.mpr (by decide)), if_neg (by decide)]
          exact fin
        | true =>
          rw [if_neg (fun z => bI_eq0.mp z rfl), if_pos rfl]
          exact zMz.id h 2
      · rw [if_neg (fun z => bI_eq0.mp z ((w1.bit (by simp)).mpr h32)), decide_eq_false h32, Bool.false_and, if_neg (by decide)]
        exact fin
end ZMB

/-! adding a property -/
abbrev zAh (there added : Int64) : Prop := added < 0 ∨ (0 ≤ there ∧ there < added)
def zIns (k : Int64) (q : zPr) : List zPr → List zPr
  | [] => [q]
  | p :: r => if zAh (kK p) k then p :: zIns k q r else q :: p :: r
theorem o_stays (a b : Int64) (s : zSt) : F_O_staysAhead a b s = some (bI (zAh a b), s) := by
  unfold F_O_staysAhead F_O_staysAhead_18 F_O_staysAhead_22 F_O_staysAhead_23
  by_cases h1 : b < 0
  · rw [if_pos ((lg_cmp_lt _ _).mpr h1), if_pos z_nar1, bI_t (Or.inl h1)]
  · rw [if_neg (fun q => h1 ((lg_cmp_lt _ _).mp q))]
    by_cases h2 : a < 0
    · rw [if_pos ((lg_cmp_lt _ _).mpr h2), if_pos z_nar0, bI_f (fun q => q.elim h1 (fun z => absurd h2 (Int64.not_lt.mpr z.1)))]
    · rw [if_neg (fun q => h2 ((lg_cmp_lt _ _).mp q))]
      by_cases h3 : b ≤ a
      · rw [if_pos ((lg_cmp_ge _ _).mpr h3), if_pos z_nar0, bI_f (fun q => q.elim h1 (fun z => absurd z.2 (Int64.not_lt.mpr h3)))]
      · rw [if_neg (fun q => h3 ((lg_cmp_ge _ _).mp q)), if_pos z_nar1, bI_t (Or.inr ⟨Int64.not_lt.mp h2, Int64.not_le.mp h3⟩)]
theorem zBec_key (d : zDs) (p : zPr) : kK (zBec d p) = kK p := by
  unfold zBec zB5 zB4 zB3 zB2 zB1 zTurn
  repeat' split
  all_goals rfl
theorem zB_objs (d : zDs) (p : zPr) (P : Nat → Prop) (h0 : P 0) (hp : P (kO p) ∧ P (kS p)) (hd : P (dO d) ∧ P (dG d) ∧ P (dS d)) : P (kO (zBec d p)) ∧ P (kS (zBec d p)) := by
  have h1 : P (kO (zB1 d p)) ∧ P (kS (zB1 d p)) := by
    unfold zB1
    by_cases h : dT d &&& (if kF p &&& 64 = 0 then 12 else 3) = 0
    · rw [if_pos h]; exact hp
    · rw [if_neg h]; exact ⟨h0, h0⟩
  have h2 : P (kO (zB2 d (zB1 d p))) ∧ P (kS (zB2 d (zB1 d p))) := h1
  have h3 : P (kO (zB3 d (zB2 d (zB1 d p)))) ∧ P (kS (zB3 d (zB2 d (zB1 d p)))) := by
    rw [zB3]
    split
    · exact h2
    · exact ⟨hd.1, h2.2⟩
  have h4 : P (kO (zB4 d (zB3 d (zB2 d (zB1 d p))))) ∧ P (kS (zB4 d (zB3 d (zB2 d (zB1 d p))))) := by
    rw [zB4]
    split
    · exact h3
    · exact ⟨hd.2.1, h3.2⟩
  unfold zBec
  rw [zB5]
  split
  · exact h4
  · exact ⟨h4.1, hd.2.2⟩
def zRt (σ : zSg) (j : Nat) : Prop := j = 0 ∨ ∃ i, i < 27 ∧ gR σ i = j
section ZC6
variable {σ : zSg} {lv : List Nat} {β : Nat → Nat} {π : Nat → List Nat} {nb : Nat} {FL : List Nat} {mk rc rl : Nat} {s : zSt}
theorem r_add {s : zSt} (hok : zOk nb s) (k : Int64) (ob b : Int32) (q : zPr) : ∀ (bs : List Nat) (ps : List zPr) (n j pb : Nat), zPA s β bs ps → zIn nb bs → j + bs.length < 1024 → bs.length < n →
    ∃ l1 l2 p1 p2, bs = l1 ++ l2 ∧ ps = p1 ++ p2 ∧ l1.length = p1.length ∧ zIns k q ps = p1 ++ q :: p2 ∧ F_O_add_48 n ob k b (nI pb) (nI (bs.headD 0)) (nI j) s = F_O_add_95 ob b (nI (zLs pb l1)) (nI (l2.headD 0)) s := by
  have hnb := hok.2
  intro bs
  induction bs with
  | nil =>
    intro ps n j pb hP hI hj hn
    obtain ⟨m, rfl⟩ : ∃ m, n = m + 1 := ⟨n - 1, by omega⟩
    cases ps with
    | cons p ps => exact hP.elim
    | nil =>
      refine ⟨[], [], [], [], rfl, rfl, rfl, rfl, ?_⟩
      rw [F_O_add_48]
      have hz : nI (([] : List Nat).headD 0) = 0 := rfl
      rw [hz, if_pos rfl]
      split <;> rfl
  | cons c bs ih =>
    intro ps n j pb hP hI hj hn
    rw [List.length_cons] at hj hn
    obtain ⟨m, rfl⟩ : ∃ m, n = m + 1 := ⟨n - 1, by omega⟩
    cases ps with
    | nil => exact hP.elim
    | cons p ps =>
      obtain ⟨h1, h2, h3⟩ := hP
      have hc := hI.1 c List.mem_cons_self
      have hge : ¬ ((1024 : Int32) ≤ nI j) := fun q => by
        have := (qI_le (a := 1024) (b := j) (by decide) (by omega)).mp q
        omega
      have hne : ¬ (nI ((c :: bs).headD 0) = 0) := fun q => by
        have := (qI_eq0 (a := c) (by omega)).mp q
        omega
      have e0 : nI ((c :: bs).headD 0) = nI c := rfl
      rw [F_O_add_48, if_neg hge, if_neg hne, e0, r_key hok hc.2 h2, zb_some, o_stays, zb_some]
      by_cases ha : zAh (kK p) k
      · rw [if_neg (fun z => bI_eq0.mp z ha), r_next hok hc.2 h1, zb_some]
        have e1 : nI j + 1 = nI (j + 1) := (nI_succ j).symm
        rw [e1]
        obtain ⟨l1, l2, p1, p2, g1, g2, g3, g4, g5⟩ := ih ps m (j + 1) c h3 hI.tl (by omega) (by omega)
        refine ⟨c :: l1, l2, p :: p1, p2, by rw [g1]; rfl, by rw [g2]; rfl, by rw [List.length_cons, List.length_cons, g3], ?_, g5⟩
        show (if zAh (kK p) k then p :: zIns k q ps else q :: p :: ps) = _
        rw [if_pos ha, g4]
        rfl
      · rw [if_pos (bI_eq0.mpr ha)]
        refine ⟨[], c :: bs, [], p :: ps, rfl, rfl, rfl, ?_, rfl⟩
        show (if zAh (kK p) k then p :: zIns k q ps else q :: p :: ps) = _
        rw [if_neg ha]
        rfl
theorem zDr.live {d : zDs} (h : zDr d β lv s) (hr : zRt σ (dO d) ∧ zRt σ (dG d) ∧ zRt σ (dS d)) {lv2 : List Nat} (hl : ∀ i, i < 27 → gR σ i = 0 ∨ gR σ i ∈ lv2) {t : zSt} (hs : zSame s t) : zDr d β lv2 t := by
  obtain ⟨h1, h2, h3, h4, h5, h6, h7, -, -, -⟩ := h
  have key : ∀ j, zRt σ j → j = 0 ∨ j ∈ lv2 := by
    intro j hj
    rcases hj with e | ⟨i, hi, e⟩
    · exact Or.inl e
    · rw [← e]; exact hl i hi
  exact ⟨(hs.1 7 (by decide)).trans h1, (hs.1 8 (by decide)).trans h2, (hs.1 9 (by decide)).trans h3, (hs.2.1 2).trans h4, (hs.1 10 (by decide)).trans h5, fun q => (hs.1 11 (by decide)).trans (h6 q), fun q => (hs.1 12 (by decide)).trans (h7 q), key _ hr.1, key _ hr.2.1, key _ hr.2.2⟩
theorem z_add (h : zCm σ lv β π nb FL mk s) (hmk : mk < 1024) {o : Nat} (ho0 : o ≠ 0) (ho : zRt σ o) {d : zDs} (hD : zDr d β lv s) (hdr : zRt σ (dO d) ∧ zRt σ (dG d) ∧ zRt σ (dS d)) {k : Int64} (hk : oA (gO σ o) = true → k ≠ -1 ∧ zG (-1) (oL (gO σ o)) ≠ none) :
    ∃ t lv2 π2 nb2 FL2, F_O_add (nI (β o)) k s = some (0, t) ∧ zCm (zSO σ o (zSL (gO σ o) (zIns k (zBec d (k, 0, 0, 0, 0, 0)) (oL (gO σ o))))) lv2 β π2 nb2 FL2 (mk + 1) t ∧ o ∈ lv2 ∧ zSame s t ∧ nb ≤ nb2 ∧ zeC (gE t) ≤ zeC (gE s) + 16 * (nb2 - nb) ∧ zeL (gE t) ≤ zeL (gE s) + (nb2 - nb) ∧ (oA (gO σ o) = true → zBk (-1) (π2 o) (zIns k (zBec d (k, 0, 0, 0, 0, 0)) (oL (gO σ o))) = zBk (-1) (π o) (oL (gO σ o))) := by
  obtain ⟨s1, FL1, nb1, b, lv1, m1, m2, m3, m4, m5, m6, m7, m8, m9, m10, m11, m12⟩ := z_mkc h hmk
  have hnb1 := m2.ok.2
  have hb0 : b ≠ 0 := by omega
  have ho1 : o ∈ lv1 := by
    rcases ho with e | ⟨i, hi, e⟩
    · exact absurd e ho0
    · rw [← e]; exact (m4 i hi).resolve_left (by rw [e]; exact ho0)
  have hD1 : zDr d β lv1 s1 := hD.live hdr m4 m9
  obtain ⟨q1, q2, q3, q4, q5⟩ := m2.chain ho1
  obtain ⟨w1, w2, w3, w4, w5⟩ := m2.obj ho1
  have hbU : ∀ c ∈ β o :: π o, c ≠ b := fun c hc e => m7 (e ▸ (zUs_sub ho1).subset hc)
  unfold F_O_add
  rw [m1, zb_some, if_neg (fun q => by have := (qI_eq0 (a := b) (by omega)).mp q; omega), zsw4 m2.ok m5.2, zb_some]
  -- the new block as a property
  have hok2 := zOk_sW m2.ok b 4 k
  have hWd2 : ∀ c f, f < 8 → Wd (sW s1 b 4 k) c f = if c = b ∧ f = 4 then k else Wd s1 c f := fun c f hf => Wd_sW hb0 (by decide) hf
  have h0 := m2.2.2.2.1
  have hp0 : zPw1 (sW s1 b 4 k) β b (k, 0, 0, 0, 0, 0) := by
    refine ⟨?_, ?_, ?_, ?_, ?_, ?_⟩ <;> rw [hWd2 _ _ (by decide)]
    · rw [if_neg (by omega), m8 2 (by decide)]; show 0 = nL (β 0); rw [h0]; rfl
    · rw [if_neg (by omega), m8 3 (by decide)]; show 0 = nL (β 0); rw [h0]; rfl
    · rw [if_pos ⟨rfl, rfl⟩]; rfl
    · rw [if_neg (by omega), m8 5 (by decide)]; rfl
    · rw [if_neg (by omega), m8 6 (by decide)]; rfl
    · rw [if_neg (by omega), m8 7 (by decide)]; rfl
  have hD2 : zDr d β lv1 (sW s1 b 4 k) := hD1.bu (zBu.sW s1 _ hb0 (by decide))
  obtain ⟨s3, g1, g2, g3⟩ := z_become hok2 m5.1 m5.2 h0 m2.βok hD2 hp0
  rw [g1, zb_some]
  have hu3 : zBu b s1 s3 := (zBu.sW s1 k hb0 (by decide)).tr g2
  have hok3 := hu3.ok m2.ok
  have hW3 : ∀ c f, f < 8 → c ≠ b → Wd s3 c f = Wd s1 c f := fun c f hf hc => hu3.2.2.2.2 c f hf (Or.inl hc)
  have hfirst : F_O_first (nI (β o)) s3 = some (nI ((π o).headD 0), s3) := by
    unfold F_O_first
    rw [zw2 hok3 q3, zb_some, hW3 _ 2 (by decide) (hbU _ List.mem_cons_self), w2, qL_int]
  rw [hfirst, zb_some]
  have hP3 : zPA s3 β (π o) (oL (gO σ o)) := zPA_kept (s := s1) (fun c hc f hf => hW3 c f hf (hbU c (List.mem_cons_of_mem _ hc))) (fun _ _ => ⟨rfl, rfl⟩) w5
  obtain ⟨l1, l2, p1, p2, r1, r2, r3, r4, r5⟩ := r_add hok3 k (nI (β o)) (nI b) (zBec d (k, 0, 0, 0, 0, 0)) (π o) (oL (gO σ o)) zFuel 0 0 hP3 q1 (by have := q1.2; omega) (by have := q1.2; rw [zFuel_eq]; omega)
  have r5 : F_O_add_48 zFuel (nI (β o)) k (nI b) 0 (nI ((π o).headD 0)) 0 s3 = F_O_add_95 (nI (β o)) (nI b) (nI (zLs 0 l1)) (nI (l2.headD 0)) s3 := r5
  rw [r5]
  have hl2 : l2.headD 0 ≤ nb1 := by
    cases l2 with
    | nil => exact Nat.zero_le _
    | cons c r => exact (q1.1 c (by rw [r1]; simp)).2
  have hl1in : ∀ c ∈ l1, c ∈ π o := fun c hc => by rw [r1]; simp [hc]
  have hl2in : ∀ c ∈ l2, c ∈ π o := fun c hc => by rw [r1]; simp [hc]
  have hls : zLs 0 l1 ≤ nb1 := by
    rcases zLs_mem (d := 0) (l := l1) with ⟨z, -⟩ | z
    · rw [z]; exact Nat.zero_le _
    · exact (q1.1 _ (hl1in _ z)).2
  unfold F_O_add_95
  rw [qI_long (by omega), zsw1 hok3 m5.2, zb_some, z_link (zOk_sW hok3 _ _ _) q3 hls m5.2, zb_some]
  generalize hs5 : (if zLs 0 l1 = 0 then sW (sW s3 b 1 (nL (l2.headD 0))) (β o) 2 (nL b) else sW (sW s3 b 1 (nL (l2.headD 0))) (zLs 0 l1) 1 (nL b)) = s5
  have hβ0 : β o ≠ 0 := by omega
  have hWd5 : ∀ c f, f < 8 → Wd s5 c f = if zLs 0 l1 = 0 ∧ c = β o ∧ f = 2 then nL b else if zLs 0 l1 ≠ 0 ∧ c = zLs 0 l1 ∧ f = 1 then nL b else if c = b ∧ f = 1 then nL (l2.headD 0) else Wd s3 c f := by
    intro c f hf
    rw [← hs5]
    by_cases hl : zLs 0 l1 = 0
    · rw [if_pos hl, Wd_sW hβ0 (by decide) hf]
      by_cases hc : c = β o ∧ f = 2
      · rw [if_pos hc, if_pos ⟨hl, hc⟩]
      · rw [if_neg hc, if_neg (fun z => hc z.2), if_neg (fun z => z.1 hl), Wd_sW hb0 (by decide) hf]
    · rw [if_neg hl, Wd_sW hl (by decide) hf, if_neg (show ¬ (zLs 0 l1 = 0 ∧ c = β o ∧ f = 2) from fun z => hl z.1)]
      by_cases hc : c = zLs 0 l1 ∧ f = 1
      · rw [if_pos hc, if_pos ⟨hl, hc⟩]
      · rw [if_neg hc, if_neg (show ¬ (zLs 0 l1 ≠ 0 ∧ c = zLs 0 l1 ∧ f = 1) from fun z => hc z.2), Wd_sW hb0 (by decide) hf]
  have hch : gN s5 = gN s3 ∧ zSame s3 s5 ∧ gE s5 = gE s3 ∧ ∀ j, gI s5 j = gI s3 j := by
    rw [← hs5]
    split
    · exact ⟨by rw [sW_N, sW_N], (zSame.sW _ _ _ _).tr (zSame.sW _ _ _ _), by rw [sW_E, sW_E], fun j => by rw [sW_I, sW_I]⟩
    · exact ⟨by rw [sW_N, sW_N], (zSame.sW _ _ _ _).tr (zSame.sW _ _ _ _), by rw [sW_E, sW_E], fun j => by rw [sW_I, sW_I]⟩
  have hlast : zLs 0 l1 ≠ 0 → zLs 0 l1 ∈ l1 := by
    intro hl
    rcases zLs_mem (d := 0) (l := l1) with ⟨z, -⟩ | z
    · exact absurd z hl
    · exact z
  have hl1e : zLs 0 l1 = 0 → l1 = [] := by
    intro hl
    rcases zLs_mem (d := 0) (l := l1) with ⟨-, z⟩ | z
    · exact z
    · have := q1.1 _ (hl1in _ z); omega
  have hlb : zLs 0 l1 ≠ b := by
    intro e
    have := hlast (by omega)
    exact hbU _ (List.mem_cons_of_mem _ (hl1in _ this)) e
  have hbβ : b ≠ β o := fun e => hbU _ List.mem_cons_self e.symm
  have hnd : (l1 ++ l2).Nodup := by rw [← r1]; exact q5
  -- the words of the block b
  have hb5 : ∀ f, f < 8 → f ≠ 1 → Wd s5 b f = Wd s3 b f := fun f hf hf1 => by
    rw [hWd5 b f hf, if_neg (fun z => hbβ z.2.1), if_neg (fun z => hf1 z.2.2), if_neg (fun z => hf1 z.2)]
  have hb51 : Wd s5 b 1 = nL (l2.headD 0) := by
    rw [hWd5 b 1 (by decide), if_neg (fun z => hbβ z.2.1), if_neg (fun z => hlb z.2.1.symm), if_pos ⟨rfl, rfl⟩]
  have hother : ∀ c f, f < 8 → c ≠ b → (c ≠ β o ∨ f ≠ 2) → (zLs 0 l1 = 0 ∨ c ≠ zLs 0 l1 ∨ f ≠ 1) → Wd s5 c f = Wd s1 c f := by
    intro c f hf hcb h5 h6
    rw [hWd5 c f hf, if_neg (fun z => h5.elim (fun y => y z.2.1) (fun y => y z.2.2)), if_neg (fun z => h6.elim (fun y => z.1 y) (fun y => y.elim (fun y => y z.2.1) (fun y => y z.2.2))), if_neg (fun z => hcb z.1), hW3 c f hf hcb]
  have hpb5 : zPw1 s5 β b (zBec d (k, 0, 0, 0, 0, 0)) := ⟨(hb5 2 (by decide) (by decide)).trans g3.1, (hb5 3 (by decide) (by decide)).trans g3.2.1, (hb5 4 (by decide) (by decide)).trans g3.2.2.1, (hb5 5 (by decide) (by decide)).trans g3.2.2.2.1, (hb5 6 (by decide) (by decide)).trans g3.2.2.2.2.1, (hb5 7 (by decide) (by decide)).trans g3.2.2.2.2.2⟩
  have hw5 : zPA s1 β (l1 ++ l2) (p1 ++ p2) := by rw [← r1, ← r2]; exact w5
  have hl2w : ∀ c ∈ l2, ∀ f, f < 8 → Wd s5 c f = Wd s1 c f := by
    intro c hc f hf
    refine hother c f hf (hbU c (List.mem_cons_of_mem _ (hl2in c hc))) (Or.inl (fun e => q4 (e ▸ hl2in c hc))) (Or.inr (Or.inl (fun e => ?_)))
    have : zLs 0 l1 ≠ 0 := by have := q1.1 c (hl2in c hc); omega
    exact (List.nodup_append.mp hnd).2.2 _ (hlast this) c hc e.symm
  have hPA5 : zPA s5 β (l1 ++ b :: l2) (p1 ++ zBec d (k, 0, 0, 0, 0, 0) :: p2) := by
    refine zPA_app (s := s1) 0 r3 hw5 ⟨hb51, hpb5, zPA_kept (s := s1) hl2w (fun _ _ => ⟨rfl, rfl⟩) (zPA_split r3 hw5)⟩ (List.nodup_append.mp hnd).1 (fun c hc f hf hq => hother c f hf (hbU c (List.mem_cons_of_mem _ (hl1in c hc))) (Or.inl (fun e => q4 (e ▸ hl1in c hc))) (Or.inr hq)) (fun hl => ?_)
    have hl : zLs 0 l1 ≠ 0 := fun e => hl (hl1e e)
    rw [hWd5 _ 1 (by decide), if_neg (fun z => hl z.1), if_pos ⟨hl, rfl, rfl⟩]
    rfl
  have hbk : oA (gO σ o) = true → zBk (-1) (l1 ++ b :: l2) (p1 ++ zBec d (k, 0, 0, 0, 0, 0) :: p2) = zBk (-1) (π o) (oL (gO σ o)) := by
    intro ha
    obtain ⟨hk1, -⟩ := hk ha
    rw [r1, r2, zBk_app r3, zBk_app r3]
    split
    · show (if kK (zBec d (k, 0, 0, 0, 0, 0)) = -1 then b else zBk (-1) l2 p2) = _
      rw [zBec_key, if_neg (show ¬ (kK ((k, 0, 0, 0, 0, 0) : zPr) = -1) from hk1)]
    · rfl
  have hobj5 : zOA s5 β (β o) (l1 ++ b :: l2) (zSL (gO σ o) (zIns k (zBec d (k, 0, 0, 0, 0, 0)) (oL (gO σ o)))) := by
    rw [r4]
    have hβb : β o ≠ b := fun e => hbβ e.symm
    have hβl : β o ≠ zLs 0 l1 := by
      intro e
      have := hlast (by omega)
      exact q4 (by rw [e]; exact hl1in _ this)
    refine ⟨?_, ?_, ?_, ?_, hPA5⟩
    · rw [hother _ 1 (by decide) hβb (Or.inr (by decide)) (Or.inr (Or.inl hβl))]; exact w1
    · by_cases hl : zLs 0 l1 = 0
      · rw [hWd5 _ 2 (by decide), if_pos ⟨hl, rfl, rfl⟩, hl1e hl]; rfl
      · rw [hWd5 _ 2 (by decide), if_neg (fun z => hl z.1), if_neg (fun z => by have := z.2.2; omega), if_neg (by omega), hW3 _ 2 (by decide) hβb, w2, r1]
        have := hlast hl
        cases l1 with
        | nil => cases this
        | cons a r => rfl
    · rw [hother _ 3 (by decide) hβb (Or.inr (by decide)) (Or.inr (Or.inl hβl)), w3]
      show _ = nL (if oA (gO σ o) = true then zBk (-1) (l1 ++ b :: l2) (p1 ++ zBec d (k, 0, 0, 0, 0, 0) :: p2) else 0)
      by_cases ha : oA (gO σ o) = true
      · rw [if_pos ha, if_pos ha, hbk ha]
      · rw [if_neg ha, if_neg ha]
    · rw [hother _ 4 (by decide) hβb (Or.inr (by decide)) (Or.inr (Or.inl hβl))]; exact w4
  have hcl := m2.2.2.2.2.2.2.1 o ho1
  have hfin := m2.updN (t := s5) (o := o) (b := b) (x := zSL (gO σ o) (zIns k (zBec d (k, 0, 0, 0, 0, 0)) (oL (gO σ o)))) (l1 := l1) (l2 := l2) ho1 r1 m5 m6 m7 (fun j _ _ => by rw [hch.2.2.2, hu3.2.2.2.1]) (by rw [hch.1, hu3.1]) (by rw [hch.2.1.2.2.1, hu3.2.1.2.2.1])
    (fun c f hf hcb hc => hother c f hf hcb (Or.inl (fun e => hc (by rw [e]; exact List.mem_cons_self))) (by
      by_cases hl : zLs 0 l1 = 0
      · exact Or.inl hl
      · exact Or.inr (Or.inl (fun e => hc (by rw [e]; exact List.mem_cons_of_mem _ (hl1in _ (hlast hl)))))))
    (fun c hc => by
      rw [hWd5 c 0 (by decide), if_neg (by omega), if_neg (by omega), if_neg (by omega), hW3 c 0 (by decide) hc]) (by rw [hb5 0 (by decide) (by decide), hu3.2.2.2.2 b 0 (by decide) (Or.inr (by decide)), m8 0 (by decide)]) hobj5 hcl.1 (fun p hp => by
      rw [zSL, oL] at hp
      have hp : p ∈ zIns k (zBec d (k, 0, 0, 0, 0, 0)) (oL (gO σ o)) := hp
      rw [r4] at hp
      rcases List.mem_append.mp hp with e | e
      · exact hcl.2 p (by rw [r2]; simp [e])
      · rcases List.mem_cons.mp e with e | e
        · rw [e]
          exact zB_objs d _ (fun j => j = 0 ∨ j ∈ lv1) (Or.inl rfl) ⟨Or.inl rfl, Or.inl rfl⟩ hD1.2.2.2.2.2.2.2
        · exact hcl.2 p (by rw [r2]; simp [e]))
  refine ⟨s5, lv1, _, nb1, FL1, rfl, hfin, ho1, (m9.tr hu3.2.1).tr hch.2.1, m10, by rw [hch.2.2.1, hu3.2.2.1]; exact m11, by rw [hch.2.2.1, hu3.2.2.1]; exact m12, fun ha => ?_⟩
  rw [r4]
  simp only [if_true]
  exact hbk ha
end ZC6

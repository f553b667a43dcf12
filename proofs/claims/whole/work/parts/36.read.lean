/-! reading -/
theorem z_and64 (x y : Int32) : x.toInt64 &&& y.toInt64 = (x &&& y).toInt64 := by simp
theorem z_64eq0 (x : Int32) : x.toInt64 = 0 ↔ x = 0 := ⟨fun h => by
  have := congrArg Int64.toInt32 h
  simpa using this, fun h => by rw [h]; rfl⟩
theorem z_6432 (x : Int32) : x.toInt64.toInt32 = x := by simp
theorem z_nar0 : vp_nar .boolean (0 : Int32) = 0 := rfl
theorem z_nar1 : vp_nar .boolean (1 : Int32) = 1 := rfl
/-- 1 or 0 -/
abbrev bI (c : Prop) [Decidable c] : Int32 := if c then 1 else 0
theorem bI_t {c : Prop} [Decidable c] (h : c) : bI c = 1 := if_pos h
theorem bI_f {c : Prop} [Decidable c] (h : ¬ c) : bI c = 0 := if_neg h
section ZRD
variable {nb b : Nat} {s : zSt} {β : Nat → Nat} {p : zPr}
theorem r_key (h : zOk nb s) (hb : b ≤ nb) (hp : zPw1 s β b p) : F_O_keyOf (nI b) s = some (kK p, s) := by unfold F_O_keyOf; rw [zw4 h hb, zb_some, hp.2.2.1]
theorem r_att (h : zOk nb s) (hb : b ≤ nb) (hp : zPw1 s β b p) : F_O_attributesOf (nI b) s = some (kF p, s) := by unfold F_O_attributesOf; rw [zw5 h hb, zb_some, hp.2.2.2.1, z_6432]
theorem r_any (h : zOk nb s) (hb : b ≤ nb) (hp : zPw1 s β b p) (m : Int32) : F_O_isAny (nI b) m s = some (bI (kF p &&& m ≠ 0), s) := by
  unfold F_O_isAny F_O_isAny_22
  rw [zw5 h hb, zb_some, hp.2.2.2.1, z_and64]
  by_cases hc : kF p &&& m = 0
  · rw [if_pos ((lg_cmp_eq _ _).mpr ((z_64eq0 _).mpr hc)), if_pos z_nar0, bI, if_neg (fun q => q hc)]
  · rw [if_neg (fun q => hc ((z_64eq0 _).mp ((lg_cmp_eq _ _).mp q))), if_pos z_nar1, bI, if_pos hc]
theorem r_acc (h : zOk nb s) (hb : b ≤ nb) (hp : zPw1 s β b p) : F_O_isAccessor (nI b) s = some (bI (kF p &&& 64 ≠ 0), s) := by
  unfold F_O_isAccessor F_O_isAccessor_23
  rw [zw5 h hb, zb_some, hp.2.2.2.1, show (64 : Int64) = (64 : Int32).toInt64 from rfl, z_and64]
  by_cases hc : kF p &&& 64 = 0
  · rw [if_pos ((lg_cmp_eq _ _).mpr ((z_64eq0 _).mpr hc)), if_pos z_nar0, bI, if_neg (fun q => q hc)]
  · rw [if_neg (fun q => hc ((z_64eq0 _).mp ((lg_cmp_eq _ _).mp q))), if_pos z_nar1, bI, if_pos hc]
theorem r_kind (h : zOk nb s) (hb : b ≤ nb) (hp : zPw1 s β b p) : F_O_kindOf (nI b) s = some (kD p, s) := by unfold F_O_kindOf; rw [zw6 h hb, zb_some, hp.2.2.2.2.1, z_6432]
theorem r_num (h : zOk nb s) (hb : b ≤ nb) (hp : zPw1 s β b p) : F_O_numberOf (nI b) s = some (kN p, s) := by unfold F_O_numberOf; rw [zw7 h hb, zb_some, hp.2.2.2.2.2]
theorem r_obj (h : zOk nb s) (hb : b ≤ nb) (hp : zPw1 s β b p) : F_O_objectOf (nI b) s = some (nI (β (kO p)), s) := by unfold F_O_objectOf; rw [zw2 h hb, zb_some, hp.1, qL_int]
theorem r_set (h : zOk nb s) (hb : b ≤ nb) (hp : zPw1 s β b p) : F_O_setterOf (nI b) s = some (nI (β (kS p)), s) := by unfold F_O_setterOf; rw [zw3 h hb, zb_some, hp.2.1, qL_int]
theorem r_next (h : zOk nb s) (hb : b ≤ nb) {x : Nat} (hp : Wd s b 1 = nL x) : F_O_next (nI b) s = some (nI x, s) := by unfold F_O_next; rw [zw1 h hb, zb_some, hp, qL_int]
theorem r_first (h : zOk nb s) (hb : b ≤ nb) {bs : List Nat} {x : zOb} (hp : zOA s β b bs x) : F_O_first (nI b) s = some (nI (bs.headD 0), s) := by unfold F_O_first; rw [zw2 h hb, zb_some, hp.2.1, qL_int]
theorem r_proto (h : zOk nb s) (hb : b ≤ nb) {bs : List Nat} {x : zOb} (hp : zOA s β b bs x) : F_O_prototypeOf (nI b) s = some (nI (β (oP x)), s) := by unfold F_O_prototypeOf; rw [zw1 h hb, zb_some, hp.1, qL_int]
theorem r_ext (h : zOk nb s) (hb : b ≤ nb) {bs : List Nat} {x : zOb} (hp : zOA s β b bs x) : F_O_isExtensible (nI b) s = some (bI (oE x = true), s) := by
  unfold F_O_isExtensible F_O_isExtensible_19
  rw [zw4 h hb, zb_some, hp.2.2.2.1]
  cases oE x with
  | true =>
    show (if lg_cmp 1 0 = 0 then _ else _) = _
    rw [if_neg (by decide), if_pos z_nar1, bI, if_pos rfl]
  | false =>
    show (if lg_cmp 0 0 = 0 then _ else _) = _
    rw [if_pos (by decide), if_pos z_nar0, bI, if_neg (by decide)]
end ZRD
section ZRL
variable {nb : Nat} {s : zSt} {β : Nat → Nat}
theorem r_findOwn (h : zOk nb s) (k : Int64) : ∀ (bs : List Nat) (ps : List zPr) (n j : Nat), zPA s β bs ps → zIn nb bs → j + bs.length < 1024 → bs.length < n → F_O_findOwn_10 n k (nI (bs.headD 0)) (nI j) s = some (nI (zBk k bs ps), s) := by
  have hnb := h.2
  intro bs
  induction bs with
  | nil =>
    intro ps n j hP hI hj hn
    obtain ⟨m, rfl⟩ : ∃ m, n = m + 1 := ⟨n - 1, by omega⟩
    rw [F_O_findOwn_10, F_O_findOwn_51]
    have hz : nI (([] : List Nat).headD 0) = 0 := rfl
    have hz2 : nI (zBk k [] ps) = 0 := by cases ps <;> rfl
    rw [hz, hz2, if_pos rfl]
    split <;> rfl
  | cons b bs ih =>
    intro ps n j hP hI hj hn
    rw [List.length_cons] at hj hn
    obtain ⟨m, rfl⟩ : ∃ m, n = m + 1 := ⟨n - 1, by omega⟩
    cases ps with
    | nil => exact hP.elim
    | cons p ps =>
      obtain ⟨h1, h2, h3⟩ := hP
      have hb := hI.1 b List.mem_cons_self
      have hge : ¬ ((1024 : Int32) ≤ nI j) := fun q => by
        have := (qI_le (a := 1024) (b := j) (by decide) (by omega)).mp q
        omega
      have hne : ¬ (nI ((b :: bs).headD 0) = 0) := fun q => by
        have := (qI_eq0 (a := b) (by omega)).mp q
        omega
      rw [F_O_findOwn_10, if_neg hge, if_neg hne]
      show zb (F_O_keyOf (nI b) s) _ = _
      rw [r_key h hb.2 h2, zb_some]
      by_cases hk : kK p = k
      · rw [if_pos ((lg_cmp_eq _ _).mpr hk)]
        show _ = some (nI (if kK p = k then b else zBk k bs ps), s)
        rw [if_pos hk]
        rfl
      · rw [if_neg (fun q => hk ((lg_cmp_eq _ _).mp q))]
        show zb (F_O_next (nI b) s) _ = _
        rw [r_next h hb.2 h1, zb_some]
        have e1 : nI j + 1 = nI (j + 1) := (nI_succ j).symm
        rw [e1, ih ps m (j + 1) h3 hI.tl (by omega) (by omega)]
        show _ = some (nI (if kK p = k then b else zBk k bs ps), s)
        rw [if_neg hk]
theorem r_count (h : zOk nb s) : ∀ (bs : List Nat) (ps : List zPr) (n j c : Nat), zPA s β bs ps → zIn nb bs → j + bs.length < 1024 → bs.length < n → F_O_count_11 n (nI c) (nI (bs.headD 0)) (nI j) s = some (nI (c + bs.length), s) := by
  have hnb := h.2
  intro bs
  induction bs with
  | nil =>
    intro ps n j c hP hI hj hn
    obtain ⟨m, rfl⟩ : ∃ m, n = m + 1 := ⟨n - 1, by omega⟩
    rw [F_O_count_11, F_O_count_38]
    have hz : nI (([] : List Nat).headD 0) = 0 := rfl
    rw [hz, if_pos rfl]
    split <;> rfl
  | cons b bs ih =>
    intro ps n j c hP hI hj hn
    rw [List.length_cons] at hj hn
    obtain ⟨m, rfl⟩ : ∃ m, n = m + 1 := ⟨n - 1, by omega⟩
    cases ps with
    | nil => exact hP.elim
    | cons p ps =>
      obtain ⟨h1, h2, h3⟩ := hP
      have hb := hI.1 b List.mem_cons_self
      have hge : ¬ ((1024 : Int32) ≤ nI j) := fun q => by
        have := (qI_le (a := 1024) (b := j) (by decide) (by omega)).mp q
        omega
      have hne : ¬ (nI ((b :: bs).headD 0) = 0) := fun q => by
        have := (qI_eq0 (a := b) (by omega)).mp q
        omega
      rw [F_O_count_11, if_neg hge, if_neg hne]
      show zb (F_O_next (nI b) s) _ = _
      rw [r_next h hb.2 h1, zb_some]
      have e1 : nI j + 1 = nI (j + 1) := (nI_succ j).symm
      have e2 : nI c + 1 = nI (c + 1) := (nI_succ c).symm
      rw [e1, e2, ih ps m (j + 1) (c + 1) h3 hI.tl (by omega) (by omega), List.length_cons, Nat.add_assoc, Nat.add_comm 1]
theorem r_nth (h : zOk nb s) {k : Nat} (hk : k < 1024) : ∀ (bs : List Nat) (ps : List zPr) (n j : Nat), zPA s β bs ps → zIn nb bs → j ≤ k → k - j < n → F_O_nth_22 n (nI k) (nI (bs.headD 0)) (nI j) s = some (nI (bs.getD (k - j) 0), s) := by
  have hnb := h.2
  intro bs
  induction bs with
  | nil =>
    intro ps n j hP hI hj hn
    obtain ⟨m, rfl⟩ : ∃ m, n = m + 1 := ⟨n - 1, by omega⟩
    rw [F_O_nth_22, F_O_nth_44]
    have hz : nI (([] : List Nat).headD 0) = 0 := rfl
    have hz2 : nI (([] : List Nat).getD (k - j) 0) = 0 := by simp; rfl
    rw [hz, hz2, if_pos rfl]
    split <;> rfl
  | cons b bs ih =>
    intro ps n j hP hI hj hn
    obtain ⟨m, rfl⟩ : ∃ m, n = m + 1 := ⟨n - 1, by omega⟩
    cases ps with
    | nil => exact hP.elim
    | cons p ps =>
      obtain ⟨h1, h2, h3⟩ := hP
      have hb := hI.1 b List.mem_cons_self
      have hne : ¬ (nI ((b :: bs).headD 0) = 0) := fun q => by
        have := (qI_eq0 (a := b) (by omega)).mp q
        omega
      rw [F_O_nth_22]
      by_cases hjk : j = k
      · rw [if_pos ((qI_le (by omega) (by omega)).mpr (by omega)), hjk, Nat.sub_self]
        rfl
      · rw [if_neg (fun q => by have := (qI_le (a := k) (b := j) (by omega) (by omega)).mp q; omega), if_neg hne]
        show zb (F_O_next (nI b) s) _ = _
        rw [r_next h hb.2 h1, zb_some]
        have e1 : nI j + 1 = nI (j + 1) := (nI_succ j).symm
        rw [e1, ih ps m (j + 1) h3 hI.tl (by omega) (by omega)]
        have e2 : k - j = (k - (j + 1)) + 1 := by omega
        rw [e2, List.getD_cons_succ]
/-- the block of a key, and the property there -/
theorem zBk_at {k : Int64} : ∀ {bs : List Nat} {ps : List zPr}, zPA s β bs ps → zIn nb bs → (zG k ps = none ∧ zBk k bs ps = 0) ∨ ∃ p, zG k ps = some p ∧ p ∈ ps ∧ zBk k bs ps ∈ bs ∧ zPw1 s β (zBk k bs ps) p ∧ kK p = k := by
  intro bs
  induction bs with
  | nil => intro ps hP hI; cases ps with
    | nil => exact Or.inl ⟨rfl, rfl⟩
    | cons p ps => exact hP.elim
  | cons b bs ih => intro ps hP hI; cases ps with
    | nil => exact hP.elim
    | cons p ps =>
      show ((if kK p = k then some p else zG k ps) = none ∧ (if kK p = k then b else zBk k bs ps) = 0) ∨ ∃ q, (if kK p = k then some p else zG k ps) = some q ∧ q ∈ p :: ps ∧ (if kK p = k then b else zBk k bs ps) ∈ b :: bs ∧ zPw1 s β (if kK p = k then b else zBk k bs ps) q ∧ kK q = k
      by_cases hk : kK p = k
      · rw [if_pos hk, if_pos hk]
        exact Or.inr ⟨p, rfl, List.mem_cons_self, List.mem_cons_self, hP.2.1, hk⟩
      · rw [if_neg hk, if_neg hk]
        rcases ih hP.2.2 hI.tl with q | ⟨q, q1, q2, q3, q4⟩
        · exact Or.inl q
        · exact Or.inr ⟨q, q1, List.mem_cons_of_mem _ q2, List.mem_cons_of_mem _ q3, q4⟩
end ZRL

/-! what the tables of the abstract machine say is so, by the words of lw_tbl -/
def zk_good (w : Cond) : Bool := goodWord w || (match w with
  | .fieldLinkNest .. => true
  | .castable .. => true
  | .declares _ => true
  | _ => false)
/-- the words that hold wherever the tables are warmer -/
def zkT : List Cond := lw_tbl.filter zk_good
theorem zk_warm {w : Cond} (hg : zk_good w = true) {s U : State} {a a2 : Array Value} (hW : s.WarmedH U.vm) (h : w.before a s = true) : w.before a2 U = true := by
  unfold zk_good at hg
  rw [Bool.or_eq_true] at hg
  rcases hg with hg | hg
  · exact word_at hW (good_of_word hg) h
  · split at hg
    · exact va_Nw.use rfl (va_Nw.warmF hW (va_Nw.of rfl h))
    · exact va_Nw.use rfl (va_Nw.warmC hW (va_Nw.of rfl h))
    · rename_i x
      obtain ⟨m, meth, h1, h2, h3, h4⟩ := Cond.declares_spec h
      simp only [Cond.before, Cond.holds, Cond.value, beq_iff_eq]
      rw [named_alike hW.alike, h1]
      have h5 : U.vm.method? m = some meth := (hW.alike.method? m).trans h2
      simp [h5, h3, h4]
    · cases hg
theorem zkT_warm {s U : State} {a a2 : Array Value} (hW : s.WarmedH U.vm) (h : ∀ w ∈ zkT, w.before a s = true) : ∀ w ∈ zkT, w.before a2 U = true := fun w hw => zk_warm (List.mem_filter.mp hw).2 hW (h w hw)
/-- the word w stands at place p, and is good -/
def zk_chk (p : Nat) (w : Cond) : Bool := decide (zk_nth lw_tbl p = some w) && zk_good w
theorem zk_nth_mem {α : Type} {l : List α} {n : Nat} {a : α} (h : zk_nth l n = some a) : a ∈ l := by
  induction l generalizing n with
  | nil => cases h
  | cons b r ih =>
    cases n with
    | zero => cases h; exact List.mem_cons_self
    | succ n => exact List.mem_cons_of_mem _ (ih h)
theorem zk_chk_mem {p : Nat} {w : Cond} (h : zk_chk p w = true) : w ∈ zkT := by
  unfold zk_chk at h
  rw [Bool.and_eq_true, decide_eq_true_eq] at h
  exact List.mem_filter.mpr ⟨zk_nth_mem h.1, h.2⟩
theorem zk_lk_mem {α : Type} {k : Nat} {l : List (Nat × α)} {v : α} (h : zk_lk k l = some v) : (k, v) ∈ l := by
  induction l with
  | nil => cases h
  | cons q r ih =>
    unfold zk_lk at h
    cases hq : Nat.beq q.1 k with
    | true =>
      rw [hq] at h
      have e1 : q.1 = k := Nat.eq_of_beq_eq_true hq
      have e2 : q.2 = v := Option.some.inj h
      rw [← e1, ← e2]
      exact List.mem_cons_self
    | false =>
      rw [hq] at h
      exact List.mem_cons_of_mem _ (ih h)
def zk_each {α : Type} (L : List (List (Nat × α))) (f : String → Nat → α → Bool) : Bool := (List.range 11).all (fun p => match zk_nth zk_pn p, zk_nth L p with
  | some o, some t => t.all (fun e => f o e.1 e.2)
  | _, none => true
  | none, some _ => false)
/-- a method's class is that of its pool -/
def zk_pok : Bool := (List.range 163).all (fun M => decide (zk_nth zk_pn (zk_pl M) = some (zk_own M)))
theorem zk_pok_ok : zk_pok = true := by decide +kernel
theorem zk_nth_none {α : Type} {l : List α} {n : Nat} (h : l.length ≤ n) : zk_nth l n = none := by
  induction l generalizing n with
  | nil => rfl
  | cons b r ih =>
    cases n with
    | zero => simp at h
    | succ n => exact ih (by simpa using h)
theorem zk_big {M : Nat} (h : 163 ≤ M) : zk_pl M = 99 := by
  have h1 : zk_nth zk_infos M = none := zk_nth_none h
  unfold zk_pl zk_inf
  rw [h1]
theorem zk_lk2_ok {α : Type} {L : List (List (Nat × α))} {f : String → Nat → α → Bool} {M k : Nat} {v : α} (hL : L.length = 11) (hf : zk_each L f = true) (h : zk_lk2 (zk_pl M) k L = some v) : f (zk_own M) k v = true := by
  unfold zk_lk2 at h
  split at h
  · rename_i t ht
    by_cases hM : M < 163
    · have h1 : zk_nth zk_pn (zk_pl M) = some (zk_own M) := of_decide_eq_true (List.all_eq_true.mp zk_pok_ok M (List.mem_range.mpr hM))
      have h2 : zk_pl M < 11 := by
        rcases Nat.lt_or_ge (zk_pl M) 11 with q | q
        · exact q
        · rw [zk_nth_none (by rw [hL]; exact q)] at ht; cases ht
      have h3 := List.all_eq_true.mp hf (zk_pl M) (List.mem_range.mpr h2)
      simp only [h1, ht] at h3
      exact List.all_eq_true.mp h3 (k, v) (zk_lk_mem h)
    · rw [zk_big (by omega), zk_nth_none (by rw [hL]; decide)] at ht
      cases ht
  · cases h
theorem zk_kiL_ok : zk_each zk_kiL (fun o k q => zk_chk q.2 (.constant o k q.1)) = true := by decide +kernel
theorem zk_f_ki {M k : Nat} {v : Int32} (h : zk_ki M k = some v) : Cond.constant (zk_own M) k v ∈ zkT := by
  unfold zk_ki at h
  split at h
  · rename_i q hq
    cases h
    exact zk_chk_mem (zk_lk2_ok (by rfl) zk_kiL_ok hq)
  · cases h
theorem zk_klL_ok : zk_each zk_klL (fun o k q => zk_chk q.2 (.constantLong o k q.1)) = true := by decide +kernel
theorem zk_f_kl {M k : Nat} {v : Int64} (h : zk_kl M k = some v) : Cond.constantLong (zk_own M) k v ∈ zkT := by
  unfold zk_kl at h
  split at h
  · rename_i q hq
    cases h
    exact zk_chk_mem (zk_lk2_ok (by rfl) zk_klL_ok hq)
  · cases h
/-- fields -/
def zk_flB (o : String) (k : Nat) (q : Nat × Nat × Nat × Bool) : Bool := match zk_nth zkCl q.1 with
  | some w => decide (q.2.1 < w.2.2) && decide ((w.2.1 q.2.1).1 = w.1) && (match q.2.2.2 with
    | true => zk_chk q.2.2.1 (.fieldLinkNest o k w.1 (w.2.1 q.2.1).2.1 (w.2.1 q.2.1).2.2.1 "PropertyStore")
    | false => zk_chk q.2.2.1 (.fieldLink o k w.1 (w.2.1 q.2.1).2.1 (w.2.1 q.2.1).2.2.1))
  | none => false
theorem zk_flL_ok : zk_each zk_flL zk_flB = true := by decide +kernel
theorem zk_nth_get {α : Type} {l : List α} {n : Nat} : zk_nth l n = l[n]? := by
  induction l generalizing n with
  | nil => rfl
  | cons b r ih =>
    cases n with
    | zero => rfl
    | succ n => rw [List.getElem?_cons_succ]; exact ih
theorem zk_clty : ((List.range 5).all fun ci => match zk_nth zkCl ci with
  | some w => (List.range w.2.2).all fun j => decide (parseFieldDescriptor (w.2.1 j).2.2.1 = some (zk_fty ci j))
  | none => false) = true := by decide +kernel
theorem zk_f_ty {ci : Nat} {w : vw_C} (hw : zkCl[ci]? = some w) : ∀ k, k < w.2.2 → parseFieldDescriptor (w.2.1 k).2.2.1 = some (zk_fty ci k) := by
  intro k hk
  have hlt : ci < 5 := (List.getElem?_eq_some_iff.mp hw).1
  have h1 := List.all_eq_true.mp zk_clty ci (List.mem_range.mpr hlt)
  rw [← zk_nth_get] at hw
  simp only [hw] at h1
  exact of_decide_eq_true (List.all_eq_true.mp h1 k (List.mem_range.mpr hk))
theorem zk_clnm : ((List.range 5).all fun ci => match zk_nth zkCl ci with
  | some w => (List.range w.2.2).all fun a => (List.range w.2.2).all fun b => decide (a = b) || decide ((w.2.1 a).2.1 ≠ (w.2.1 b).2.1)
  | none => false) = true := by decide +kernel
theorem zk_f_nm {ci : Nat} {w : vw_C} (hw : zkCl[ci]? = some w) : ∀ a, a < w.2.2 → ∀ b, b < w.2.2 → a ≠ b → (w.2.1 a).2.1 ≠ (w.2.1 b).2.1 := by
  intro a ha b hb hab
  have hlt : ci < 5 := (List.getElem?_eq_some_iff.mp hw).1
  have h1 := List.all_eq_true.mp zk_clnm ci (List.mem_range.mpr hlt)
  rw [← zk_nth_get] at hw
  simp only [hw] at h1
  have h2 := List.all_eq_true.mp (List.all_eq_true.mp h1 a (List.mem_range.mpr ha)) b (List.mem_range.mpr hb)
  rw [Bool.or_eq_true, decide_eq_true_eq, decide_eq_true_eq] at h2
  exact h2.resolve_left hab
theorem zk_clly : ((List.range 5).all fun ci => match zk_nth zkCl ci, zk_nth zk_lyP ci with
  | some w, some ps => (List.range w.2.2).all fun j => match zk_nth ps j with
    | some p => zk_chk p (u_lay w.1 w.2.1 j)
    | none => false
  | _, _ => false) = true := by decide +kernel
theorem zk_f_lay {ci : Nat} {w : vw_C} (hw : zkCl[ci]? = some w) : ∀ x ∈ u_ws w.1 w.2.1 w.2.2, x ∈ zkT := by
  intro x hx
  have hlt : ci < 5 := (List.getElem?_eq_some_iff.mp hw).1
  have h1 := List.all_eq_true.mp zk_clly ci (List.mem_range.mpr hlt)
  rw [← zk_nth_get] at hw
  simp only [hw] at h1
  split at h1
  · rename_i ps hw2 hps
    cases hw2
    obtain ⟨j, hj, rfl⟩ := List.mem_map.mp hx
    have h2 := List.all_eq_true.mp h1 j hj
    split at h2
    · exact zk_chk_mem h2
    · cases h2
  · cases h1
theorem zk_f_fl {M k ci j : Nat} (h : zk_fl M k = some (ci, j)) : ∃ w : vw_C, zkCl[ci]? = some w ∧ j < w.2.2 ∧ (w.2.1 j).1 = w.1 ∧ parseFieldDescriptor (w.2.1 j).2.2.1 = some (zk_fty ci j) ∧ (Cond.fieldLink (zk_own M) k w.1 (w.2.1 j).2.1 (w.2.1 j).2.2.1 ∈ zkT ∨ ∃ host, Cond.fieldLinkNest (zk_own M) k w.1 (w.2.1 j).2.1 (w.2.1 j).2.2.1 host ∈ zkT) := by
  unfold zk_fl at h
  split at h
  · rename_i q hq
    cases h
    have h1 := zk_lk2_ok (by rfl) zk_flL_ok hq
    unfold zk_flB at h1
    split at h1
    · rename_i w hw
      rw [zk_nth_get] at hw
      simp only [Bool.and_eq_true, decide_eq_true_eq] at h1
      obtain ⟨⟨h2, h3⟩, h4⟩ := h1
      refine ⟨w, hw, h2, h3, zk_f_ty hw _ h2, ?_⟩
      split at h4
      · exact Or.inr ⟨_, zk_chk_mem h4⟩
      · exact Or.inl (zk_chk_mem h4)
    · cases h1
  · cases h

/-! one step of the law -/
def zLI (R L : Nat) (σ : zSg) (c : Nat) (s : zSt) : Prop := zWf σ ∧ gn σ ≤ c + 1 ∧ zXs σ (2 * c) (R + 6 * c) (L + c) s ∧ ∃ md, md ≤ c ∧ zMs σ md s
theorem zLx.mono {A : Option (Int32 × zSt)} {cd : Int32} {σ : zSg} {mk mk2 rc rl : Nat} {s : zSt} {P : Int64 → Prop} (h : zLx A cd σ mk rc rl s P) (hm : mk ≤ mk2) : zLx A cd σ mk2 rc rl s P := by
  obtain ⟨t, h1, h2, h3, h4⟩ := h
  exact ⟨t, h1, h2.mono hm (Nat.le_refl _) (Nat.le_refl _), h3, h4⟩
theorem L_go {α : Type} {R L : Nat} {A : Option (Int32 × zSt)} {B : zSt → Option (α × zSt)} {v : α} {cd : Int32} {σ σ2 : zSg} {c : Nat} {s : zSt} {P : Int64 → Prop} (h : zLI R L σ c s) (hW2 : zWf σ2 ∧ gn σ2 ≤ gn σ + 1) (hA : zLx A cd σ2 (2 * c + 2) (R + 6 * c) (L + c) s P) (hB : ∀ md t, md ≤ c → zMs σ md t → zMq (B t) v cd σ2 md t) : ∃ t u, A = some (cd, t) ∧ B t = some (v, u) ∧ gI u 13 = cd ∧ zLI R L σ2 (c + 1) u ∧ P (gB u 3 0) := by
  obtain ⟨hW, hg, hX, md, hm, hM⟩ := h
  obtain ⟨t, a1, a2, a3, a4⟩ := hA
  obtain ⟨u, md2, b1, b2, b3, b4, b5⟩ := hB md t hm (hM.kn a3)
  refine ⟨t, u, a1, b1, b2, ⟨hW2.1, by have := hW2.2; omega, (a2.kd b5.d).mono (by omega) (by omega) (by omega), md2, by omega, b4⟩, ?_⟩
  rw [b5.2.2.2.2.1]; exact a4
theorem zTh_inl {α : Type} {S : (α ⊕ Nat) × zSg} (h : zTh S = 0) : ∃ v, S.1 = .inl v ∧ ∀ d, zVl d S = v := by
  unfold zTh at h
  unfold zVl
  cases hs : S.1 with
  | inl v => exact ⟨v, rfl, fun d => rfl⟩
  | inr x =>
    rw [hs] at h
    cases x with
    | zero => exact absurd (show (1 : Int32) = 0 from h) (by decide)
    | succ n => exact absurd (show (2 : Int32) = 0 from h) (by decide)
theorem L_tv {α β : Type} {S : (α ⊕ Nat) × zSg} {w : α → Int64} {d : α} {u : zSt} (hP : ∀ v, S.1 = .inl v → gB u 3 0 = w v) (N E : Option β) : (if zTh S = 0 then (if zin (0 : Int32) 1 then (if (lg_cmp (gB u 3 ((0 : Int32)).toNatClampNeg) (w (zVl d S))) = 0 then N else E) else none) else N) = N := by
  by_cases h0 : zTh S = 0
  · obtain ⟨v, e1, e2⟩ := zTh_inl h0
    rw [if_pos h0, if_pos (show zin (0 : Int32) 1 by decide), e2]
    have e3 : gB u 3 ((0 : Int32)).toNatClampNeg = w v := hP v e1
    rw [e3, if_pos ((lg_cmp_eq _ _).mpr rfl)]
  · rw [if_neg h0]
theorem L_tb {β : Type} {S : (Int32 ⊕ Nat) × zSg} {u : zSt} (hP : ∀ v, S.1 = .inl v → gB u 3 0 = if v = 0 then 0 else 1) (N E : Option β) : (if zTh S = 0 then (if zin (0 : Int32) 1 then (if zVl 0 S = 0 then (if (lg_cmp (gB u 3 ((0 : Int32)).toNatClampNeg) 0) = 0 then N else E) else (if (lg_cmp (gB u 3 ((0 : Int32)).toNatClampNeg) 1) = 0 then N else E)) else none) else N) = N := by
  by_cases h0 : zTh S = 0
  · obtain ⟨v, e1, e2⟩ := zTh_inl h0
    rw [if_pos h0, if_pos (show zin (0 : Int32) 1 by decide), e2]
    have e3 : gB u 3 ((0 : Int32)).toNatClampNeg = if v = 0 then 0 else 1 := hP v e1
    rw [e3]
    by_cases hv : v = 0
    · rw [if_pos hv, if_pos hv, if_pos ((lg_cmp_eq _ _).mpr rfl)]
    · rw [if_neg hv, if_neg hv, if_pos ((lg_cmp_eq _ _).mpr rfl)]
  · rw [if_neg h0]
theorem N_copy (σ : zSg) (r q : Int32) : ∀ x, (S_copy σ r q).1 = .inr x → x = 0 := by
  intro x hx
  unfold S_copy at hx
  repeat' split at hx
  all_goals first | (cases hx; rfl) | cases hx
theorem N_same (σ : zSg) (r q : Int32) : ∀ x, (S_same σ r q).1 = .inr x → x = 0 := by
  intro x hx
  unfold S_same at hx
  repeat' split at hx
  all_goals first | (cases hx; rfl) | cases hx
theorem N_operand (σ : zSg) (k : Int32) (b : Int64) : ∀ x, (S_operand σ k b).1 = .inr x → x = 0 := by
  intro x hx
  unfold S_operand at hx
  repeat' split at hx
  all_goals first | (cases hx; rfl) | cases hx
theorem N_get (σ : zSg) (r : Int32) (k : Int64) : ∀ x, (S_get σ r k).1 = .inr x → x = 0 := by
  intro x hx
  unfold S_get at hx
  repeat' split at hx
  all_goals first | (cases hx; rfl) | cases hx
theorem N_put (σ : zSg) (r : Int32) (k : Int64) : ∀ x, (S_put σ r k).1 = .inr x → x = 0 := by
  intro x hx
  unfold S_put at hx
  repeat' split at hx
  all_goals first | (cases hx; rfl) | cases hx
theorem N_define (σ : zSg) (r : Int32) (k : Int64) (told on g q : Int32) : ∀ x, (S_define σ r k told on g q).1 = .inr x → x = 0 := by
  intro x hx
  unfold S_define at hx
  repeat' split at hx
  all_goals first | (cases hx; rfl) | cases hx
theorem N_own (σ : zSg) (r : Int32) (k : Int64) : ∀ x, (S_own σ r k).1 = .inr x → x = 0 := by
  intro x hx
  unfold S_own at hx
  repeat' split at hx
  all_goals first | (cases hx; rfl) | cases hx
theorem N_setter (σ : zSg) (r : Int32) (k : Int64) (q : Int32) : ∀ x, (S_setter σ r k q).1 = .inr x → x = 0 := by
  intro x hx
  unfold S_setter at hx
  repeat' split at hx
  all_goals first | (cases hx; rfl) | cases hx
theorem N_has (σ : zSg) (r : Int32) (k : Int64) : ∀ x, (S_has σ r k).1 = .inr x → x = 0 := by
  intro x hx
  unfold S_has at hx
  repeat' split at hx
  all_goals first | (cases hx; rfl) | cases hx
theorem N_delete (σ : zSg) (r : Int32) (k : Int64) : ∀ x, (S_delete σ r k).1 = .inr x → x = 0 := by
  intro x hx
  unfold S_delete at hx
  repeat' split at hx
  all_goals first | (cases hx; rfl) | cases hx
theorem N_keys (σ : zSg) (r : Int32) : ∀ x, (S_keys σ r).1 = .inr x → x = 0 := by
  intro x hx
  unfold S_keys at hx
  repeat' split at hx
  all_goals first | (cases hx; rfl) | cases hx
theorem N_key (σ : zSg) (r k : Int32) : ∀ x, (S_key σ r k).1 = .inr x → x = 0 := by
  intro x hx
  unfold S_key at hx
  repeat' split at hx
  all_goals first | (cases hx; rfl) | cases hx
theorem N_lock (σ : zSg) (r how : Int32) : ∀ x, (S_lock σ r how).1 = .inr x → x = 0 := by
  intro x hx
  unfold S_lock at hx
  repeat' split at hx
  all_goals first | (cases hx; rfl) | cases hx
theorem N_locked (σ : zSg) (r how : Int32) : ∀ x, (S_locked σ r how).1 = .inr x → x = 0 := by
  intro x hx
  unfold S_locked at hx
  repeat' split at hx
  all_goals first | (cases hx; rfl) | cases hx
theorem N_proto (σ : zSg) (r q : Int32) : ∀ x, (S_proto σ r q).1 = .inr x → x = 0 := by
  intro x hx
  unfold S_proto at hx
  repeat' split at hx
  all_goals first | (cases hx; rfl) | cases hx
theorem N_stress (σ : zSg) (n : Int32) : ∀ x, (S_stress σ n).1 = .inr x → x = 0 := by
  intro x hx
  unfold S_stress at hx
  repeat' split at hx
  all_goals first | (cases hx; rfl) | cases hx
theorem N_object (σ : zSg) (r p a : Int32) : ∀ x, (S_object σ r p a).1 = .inr x → x = 0 := by
  intro x hx
  unfold S_object at hx
  repeat' split at hx
  all_goals first | (cases hx; rfl) | cases hx
theorem G_copy {R L : Nat} {σ : zSg} {c : Nat} {s : zSt} (h : zLI R L σ c s) (hc : c < 512) (b0 : Int32) (b1 : Int32) : ∃ t u, F_L_copy b0 b1 s = some (zTh (S_copy σ b0 b1), t) ∧ F_R_copy b0 b1 t = some ((), u) ∧ gI u 13 = zTh (S_copy σ b0 b1) ∧ zLI R L (S_copy σ b0 b1).2 (c + 1) u ∧ (fun _ => True) (gB u 3 0) :=
  L_go (P := fun _ => True) (B := fun t => F_R_copy b0 b1 t) h ⟨(W_copy h.1 b0 b1).1, by rw [(W_copy h.1 b0 b1).2]; omega⟩ ((L_void (X_copy h.2.2.1 b0 b1) (N_copy σ b0 b1)).mono (by omega)) (fun md t hm hM => (M_copy hM b0 b1).q)
theorem G_same {R L : Nat} {σ : zSg} {c : Nat} {s : zSt} (h : zLI R L σ c s) (hc : c < 512) (b0 : Int32) (b1 : Int32) : ∃ t u, F_L_same b0 b1 s = some (zTh (S_same σ b0 b1), t) ∧ F_R_same b0 b1 t = some ((zVl 0 (S_same σ b0 b1)), u) ∧ gI u 13 = zTh (S_same σ b0 b1) ∧ zLI R L (S_same σ b0 b1).2 (c + 1) u ∧ (fun b => ∀ v, (S_same σ b0 b1).1 = .inl v → b = if v = 0 then 0 else 1) (gB u 3 0) :=
  L_go (P := fun b => ∀ v, (S_same σ b0 b1).1 = .inl v → b = if v = 0 then 0 else 1) (B := fun t => F_R_same b0 b1 t) h ⟨(W_same h.1 b0 b1).1, by rw [(W_same h.1 b0 b1).2]; omega⟩ ((L_bool (X_same h.2.2.1 b0 b1) (N_same σ b0 b1)).mono (by omega)) (fun md t hm hM => (M_same hM h.1 b0 b1).q)
theorem G_operand {R L : Nat} {σ : zSg} {c : Nat} {s : zSt} (h : zLI R L σ c s) (hc : c < 512) (b0 : Int32) (b1 : Int64) : ∃ t u, F_L_operand b0 b1 s = some (zTh (S_operand σ b0 b1), t) ∧ F_R_operand b0 b1 t = some ((), u) ∧ gI u 13 = zTh (S_operand σ b0 b1) ∧ zLI R L (S_operand σ b0 b1).2 (c + 1) u ∧ (fun _ => True) (gB u 3 0) :=
  L_go (P := fun _ => True) (B := fun t => F_R_operand b0 b1 t) h ⟨(W_operand h.1 b0 b1).1, by rw [(W_operand h.1 b0 b1).2]; omega⟩ ((L_void (X_operand h.2.2.1 b0 b1) (N_operand σ b0 b1)).mono (by omega)) (fun md t hm hM => (M_operand hM h.1 b0 b1).q)
theorem G_get {R L : Nat} {σ : zSg} {c : Nat} {s : zSt} (h : zLI R L σ c s) (hc : c < 512) (b0 : Int32) (b1 : Int64) : ∃ t u, F_L_get b0 b1 s = some (zTh (S_get σ b0 b1), t) ∧ F_R_get b0 b1 t = some ((zVl 0 (S_get σ b0 b1)), u) ∧ gI u 13 = zTh (S_get σ b0 b1) ∧ zLI R L (S_get σ b0 b1).2 (c + 1) u ∧ (fun b => ∀ v, (S_get σ b0 b1).1 = .inl v → b = v.toInt64) (gB u 3 0) :=
  L_go (P := fun b => ∀ v, (S_get σ b0 b1).1 = .inl v → b = v.toInt64) (B := fun t => F_R_get b0 b1 t) h ⟨(W_get h.1 b0 b1).1, by rw [(W_get h.1 b0 b1).2]; omega⟩ ((L_val (X_get h.2.2.1 h.1 b0 b1) (N_get σ b0 b1) (fun v : Int32 => v.toInt64)).mono (by omega)) (fun md t hm hM => (M_get hM h.1 b0 b1).q)
theorem G_put {R L : Nat} {σ : zSg} {c : Nat} {s : zSt} (h : zLI R L σ c s) (hc : c < 512) (b0 : Int32) (b1 : Int64) : ∃ t u, F_L_put b0 b1 s = some (zTh (S_put σ b0 b1), t) ∧ F_R_put_1 b0 b1 t = some ((zVl 0 (S_put σ b0 b1)), u) ∧ gI u 13 = zTh (S_put σ b0 b1) ∧ zLI R L (S_put σ b0 b1).2 (c + 1) u ∧ (fun b => ∀ v, (S_put σ b0 b1).1 = .inl v → b = v.toInt64) (gB u 3 0) :=
  L_go (P := fun b => ∀ v, (S_put σ b0 b1).1 = .inl v → b = v.toInt64) (B := fun t => F_R_put_1 b0 b1 t) h ⟨(W_put h.1 b0 b1).1, by rw [(W_put h.1 b0 b1).2]; omega⟩ ((L_val (X_put h.2.2.1 h.1 (by omega) b0 b1) (N_put σ b0 b1) (fun v : Int32 => v.toInt64)).mono (by omega)) (fun md t hm hM => M_put hM h.1 (by omega) b0 b1)
theorem G_define {R L : Nat} {σ : zSg} {c : Nat} {s : zSt} (h : zLI R L σ c s) (hc : c < 512) (b0 : Int32) (b1 : Int64) (b2 : Int32) (b3 : Int32) (b4 : Int32) (b5 : Int32) : ∃ t u, F_L_define b0 b1 b2 b3 b4 b5 s = some (zTh (S_define σ b0 b1 b2 b3 b4 b5), t) ∧ F_R_define b0 b1 b2 b3 b4 b5 t = some ((zVl 0 (S_define σ b0 b1 b2 b3 b4 b5)), u) ∧ gI u 13 = zTh (S_define σ b0 b1 b2 b3 b4 b5) ∧ zLI R L (S_define σ b0 b1 b2 b3 b4 b5).2 (c + 1) u ∧ (fun b => ∀ v, (S_define σ b0 b1 b2 b3 b4 b5).1 = .inl v → b = v.toInt64) (gB u 3 0) :=
  L_go (P := fun b => ∀ v, (S_define σ b0 b1 b2 b3 b4 b5).1 = .inl v → b = v.toInt64) (B := fun t => F_R_define b0 b1 b2 b3 b4 b5 t) h ⟨(W_define h.1 b0 b1 b2 b3 b4 b5).1, by rw [(W_define h.1 b0 b1 b2 b3 b4 b5).2]; omega⟩ ((L_val (X_define h.2.2.1 h.1 (by omega) b0 b1 b2 b3 b4 b5) (N_define σ b0 b1 b2 b3 b4 b5) (fun v : Int32 => v.toInt64)).mono (by omega)) (fun md t hm hM => M_define hM h.1 (by omega) b0 b1 b2 b3 b4 b5)
theorem G_own {R L : Nat} {σ : zSg} {c : Nat} {s : zSt} (h : zLI R L σ c s) (hc : c < 512) (b0 : Int32) (b1 : Int64) : ∃ t u, F_L_own b0 b1 s = some (zTh (S_own σ b0 b1), t) ∧ F_R_own b0 b1 t = some ((zVl 0 (S_own σ b0 b1)), u) ∧ gI u 13 = zTh (S_own σ b0 b1) ∧ zLI R L (S_own σ b0 b1).2 (c + 1) u ∧ (fun b => ∀ v, (S_own σ b0 b1).1 = .inl v → b = v.toInt64) (gB u 3 0) :=
  L_go (P := fun b => ∀ v, (S_own σ b0 b1).1 = .inl v → b = v.toInt64) (B := fun t => F_R_own b0 b1 t) h ⟨(W_own h.1 b0 b1).1, by rw [(W_own h.1 b0 b1).2]; omega⟩ ((L_val (X_own h.2.2.1 b0 b1) (N_own σ b0 b1) (fun v : Int32 => v.toInt64)).mono (by omega)) (fun md t hm hM => (M_own hM h.1 b0 b1).q)
theorem G_setter {R L : Nat} {σ : zSg} {c : Nat} {s : zSt} (h : zLI R L σ c s) (hc : c < 512) (b0 : Int32) (b1 : Int64) (b2 : Int32) : ∃ t u, F_L_setter b0 b1 b2 s = some (zTh (S_setter σ b0 b1 b2), t) ∧ F_R_setter b0 b1 b2 t = some ((zVl 0 (S_setter σ b0 b1 b2)), u) ∧ gI u 13 = zTh (S_setter σ b0 b1 b2) ∧ zLI R L (S_setter σ b0 b1 b2).2 (c + 1) u ∧ (fun b => ∀ v, (S_setter σ b0 b1 b2).1 = .inl v → b = if v = 0 then 0 else 1) (gB u 3 0) :=
  L_go (P := fun b => ∀ v, (S_setter σ b0 b1 b2).1 = .inl v → b = if v = 0 then 0 else 1) (B := fun t => F_R_setter b0 b1 b2 t) h ⟨(W_setter h.1 b0 b1 b2).1, by rw [(W_setter h.1 b0 b1 b2).2]; omega⟩ ((L_bool (X_setter h.2.2.1 b0 b1 b2) (N_setter σ b0 b1 b2)).mono (by omega)) (fun md t hm hM => (M_setter hM h.1 b0 b1 b2).q)
theorem G_has {R L : Nat} {σ : zSg} {c : Nat} {s : zSt} (h : zLI R L σ c s) (hc : c < 512) (b0 : Int32) (b1 : Int64) : ∃ t u, F_L_has b0 b1 s = some (zTh (S_has σ b0 b1), t) ∧ F_R_has_1 b0 b1 t = some ((zVl 0 (S_has σ b0 b1)), u) ∧ gI u 13 = zTh (S_has σ b0 b1) ∧ zLI R L (S_has σ b0 b1).2 (c + 1) u ∧ (fun b => ∀ v, (S_has σ b0 b1).1 = .inl v → b = if v = 0 then 0 else 1) (gB u 3 0) :=
  L_go (P := fun b => ∀ v, (S_has σ b0 b1).1 = .inl v → b = if v = 0 then 0 else 1) (B := fun t => F_R_has_1 b0 b1 t) h ⟨(W_has h.1 b0 b1).1, by rw [(W_has h.1 b0 b1).2]; omega⟩ ((L_bool (X_has h.2.2.1 h.1 b0 b1) (N_has σ b0 b1)).mono (by omega)) (fun md t hm hM => (M_has hM h.1 b0 b1).q)
theorem G_delete {R L : Nat} {σ : zSg} {c : Nat} {s : zSt} (h : zLI R L σ c s) (hc : c < 512) (b0 : Int32) (b1 : Int64) : ∃ t u, F_L_delete b0 b1 s = some (zTh (S_delete σ b0 b1), t) ∧ F_R_delete b0 b1 t = some ((zVl 0 (S_delete σ b0 b1)), u) ∧ gI u 13 = zTh (S_delete σ b0 b1) ∧ zLI R L (S_delete σ b0 b1).2 (c + 1) u ∧ (fun b => ∀ v, (S_delete σ b0 b1).1 = .inl v → b = if v = 0 then 0 else 1) (gB u 3 0) :=
  L_go (P := fun b => ∀ v, (S_delete σ b0 b1).1 = .inl v → b = if v = 0 then 0 else 1) (B := fun t => F_R_delete b0 b1 t) h ⟨(W_delete h.1 b0 b1).1, by rw [(W_delete h.1 b0 b1).2]; omega⟩ ((L_bool (X_delete h.2.2.1 h.1 b0 b1) (N_delete σ b0 b1)).mono (by omega)) (fun md t hm hM => (M_delete hM h.1 b0 b1).q)
theorem G_keys {R L : Nat} {σ : zSg} {c : Nat} {s : zSt} (h : zLI R L σ c s) (hc : c < 512) (b0 : Int32) : ∃ t u, F_L_keys b0 s = some (zTh (S_keys σ b0), t) ∧ F_R_keys b0 t = some ((zVl 0 (S_keys σ b0)), u) ∧ gI u 13 = zTh (S_keys σ b0) ∧ zLI R L (S_keys σ b0).2 (c + 1) u ∧ (fun b => ∀ v, (S_keys σ b0).1 = .inl v → b = v.toInt64) (gB u 3 0) :=
  L_go (P := fun b => ∀ v, (S_keys σ b0).1 = .inl v → b = v.toInt64) (B := fun t => F_R_keys b0 t) h ⟨(W_keys h.1 b0).1, by rw [(W_keys h.1 b0).2]; omega⟩ ((L_val (X_keys h.2.2.1 b0) (N_keys σ b0) (fun v : Int32 => v.toInt64)).mono (by omega)) (fun md t hm hM => (M_keys hM h.1 b0).q)
theorem G_key {R L : Nat} {σ : zSg} {c : Nat} {s : zSt} (h : zLI R L σ c s) (hc : c < 512) (b0 : Int32) (b1 : Int32) : ∃ t u, F_L_key b0 b1 s = some (zTh (S_key σ b0 b1), t) ∧ F_R_key b0 b1 t = some ((zVl 0 (S_key σ b0 b1)), u) ∧ gI u 13 = zTh (S_key σ b0 b1) ∧ zLI R L (S_key σ b0 b1).2 (c + 1) u ∧ (fun b => ∀ v, (S_key σ b0 b1).1 = .inl v → b = v) (gB u 3 0) :=
  L_go (P := fun b => ∀ v, (S_key σ b0 b1).1 = .inl v → b = v) (B := fun t => F_R_key b0 b1 t) h ⟨(W_key h.1 b0 b1).1, by rw [(W_key h.1 b0 b1).2]; omega⟩ ((L_val (X_key h.2.2.1 b0 b1) (N_key σ b0 b1) (fun v : Int64 => v)).mono (by omega)) (fun md t hm hM => (M_key hM h.1 b0 b1).q)
theorem G_lock {R L : Nat} {σ : zSg} {c : Nat} {s : zSt} (h : zLI R L σ c s) (hc : c < 512) (b0 : Int32) (b1 : Int32) : ∃ t u, F_L_lock b0 b1 s = some (zTh (S_lock σ b0 b1), t) ∧ F_R_lock b0 b1 t = some ((), u) ∧ gI u 13 = zTh (S_lock σ b0 b1) ∧ zLI R L (S_lock σ b0 b1).2 (c + 1) u ∧ (fun _ => True) (gB u 3 0) :=
  L_go (P := fun _ => True) (B := fun t => F_R_lock b0 b1 t) h ⟨(W_lock h.1 b0 b1).1, by rw [(W_lock h.1 b0 b1).2]; omega⟩ ((L_void (X_lock h.2.2.1 b0 b1) (N_lock σ b0 b1)).mono (by omega)) (fun md t hm hM => (M_lock hM h.1 b0 b1).q)
theorem G_locked {R L : Nat} {σ : zSg} {c : Nat} {s : zSt} (h : zLI R L σ c s) (hc : c < 512) (b0 : Int32) (b1 : Int32) : ∃ t u, F_L_locked b0 b1 s = some (zTh (S_locked σ b0 b1), t) ∧ F_R_locked b0 b1 t = some ((zVl 0 (S_locked σ b0 b1)), u) ∧ gI u 13 = zTh (S_locked σ b0 b1) ∧ zLI R L (S_locked σ b0 b1).2 (c + 1) u ∧ (fun b => ∀ v, (S_locked σ b0 b1).1 = .inl v → b = if v = 0 then 0 else 1) (gB u 3 0) :=
  L_go (P := fun b => ∀ v, (S_locked σ b0 b1).1 = .inl v → b = if v = 0 then 0 else 1) (B := fun t => F_R_locked b0 b1 t) h ⟨(W_locked h.1 b0 b1).1, by rw [(W_locked h.1 b0 b1).2]; omega⟩ ((L_bool (X_locked h.2.2.1 b0 b1) (N_locked σ b0 b1)).mono (by omega)) (fun md t hm hM => (M_locked hM h.1 b0 b1).q)
theorem G_prototype {R L : Nat} {σ : zSg} {c : Nat} {s : zSt} (h : zLI R L σ c s) (hc : c < 512) (b0 : Int32) (b1 : Int32) : ∃ t u, F_L_prototype b0 b1 s = some (zTh (S_proto σ b0 b1), t) ∧ F_R_prototype b0 b1 t = some ((), u) ∧ gI u 13 = zTh (S_proto σ b0 b1) ∧ zLI R L (S_proto σ b0 b1).2 (c + 1) u ∧ (fun _ => True) (gB u 3 0) :=
  L_go (P := fun _ => True) (B := fun t => F_R_prototype b0 b1 t) h ⟨(W_proto h.1 b0 b1).1, by rw [(W_proto h.1 b0 b1).2]; omega⟩ ((L_void (X_proto h.2.2.1 b0 b1) (N_proto σ b0 b1)).mono (by omega)) (fun md t hm hM => (M_proto hM h.1 b0 b1).q)
theorem G_stress {R L : Nat} {σ : zSg} {c : Nat} {s : zSt} (h : zLI R L σ c s) (hc : c < 512) (b0 : Int32) : ∃ t u, F_L_stress b0 s = some (zTh (S_stress σ b0), t) ∧ F_R_stress b0 t = some ((), u) ∧ gI u 13 = zTh (S_stress σ b0) ∧ zLI R L (S_stress σ b0).2 (c + 1) u ∧ (fun _ => True) (gB u 3 0) :=
  L_go (P := fun _ => True) (B := fun t => F_R_stress b0 t) h ⟨(W_stress h.1 b0).1, by rw [(W_stress h.1 b0).2]; omega⟩ ((L_void (X_stress h.2.2.1 b0) (N_stress σ b0)).mono (by omega)) (fun md t hm hM => (M_stress hM b0).q)
theorem G_object {R L : Nat} {σ : zSg} {c : Nat} {s : zSt} (h : zLI R L σ c s) (hc : c < 512) (b0 b1 b2 : Int32) (h2 : b2 = 0 ∨ b2 = 1) : ∃ t u, F_L_object b0 b1 b2 s = some (zTh (S_object σ b0 b1 b2), t) ∧ F_R_object b0 b1 b2 t = some ((), u) ∧ gI u 13 = zTh (S_object σ b0 b1 b2) ∧ zLI R L (S_object σ b0 b1 b2).2 (c + 1) u ∧ (fun _ => True) (gB u 3 0) := by
  have hg : gn σ < 600 := by have := h.2.1; omega
  exact L_go (P := fun _ => True) (B := fun t => F_R_object b0 b1 b2 t) h (W_object h.1 hg b0 b1 b2) ((L_void (X_object h.2.2.1 h.1 (by omega) b0 b1 b2) (N_object σ b0 b1 b2)).mono (by omega)) (fun md t hm hM => M_object hM h.1 hg (by omega) b0 b1 b2 h2)
theorem G_hold {R L : Nat} {σ : zSg} {c : Nat} {s : zSt} (h : zLI R L σ c s) (b0 : Int32) : ∃ t u, F_L_hold b0 s = some (zTh (S_hold σ b0), t) ∧ F_R_hold b0 t = some ((), u) ∧ gI u 13 = zTh (S_hold σ b0) ∧ zLI R L (S_hold σ b0).2 (c + 1) u ∧ (fun _ => True) (gB u 3 0) := by
  refine L_go (P := fun _ => True) (B := fun t => F_R_hold b0 t) h ⟨(W_hold h.1 b0).1, by rw [(W_hold h.1 b0).2]; omega⟩ (zLx.mono (mk := 2 * c) ?_ (by omega)) (fun md t hm hM => (M_hold hM b0).q)
  obtain ⟨t, h1, h2, h3⟩ := X_hold h.2.2.1 b0
  unfold F_L_hold
  rw [h1]
  have hS : ∀ x, (S_hold σ b0).1 = .inr x → x = 0 ∨ x = 1 := by
    intro x hx
    unfold S_hold at hx
    repeat' split at hx
    all_goals first | (cases hx; exact Or.inl rfl) | (cases hx; exact Or.inr rfl) | cases hx
  unfold zTh
  cases hs : (S_hold σ b0).1 with
  | inl v => exact ⟨t, rfl, h2, h3.n, trivial⟩
  | inr x =>
    rcases hS x hs with e | e <;> subst e
    · exact ⟨t, rfl, h2, h3.n, trivial⟩
    · exact ⟨t, rfl, h2, h3.n, trivial⟩
theorem G_bits {R L : Nat} {σ : zSg} {c : Nat} {s : zSt} (h : zLI R L σ c s) : ∃ t u, F_L_bits s = some ((if gRK σ = 4 then 0 else 1), t) ∧ F_R_bits t = some (zVl 0 (S_bits σ), u) ∧ gI u 13 = (if gRK σ = 4 then 0 else 1) ∧ zLI R L (S_bits σ).2 (c + 1) u ∧ (fun b => gRK σ = 4 → b = zVl 0 (S_bits σ)) (gB u 3 0) := by
  refine L_go (P := fun b => gRK σ = 4 → b = zVl 0 (S_bits σ)) (B := fun t => F_R_bits t) h ⟨(W_bits h.1).1, by rw [(W_bits h.1).2]; omega⟩ (zLx.mono (mk := 2 * c) ?_ (by omega)) (fun md t hm hM => (M_bits hM h.1).q)
  obtain ⟨t, h1, h2, h3⟩ := X_bits h.2.2.1
  unfold F_L_bits
  rw [h1]
  unfold S_bits zVl at *
  by_cases h4 : gRK σ = 4
  · rw [if_pos h4] at h2 ⊢
    rw [if_pos h4, zc_inl, if_pos (show zin (0 : Int32) 1 by decide)]
    refine ⟨_, rfl, h2.kd (zKD.out t _), h3.n.out _, fun _ => ?_⟩
    rw [gB_sB, if_pos rfl]
    rfl
  · rw [if_neg h4] at h2 ⊢
    rw [if_neg h4]
    exact ⟨t, rfl, h2, h3.n, fun z => absurd z h4⟩
theorem law_step {X : zkX} {R L : Nat} {σ : zSg} {c : Nat} {s : zSt} {x4 : Int32} (n : Nat) (h : zLI R L σ c s) (hc : c < 512) (hlt : ¬ ((Int32.ofNat X.1) - (8 : Int32)) < x4) (z0 : zin x4 X.1) (z1 : zin (x4 + (1 : Int32)) X.1) (z2 : zin (x4 + (2 : Int32)) X.1) (z3 : zin (x4 + (3 : Int32)) X.1) (z4 : zin (x4 + (4 : Int32)) X.1) (z5 : zin (x4 + (5 : Int32)) X.1) (z6 : zin (x4 + (6 : Int32)) X.1) (z7 : zin (x4 + (7 : Int32)) X.1) : ∃ u σ2, F_L_law_23 X (n + 1) x4 s = F_L_law_23 X n (x4 + 8) u ∧ zLI R L σ2 (c + 1) u := by
  rw [F_L_law_23, if_neg hlt, if_pos z0]
  by_cases o0 : ((X.2 (x4).toNatClampNeg) &&& (31 : Int32)) = (0 : Int32)
  · rw [if_pos o0]
    rw [if_pos z1, if_pos z2, if_pos z3]
    have key : ∀ b : Int32, (b = 0 ∨ b = 1) → (∀ A B : Option (Int32 × zSt), (if (X.2 ((x4 + (3 : Int32))).toNatClampNeg) = 0 then A else B) = if b = 0 then A else B) → ∃ u σ2, F_L_law_163 X (F_L_law_23 X n) x4 b (X.2 ((x4 + (2 : Int32))).toNatClampNeg) (X.2 ((x4 + (1 : Int32))).toNatClampNeg) s = F_L_law_23 X n (x4 + 8) u ∧ zLI R L σ2 (c + 1) u := by
      intro b hb hAB
      obtain ⟨t, u, e1, e2, e3, e4, e5⟩ := G_object h hc (X.2 ((x4 + (1 : Int32))).toNatClampNeg) (X.2 ((x4 + (2 : Int32))).toNatClampNeg) b hb
      unfold F_L_law_163
      rw [e1, zb_some, if_pos z1, if_pos z2, if_pos z3, hAB]
      have e195 : F_L_law_195 X (F_L_law_23 X n) x4 (zTh (S_object σ (X.2 ((x4 + (1 : Int32))).toNatClampNeg) (X.2 ((x4 + (2 : Int32))).toNatClampNeg) b)) b (X.2 ((x4 + (2 : Int32))).toNatClampNeg) (X.2 ((x4 + (1 : Int32))).toNatClampNeg) t = F_L_law_23 X n (x4 + 8) u := by
        unfold F_L_law_195
        rw [e2, zb_some]
        unfold F_R_thrown
        rw [zb_some, e3, if_pos rfl]
        rfl
      refine ⟨u, _, ?_, e4⟩
      rcases hb with e | e <;> subst e
      · rw [if_pos rfl]; exact e195
      · rw [if_neg z_one]; exact e195
    by_cases h3 : (X.2 ((x4 + (3 : Int32))).toNatClampNeg) = 0
    · rw [if_pos h3]
      exact key 0 (Or.inl rfl) (fun A B => by rw [if_pos h3, if_pos rfl])
    · rw [if_neg h3]
      exact key 1 (Or.inr rfl) (fun A B => by rw [if_neg h3, if_neg z_one])
  rw [if_neg o0]
  by_cases o1 : ((X.2 (x4).toNatClampNeg) &&& (31 : Int32)) = (1 : Int32)
  · rw [if_pos o1]
    obtain ⟨t, u, e1, e2, e3, e4, e5⟩ := G_copy h hc (X.2 ((x4 + (1 : Int32))).toNatClampNeg) (X.2 ((x4 + (2 : Int32))).toNatClampNeg)
    rw [if_pos z1, if_pos z2, e1, zb_some, if_pos z1, if_pos z2, e2, zb_some]
    unfold F_R_thrown
    rw [zb_some, e3, if_pos rfl]
    exact ⟨u, _, rfl, e4⟩
  rw [if_neg o1]
  by_cases o2 : ((X.2 (x4).toNatClampNeg) &&& (31 : Int32)) = (2 : Int32)
  · rw [if_pos o2]
    obtain ⟨t, u, e1, e2, e3, e4, e5⟩ := G_same h hc (X.2 ((x4 + (1 : Int32))).toNatClampNeg) (X.2 ((x4 + (2 : Int32))).toNatClampNeg)
    rw [if_pos z1, if_pos z2, e1, zb_some, if_pos z1, if_pos z2, e2, zb_some]
    unfold F_R_thrown
    rw [zb_some, e3, if_pos rfl]
    exact ⟨u, _, L_tb e5 _ _, e4⟩
  rw [if_neg o2]
  by_cases o3 : ((X.2 (x4).toNatClampNeg) &&& (31 : Int32)) = (3 : Int32)
  · rw [if_pos o3]
    obtain ⟨t, u, e1, e2, e3, e4, e5⟩ := G_operand h hc (X.2 ((x4 + (1 : Int32))).toNatClampNeg) ((((X.2 ((x4 + (2 : Int32))).toNatClampNeg)).toInt64 <<< (((32 : Int32)).toInt64 &&& 63)) ||| (((X.2 ((x4 + (3 : Int32))).toNatClampNeg)).toInt64 &&& (4294967295 : Int64)))
    rw [if_pos z1, if_pos z2, if_pos z3, e1, zb_some, if_pos z1, if_pos z2, if_pos z3, e2, zb_some]
    unfold F_R_thrown
    rw [zb_some, e3, if_pos rfl]
    exact ⟨u, _, rfl, e4⟩
  rw [if_neg o3]
  by_cases o4 : ((X.2 (x4).toNatClampNeg) &&& (31 : Int32)) = (4 : Int32)
  · rw [if_pos o4]
    obtain ⟨hW, hg, hX, md, hm, hM⟩ := h
    obtain ⟨u, k1, k2, k3, k4⟩ := M_kind hM
    unfold F_X_kind
    rw [zb_some, k1, zb_some]
    obtain ⟨lv, β, π, nb, FL, hx1, hx2, hx3⟩ := id hX
    rw [hx1.2.2.2.1, if_pos rfl]
    exact ⟨u, σ, rfl, hW, by omega, (hX.kd k4.d).mono (by omega) (by omega) (by omega), md, by omega, k3⟩
  rw [if_neg o4]
  by_cases o5 : ((X.2 (x4).toNatClampNeg) &&& (31 : Int32)) = (5 : Int32)
  · rw [if_pos o5]
    obtain ⟨t, u, e1, e2, e3, e4, e5⟩ := G_bits h
    rw [e1, zb_some, e2, zb_some]
    unfold F_R_thrown
    rw [zb_some, e3, if_pos rfl]
    refine ⟨u, _, ?_, e4⟩
    by_cases h4 : gRK σ = 4
    · have e6 : gB u 3 ((0 : Int32)).toNatClampNeg = zVl 0 (S_bits σ) := e5 h4
      rw [if_pos h4, if_pos rfl, if_pos (show zin (0 : Int32) 1 by decide), e6, if_pos ((lg_cmp_eq _ _).mpr rfl)]
      rfl
    · rw [if_neg h4, if_neg z_one]
      rfl
  rw [if_neg o5]
  by_cases o6 : ((X.2 (x4).toNatClampNeg) &&& (31 : Int32)) = (6 : Int32)
  · rw [if_pos o6]
    obtain ⟨t, u, e1, e2, e3, e4, e5⟩ := G_hold h (X.2 ((x4 + (1 : Int32))).toNatClampNeg)
    rw [if_pos z1, e1, zb_some, if_pos z1, e2, zb_some]
    unfold F_R_thrown
    rw [zb_some, e3, if_pos rfl]
    exact ⟨u, _, rfl, e4⟩
  rw [if_neg o6]
  by_cases o7 : ((X.2 (x4).toNatClampNeg) &&& (31 : Int32)) = (7 : Int32)
  · rw [if_pos o7]
    obtain ⟨t, u, e1, e2, e3, e4, e5⟩ := G_get h hc (X.2 ((x4 + (1 : Int32))).toNatClampNeg) ((((X.2 ((x4 + (2 : Int32))).toNatClampNeg)).toInt64 <<< (((32 : Int32)).toInt64 &&& 63)) ||| (((X.2 ((x4 + (3 : Int32))).toNatClampNeg)).toInt64 &&& (4294967295 : Int64)))
    rw [if_pos z1, if_pos z2, if_pos z3, e1, zb_some, if_pos z1, if_pos z2, if_pos z3, e2, zb_some]
    unfold F_R_thrown
    rw [zb_some, e3, if_pos rfl]
    exact ⟨u, _, L_tv (w := (fun v : Int32 => v.toInt64)) (d := 0) e5 _ _, e4⟩
  rw [if_neg o7]
  by_cases o8 : ((X.2 (x4).toNatClampNeg) &&& (31 : Int32)) = (8 : Int32)
  · rw [if_pos o8]
    obtain ⟨t, u, e1, e2, e3, e4, e5⟩ := G_put h hc (X.2 ((x4 + (1 : Int32))).toNatClampNeg) ((((X.2 ((x4 + (2 : Int32))).toNatClampNeg)).toInt64 <<< (((32 : Int32)).toInt64 &&& 63)) ||| (((X.2 ((x4 + (3 : Int32))).toNatClampNeg)).toInt64 &&& (4294967295 : Int64)))
    rw [if_pos z1, if_pos z2, if_pos z3, e1, zb_some, if_pos z1, if_pos z2, if_pos z3, e2, zb_some]
    unfold F_R_thrown
    rw [zb_some, e3, if_pos rfl]
    exact ⟨u, _, L_tv (w := (fun v : Int32 => v.toInt64)) (d := 0) e5 _ _, e4⟩
  rw [if_neg o8]
  by_cases o9 : ((X.2 (x4).toNatClampNeg) &&& (31 : Int32)) = (9 : Int32)
  · rw [if_pos o9]
    obtain ⟨t, u, e1, e2, e3, e4, e5⟩ := G_define h hc (X.2 ((x4 + (1 : Int32))).toNatClampNeg) ((((X.2 ((x4 + (2 : Int32))).toNatClampNeg)).toInt64 <<< (((32 : Int32)).toInt64 &&& 63)) ||| (((X.2 ((x4 + (3 : Int32))).toNatClampNeg)).toInt64 &&& (4294967295 : Int64))) (X.2 ((x4 + (4 : Int32))).toNatClampNeg) (X.2 ((x4 + (5 : Int32))).toNatClampNeg) (X.2 ((x4 + (6 : Int32))).toNatClampNeg) (X.2 ((x4 + (7 : Int32))).toNatClampNeg)
    rw [if_pos z1, if_pos z2, if_pos z3, if_pos z4, if_pos z5, if_pos z6, if_pos z7, e1, zb_some, if_pos z1, if_pos z2, if_pos z3, if_pos z4, if_pos z5, if_pos z6, if_pos z7, e2, zb_some]
    unfold F_R_thrown
    rw [zb_some, e3, if_pos rfl]
    exact ⟨u, _, L_tv (w := (fun v : Int32 => v.toInt64)) (d := 0) e5 _ _, e4⟩
  rw [if_neg o9]
  by_cases o10 : ((X.2 (x4).toNatClampNeg) &&& (31 : Int32)) = (10 : Int32)
  · rw [if_pos o10]
    obtain ⟨t, u, e1, e2, e3, e4, e5⟩ := G_own h hc (X.2 ((x4 + (1 : Int32))).toNatClampNeg) ((((X.2 ((x4 + (2 : Int32))).toNatClampNeg)).toInt64 <<< (((32 : Int32)).toInt64 &&& 63)) ||| (((X.2 ((x4 + (3 : Int32))).toNatClampNeg)).toInt64 &&& (4294967295 : Int64)))
    rw [if_pos z1, if_pos z2, if_pos z3, e1, zb_some, if_pos z1, if_pos z2, if_pos z3, e2, zb_some]
    unfold F_R_thrown
    rw [zb_some, e3, if_pos rfl]
    exact ⟨u, _, L_tv (w := (fun v : Int32 => v.toInt64)) (d := 0) e5 _ _, e4⟩
  rw [if_neg o10]
  by_cases o11 : ((X.2 (x4).toNatClampNeg) &&& (31 : Int32)) = (11 : Int32)
  · rw [if_pos o11]
    obtain ⟨t, u, e1, e2, e3, e4, e5⟩ := G_setter h hc (X.2 ((x4 + (1 : Int32))).toNatClampNeg) ((((X.2 ((x4 + (2 : Int32))).toNatClampNeg)).toInt64 <<< (((32 : Int32)).toInt64 &&& 63)) ||| (((X.2 ((x4 + (3 : Int32))).toNatClampNeg)).toInt64 &&& (4294967295 : Int64))) (X.2 ((x4 + (4 : Int32))).toNatClampNeg)
    rw [if_pos z1, if_pos z2, if_pos z3, if_pos z4, e1, zb_some, if_pos z1, if_pos z2, if_pos z3, if_pos z4, e2, zb_some]
    unfold F_R_thrown
    rw [zb_some, e3, if_pos rfl]
    exact ⟨u, _, L_tb e5 _ _, e4⟩
  rw [if_neg o11]
  by_cases o12 : ((X.2 (x4).toNatClampNeg) &&& (31 : Int32)) = (12 : Int32)
  · rw [if_pos o12]
    obtain ⟨t, u, e1, e2, e3, e4, e5⟩ := G_has h hc (X.2 ((x4 + (1 : Int32))).toNatClampNeg) ((((X.2 ((x4 + (2 : Int32))).toNatClampNeg)).toInt64 <<< (((32 : Int32)).toInt64 &&& 63)) ||| (((X.2 ((x4 + (3 : Int32))).toNatClampNeg)).toInt64 &&& (4294967295 : Int64)))
    rw [if_pos z1, if_pos z2, if_pos z3, e1, zb_some, if_pos z1, if_pos z2, if_pos z3, e2, zb_some]
    unfold F_R_thrown
    rw [zb_some, e3, if_pos rfl]
    exact ⟨u, _, L_tb e5 _ _, e4⟩
  rw [if_neg o12]
  by_cases o13 : ((X.2 (x4).toNatClampNeg) &&& (31 : Int32)) = (13 : Int32)
  · rw [if_pos o13]
    obtain ⟨t, u, e1, e2, e3, e4, e5⟩ := G_delete h hc (X.2 ((x4 + (1 : Int32))).toNatClampNeg) ((((X.2 ((x4 + (2 : Int32))).toNatClampNeg)).toInt64 <<< (((32 : Int32)).toInt64 &&& 63)) ||| (((X.2 ((x4 + (3 : Int32))).toNatClampNeg)).toInt64 &&& (4294967295 : Int64)))
    rw [if_pos z1, if_pos z2, if_pos z3, e1, zb_some, if_pos z1, if_pos z2, if_pos z3, e2, zb_some]
    unfold F_R_thrown
    rw [zb_some, e3, if_pos rfl]
    exact ⟨u, _, L_tb e5 _ _, e4⟩
  rw [if_neg o13]
  by_cases o14 : ((X.2 (x4).toNatClampNeg) &&& (31 : Int32)) = (14 : Int32)
  · rw [if_pos o14]
    obtain ⟨t, u, e1, e2, e3, e4, e5⟩ := G_keys h hc (X.2 ((x4 + (1 : Int32))).toNatClampNeg)
    rw [if_pos z1, e1, zb_some, if_pos z1, e2, zb_some]
    unfold F_R_thrown
    rw [zb_some, e3, if_pos rfl]
    exact ⟨u, _, L_tv (w := (fun v : Int32 => v.toInt64)) (d := 0) e5 _ _, e4⟩
  rw [if_neg o14]
  by_cases o15 : ((X.2 (x4).toNatClampNeg) &&& (31 : Int32)) = (15 : Int32)
  · rw [if_pos o15]
    obtain ⟨t, u, e1, e2, e3, e4, e5⟩ := G_key h hc (X.2 ((x4 + (1 : Int32))).toNatClampNeg) (X.2 ((x4 + (2 : Int32))).toNatClampNeg)
    rw [if_pos z1, if_pos z2, e1, zb_some, if_pos z1, if_pos z2, e2, zb_some]
    unfold F_R_thrown
    rw [zb_some, e3, if_pos rfl]
    exact ⟨u, _, L_tv (w := (fun v : Int64 => v)) (d := 0) e5 _ _, e4⟩
  rw [if_neg o15]
  by_cases o16 : ((X.2 (x4).toNatClampNeg) &&& (31 : Int32)) = (16 : Int32)
  · rw [if_pos o16]
    obtain ⟨t, u, e1, e2, e3, e4, e5⟩ := G_lock h hc (X.2 ((x4 + (1 : Int32))).toNatClampNeg) (X.2 ((x4 + (2 : Int32))).toNatClampNeg)
    rw [if_pos z1, if_pos z2, e1, zb_some, if_pos z1, if_pos z2, e2, zb_some]
    unfold F_R_thrown
    rw [zb_some, e3, if_pos rfl]
    exact ⟨u, _, rfl, e4⟩
  rw [if_neg o16]
  by_cases o17 : ((X.2 (x4).toNatClampNeg) &&& (31 : Int32)) = (17 : Int32)
  · rw [if_pos o17]
    obtain ⟨t, u, e1, e2, e3, e4, e5⟩ := G_locked h hc (X.2 ((x4 + (1 : Int32))).toNatClampNeg) (X.2 ((x4 + (2 : Int32))).toNatClampNeg)
    rw [if_pos z1, if_pos z2, e1, zb_some, if_pos z1, if_pos z2, e2, zb_some]
    unfold F_R_thrown
    rw [zb_some, e3, if_pos rfl]
    exact ⟨u, _, L_tb e5 _ _, e4⟩
  rw [if_neg o17]
  by_cases o18 : ((X.2 (x4).toNatClampNeg) &&& (31 : Int32)) = (18 : Int32)
  · rw [if_pos o18]
    obtain ⟨t, u, e1, e2, e3, e4, e5⟩ := G_prototype h hc (X.2 ((x4 + (1 : Int32))).toNatClampNeg) (X.2 ((x4 + (2 : Int32))).toNatClampNeg)
    rw [if_pos z1, if_pos z2, e1, zb_some, if_pos z1, if_pos z2, e2, zb_some]
    unfold F_R_thrown
    rw [zb_some, e3, if_pos rfl]
    exact ⟨u, _, rfl, e4⟩
  rw [if_neg o18]
  by_cases o19 : ((X.2 (x4).toNatClampNeg) &&& (31 : Int32)) = (19 : Int32)
  · rw [if_pos o19]
    obtain ⟨t, u, e1, e2, e3, e4, e5⟩ := G_stress h hc (X.2 ((x4 + (1 : Int32))).toNatClampNeg)
    rw [if_pos z1, e1, zb_some, if_pos z1, e2, zb_some]
    unfold F_R_thrown
    rw [zb_some, e3, if_pos rfl]
    exact ⟨u, _, rfl, e4⟩
  rw [if_neg o19]
  obtain ⟨hW, hg, hX, md, hm, hM⟩ := h
  exact ⟨s, σ, rfl, hW, by omega, hX.mono (by omega) (by omega) (by omega), md, by omega, hM⟩

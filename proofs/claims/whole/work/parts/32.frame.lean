/-! what the memory's own work leaves as it was -/
def zSame (s t : zSt) : Prop := (∀ k, (k < 2 ∨ 7 ≤ k) → gI t k = gI s k) ∧ (∀ k, gJ t k = gJ s k) ∧ (∀ k, gA t k = gA s k) ∧ ∀ k, gB t (k + 1) = gB s (k + 1)
theorem zSame.rf (s : zSt) : zSame s s := ⟨fun _ _ => rfl, fun _ => rfl, fun _ => rfl, fun _ => rfl⟩
theorem zSame.tr {a b c : zSt} (h1 : zSame a b) (h2 : zSame b c) : zSame a c := ⟨fun k hk => (h2.1 k hk).trans (h1.1 k hk), fun k => (h2.2.1 k).trans (h1.2.1 k), fun k => (h2.2.2.1 k).trans (h1.2.2.1 k), fun k => (h2.2.2.2 k).trans (h1.2.2.2 k)⟩
theorem zSame.sW (s : zSt) (b f : Nat) (v : Int64) : zSame s (sW s b f v) := ⟨fun k _ => sW_I s b f v k, sW_J s b f v, sW_A s b f v, sW_B s b f v⟩
theorem zSame.sI (s : zSt) {k : Nat} (hk : 2 ≤ k ∧ k < 7) (v : Int32) : zSame s (sI s k v) := ⟨fun j hj => by rw [gI_sI, if_neg (by omega)], fun _ => rfl, fun _ => rfl, fun _ => rfl⟩
/-- room: slots made, cells -/
def zeC (e : zEx) : Nat := e.1
def zeL (e : zEx) : Nat := match e with
  | (_, .inl E) => E.length
  | (_, .inr (_, E1, E2)) => E1.length + 1 + E2.length
theorem zeC_push (e : zEx) : zeC (zpE e) = zeC e + 6 := by rcases e with ⟨c, E | ⟨g, E1, E2⟩⟩ <;> rfl
theorem zeL_push (e : zEx) : zeL (zpE e) = zeL e + 1 := by
  rcases e with ⟨c, E | ⟨g, E1, E2⟩⟩
  · simp [zeL, zpE]
  · simp [zeL, zpE]; omega
theorem zeC_wide (e : zEx) (n : Nat) (o : zkE) : zeC (zwE e n o) = zeC e + n := by rcases e with ⟨c, E | ⟨g, E1, E2⟩⟩ <;> rfl
theorem zeL_wide (e : zEx) (n : Nat) (o : zkE) : zeL (zwE e n o) = zeL e + 1 := by
  rcases e with ⟨c, E | ⟨g, E1, E2⟩⟩
  · simp [zeL, zwE]
  · simp [zeL, zwE]; omega
theorem zHp_room (s : zSt) : (zHp s).1 = zeC (gE s) ∧ (zHp s).2.length = 21 + zeL (gE s) := zH_cases (fun s e => (zHx e s).1 = zeC e ∧ (zHx e s).2.length = 21 + zeL e) (fun s c E => ⟨rfl, by
    show (zmo s ++ E).length + 7 = _
    rw [List.length_append]
    show 14 + E.length + 7 = 21 + E.length
    omega⟩) (fun s c g E1 E2 => ⟨rfl, by
    show (zmo s ++ (E1 ++ some (zcB (gN s) (gB s 0)) :: E2)).length + 7 = _
    rw [List.length_append, List.length_append, List.length_cons]
    show 14 + (E1.length + (E2.length + 1)) + 7 = 21 + (E1.length + 1 + E2.length)
    omega⟩) s
/-- lists without repetition -/
theorem zl_le {l m : List Nat} (hn : l.Nodup) (h : ∀ x ∈ l, x ∈ m) : l.length ≤ m.length := by
  induction l generalizing m with
  | nil => exact Nat.zero_le _
  | cons a r ih =>
    rw [List.nodup_cons] at hn
    have ha := h a List.mem_cons_self
    have h1 := ih (m := m.erase a) hn.2 (fun x hx => (List.mem_erase_of_ne (show x ≠ a from fun e => hn.1 (by rw [← e]; exact hx))).mpr (h x (List.mem_cons_of_mem _ hx)))
    rw [List.length_erase_of_mem ha] at h1
    have : 0 < m.length := List.length_pos_of_mem ha
    rw [List.length_cons]
    omega
theorem zl_bound {l : List Nat} {nb : Nat} (hn : l.Nodup) (h : ∀ x ∈ l, 1 ≤ x ∧ x ≤ nb) : l.length ≤ nb := by
  have := zl_le (m := List.range' 1 nb) hn (fun x hx => by rw [List.mem_range'_1]; have := h x hx; omega)
  rwa [List.length_range'] at this

/-! what a method computes, as a function of its arguments and the state -/
def zb {α β : Type} (m : Option (α × zSt)) (k : α → zSt → Option β) : Option β := match m with
  | some q => k q.1 q.2
  | none => none
def zt {α β : Type} (m : Option ((α ⊕ Nat) × zSt)) (k : α → zSt → Option ((β ⊕ Nat) × zSt)) : Option ((β ⊕ Nat) × zSt) := match m with
  | some (.inl v, s) => k v s
  | some (.inr x, s) => some (.inr x, s)
  | none => none
def zc {α β : Type} (m : Option ((α ⊕ Nat) × zSt)) (k : α → zSt → Option β) (hh : Nat → zSt → Option β) : Option β := match m with
  | some (.inl v, s) => k v s
  | some (.inr x, s) => hh x s
  | none => none
theorem zf_b {α β : Type} {m : Option (α × zSt)} {k : α → zSt → Option β} {r : β} (h : zb m k = some r) : ∃ v s, m = some (v, s) ∧ k v s = some r := by
  unfold zb at h
  split at h
  · rename_i q
    exact ⟨q.1, q.2, rfl, h⟩
  · cases h
theorem zf_t {α β : Type} {m : Option ((α ⊕ Nat) × zSt)} {k : α → zSt → Option ((β ⊕ Nat) × zSt)} {r : (β ⊕ Nat) × zSt} (h : zt m k = some r) : (∃ v s, m = some (.inl v, s) ∧ k v s = some r) ∨ ∃ x s, m = some (.inr x, s) ∧ r = (.inr x, s) := by
  unfold zt at h
  split at h
  · exact Or.inl ⟨_, _, rfl, h⟩
  · exact Or.inr ⟨_, _, rfl, (Option.some.inj h).symm⟩
  · cases h
theorem zf_c {α β : Type} {m : Option ((α ⊕ Nat) × zSt)} {k : α → zSt → Option β} {hh : Nat → zSt → Option β} {r : β} (h : zc m k hh = some r) : (∃ v s, m = some (.inl v, s) ∧ k v s = some r) ∨ ∃ x s, m = some (.inr x, s) ∧ hh x s = some r := by
  unfold zc at h
  split at h
  · exact Or.inl ⟨_, _, rfl, h⟩
  · exact Or.inr ⟨_, _, rfl, h⟩
  · cases h
theorem zf_p {α : Type} {c : Prop} [Decidable c] {a b r : α} (h : c) (e : (if c then a else b) = r) : a = r := by rw [if_pos h] at e; exact e
theorem zf_n {α : Type} {c : Prop} [Decidable c] {a b r : α} (h : ¬ c) (e : (if c then a else b) = r) : b = r := by rw [if_neg h] at e; exact e
theorem zf_g {α : Type} {c : Prop} [Decidable c] {a : Option α} {r : α} (e : (if c then a else none) = some r) : c ∧ a = some r := by
  by_cases h : c
  · rw [if_pos h] at e; exact ⟨h, e⟩
  · rw [if_neg h] at e; cases e
/-- an index in a row of n -/
abbrev zin (i : Int32) (n : Nat) : Prop := 0 ≤ i ∧ i.toNatClampNeg < n
theorem zin_ok {i : Int32} {n : Nat} (h : zin i n) : vp_in i n := fun q => by
  rcases q with q | q
  · exact absurd q (Int32.not_lt.mpr h.1)
  · have := h.2; omega
def zoI (r : Int32 × zSt) : zkO := (.inl (some (.int r.1)), zHp r.2)
def zoL (r : Int64 × zSt) : zkO := (.inl (some (.long r.1)), zHp r.2)
def zoU (r : Unit × zSt) : zkO := (.inl none, zHp r.2)
def ztI (r : (Int32 ⊕ Nat) × zSt) : zkO := match r.1 with
  | .inl v => (.inl (some (.int v)), zHp r.2)
  | .inr x => (.inr x, zHp r.2)
def ztL (r : (Int64 ⊕ Nat) × zSt) : zkO := match r.1 with
  | .inl v => (.inl (some (.long v)), zHp r.2)
  | .inr x => (.inr x, zHp r.2)
def ztU (r : (Unit ⊕ Nat) × zSt) : zkO := match r.1 with
  | .inl _ => (.inl none, zHp r.2)
  | .inr x => (.inr x, zHp r.2)
def zFuel : Nat := 100000
section ZT
variable {X : zkX} {d M pc nx tg : Nat} {lv : zkL} {st : List Value} {h : zkH} {Q : zkO → Prop}
theorem zi_tsw {dd lo hi : Int} {offs : Array Int} {x : Int32} {t : Nat} (hi9 : zk_ins M pc = some (.tableswitch dd lo hi offs, nx, tg)) (ht : zk_loc3 (.tableswitch dd lo hi offs) pc nx tg (.int x :: st) = some (t, st)) (kk : zk_W X d M (t, lv, st, h) Q) : zk_W X d M (pc, lv, .int x :: st, h) Q := zk_w_loc hi9 rfl (by simp only [zk_loc, zk_loc1, zk_loc2, ht]) kk
theorem zi_zreturnc {x : Int32} (hi : zk_ins M pc = some (.ireturn, nx, tg)) (hr : zk_rt M = some .boolean) (hx : vp_nar .boolean x = x) (kk : Q (.inl (some (.int x)), h)) : zk_W X d M (pc, lv, [.int x], h) Q := zi_zreturn hi hr hx kk
end ZT
theorem zwx_ne (e : zEx) : Nat.beq (zwx e) 0 = false := by
  rcases e with ⟨c, E | ⟨g, E1, E2⟩⟩
  · rfl
  · show Nat.beq (21 + E1.length) 0 = false
    cases hb : Nat.beq (21 + E1.length) 0 with
    | false => rfl
    | true => have := Nat.eq_of_beq_eq_true hb; omega
theorem zr_W (X : zkX) (s : zSt) : zk_arr X (zHp s) (zwp s) = some (zcB (gN s) (gB s 0)) := by
  unfold zk_arr
  rw [show Nat.beq (zwp s) 0 = false from zwx_ne _]
  exact zh_W s

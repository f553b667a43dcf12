/-! the pure part: what the functions of the methods give -/
theorem zb_some {α β : Type} (v : α) (s : zSt) (k : α → zSt → Option β) : zb (some (v, s)) k = k v s := rfl
theorem zt_inl {α β : Type} (v : α) (s : zSt) (k : α → zSt → Option ((β ⊕ Nat) × zSt)) : zt (some (.inl v, s)) k = k v s := rfl
theorem zt_inr {α β : Type} (x : Nat) (s : zSt) (k : α → zSt → Option ((β ⊕ Nat) × zSt)) : zt (some (.inr x, s)) k = some (.inr x, s) := rfl
theorem zc_inl {α β : Type} (v : α) (s : zSt) (k : α → zSt → Option β) (hh : Nat → zSt → Option β) : zc (some (.inl v, s)) k hh = k v s := rfl
theorem zc_inr {α β : Type} (x : Nat) (s : zSt) (k : α → zSt → Option β) (hh : Nat → zSt → Option β) : zc (some (.inr x, s)) k hh = hh x s := rfl
theorem gI_sI (s : zSt) (k j : Nat) (v : Int32) : gI (sI s k v) j = if j = k then v else gI s j := by
  unfold gI sI
  by_cases h : j = k
  · rw [if_pos h, h]; simp
  · rw [if_neg h]
    show (bif Nat.beq j k then v else s.1 j) = s.1 j
    rw [show Nat.beq j k = false from by
      cases hb : Nat.beq j k with
      | false => rfl
      | true => exact absurd (Nat.eq_of_beq_eq_true hb) h]
    rfl
theorem gJ_sJ (s : zSt) (k j : Nat) (v : Int64) : gJ (sJ s k v) j = if j = k then v else gJ s j := by
  unfold gJ sJ
  by_cases h : j = k
  · rw [if_pos h, h]; simp
  · rw [if_neg h]
    show (bif Nat.beq j k then v else s.2.1 j) = s.2.1 j
    rw [show Nat.beq j k = false from by
      cases hb : Nat.beq j k with
      | false => rfl
      | true => exact absurd (Nat.eq_of_beq_eq_true hb) h]
    rfl
theorem gA_sA (s : zSt) (k j : Nat) (f : Nat → Int32) : gA (sA s k f) j = if j = k then f else gA s j := by
  unfold gA sA
  by_cases h : j = k
  · rw [if_pos h, h]; simp
  · rw [if_neg h]
    show (bif Nat.beq j k then f else s.2.2.1 j) = s.2.2.1 j
    rw [show Nat.beq j k = false from by
      cases hb : Nat.beq j k with
      | false => rfl
      | true => exact absurd (Nat.eq_of_beq_eq_true hb) h]
    rfl
theorem gB_sB (s : zSt) (k j : Nat) (f : Nat → Int64) : gB (sB s k f) j = if j = k then f else gB s j := by
  unfold gB sB
  by_cases h : j = k
  · rw [if_pos h, h]; simp
  · rw [if_neg h]
    show (bif Nat.beq j k then f else s.2.2.2.1 j) = s.2.2.2.1 j
    rw [show Nat.beq j k = false from by
      cases hb : Nat.beq j k with
      | false => rfl
      | true => exact absurd (Nat.eq_of_beq_eq_true hb) h]
    rfl
theorem gI_sJ (s : zSt) (k j : Nat) (v : Int64) : gI (sJ s k v) j = gI s j := rfl
theorem gI_sA (s : zSt) (k j : Nat) (f : Nat → Int32) : gI (sA s k f) j = gI s j := rfl
theorem gI_sB (s : zSt) (k j : Nat) (f : Nat → Int64) : gI (sB s k f) j = gI s j := rfl
theorem gI_sN (s : zSt) (n j : Nat) : gI (sN s n) j = gI s j := rfl
theorem gI_sE (s : zSt) (e : zEx) (j : Nat) : gI (sE s e) j = gI s j := rfl
theorem gJ_sI (s : zSt) (k j : Nat) (v : Int32) : gJ (sI s k v) j = gJ s j := rfl
theorem gJ_sA (s : zSt) (k j : Nat) (f : Nat → Int32) : gJ (sA s k f) j = gJ s j := rfl
theorem gJ_sB (s : zSt) (k j : Nat) (f : Nat → Int64) : gJ (sB s k f) j = gJ s j := rfl
theorem gJ_sN (s : zSt) (n j : Nat) : gJ (sN s n) j = gJ s j := rfl
theorem gJ_sE (s : zSt) (e : zEx) (j : Nat) : gJ (sE s e) j = gJ s j := rfl
theorem gA_sI (s : zSt) (k j : Nat) (v : Int32) : gA (sI s k v) j = gA s j := rfl
theorem gA_sJ (s : zSt) (k j : Nat) (v : Int64) : gA (sJ s k v) j = gA s j := rfl
theorem gA_sB (s : zSt) (k j : Nat) (f : Nat → Int64) : gA (sB s k f) j = gA s j := rfl
theorem gA_sN (s : zSt) (n j : Nat) : gA (sN s n) j = gA s j := rfl
theorem gA_sE (s : zSt) (e : zEx) (j : Nat) : gA (sE s e) j = gA s j := rfl
theorem gB_sI (s : zSt) (k j : Nat) (v : Int32) : gB (sI s k v) j = gB s j := rfl
theorem gB_sJ (s : zSt) (k j : Nat) (v : Int64) : gB (sJ s k v) j = gB s j := rfl
theorem gB_sA (s : zSt) (k j : Nat) (f : Nat → Int32) : gB (sA s k f) j = gB s j := rfl
theorem gB_sN (s : zSt) (n j : Nat) : gB (sN s n) j = gB s j := rfl
theorem gB_sE (s : zSt) (e : zEx) (j : Nat) : gB (sE s e) j = gB s j := rfl
theorem gN_sI (s : zSt) (k : Nat) (v : Int32) : gN (sI s k v) = gN s := rfl
theorem gN_sJ (s : zSt) (k : Nat) (v : Int64) : gN (sJ s k v) = gN s := rfl
theorem gN_sA (s : zSt) (k : Nat) (f : Nat → Int32) : gN (sA s k f) = gN s := rfl
theorem gN_sB (s : zSt) (k : Nat) (f : Nat → Int64) : gN (sB s k f) = gN s := rfl
theorem gN_sN (s : zSt) (n : Nat) : gN (sN s n) = n := rfl
theorem gN_sE (s : zSt) (e : zEx) : gN (sE s e) = gN s := rfl
theorem gE_sI (s : zSt) (k : Nat) (v : Int32) : gE (sI s k v) = gE s := rfl
theorem gE_sJ (s : zSt) (k : Nat) (v : Int64) : gE (sJ s k v) = gE s := rfl
theorem gE_sA (s : zSt) (k : Nat) (f : Nat → Int32) : gE (sA s k f) = gE s := rfl
theorem gE_sB (s : zSt) (k : Nat) (f : Nat → Int64) : gE (sB s k f) = gE s := rfl
theorem gE_sN (s : zSt) (n : Nat) : gE (sN s n) = gE s := rfl
theorem gE_sE (s : zSt) (e : zEx) : gE (sE s e) = e := rfl
theorem gI_zpush (s : zSt) (j : Nat) : gI (zpush s) j = gI s j := rfl
theorem gJ_zpush (s : zSt) (j : Nat) : gJ (zpush s) j = gJ s j := rfl
theorem gA_zpush (s : zSt) (j : Nat) : gA (zpush s) j = gA s j := rfl
theorem gB_zpush (s : zSt) (j : Nat) : gB (zpush s) j = gB s j := rfl
theorem gN_zpush (s : zSt) : gN (zpush s) = gN s := rfl
theorem gE_zpush (s : zSt) : gE (zpush s) = zpE (gE s) := rfl
/-! numbers -/
abbrev nL (n : Nat) : Int64 := Int64.ofNat n
theorem qI_inj {a b : Nat} (ha : a < 2 ^ 31) (hb : b < 2 ^ 31) (h : nI a = nI b) : a = b := by
  have := congrArg Int32.toNatClampNeg h
  rwa [nI_clamp ha, nI_clamp hb] at this
theorem qI_eq {a b : Nat} (ha : a < 2 ^ 31) (hb : b < 2 ^ 31) : nI a = nI b ↔ a = b := ⟨qI_inj ha hb, fun h => by rw [h]⟩
theorem qI_lt {a b : Nat} (ha : a < 2 ^ 31) (hb : b < 2 ^ 31) : nI a < nI b ↔ a < b := Int32.ofNat_lt_ofNat ha hb
theorem qI_le {a b : Nat} (ha : a < 2 ^ 31) (hb : b < 2 ^ 31) : nI a ≤ nI b ↔ a ≤ b := Int32.ofNat_le_ofNat ha hb
theorem qI_zero : nI 0 = 0 := rfl
theorem qI_eq0 {a : Nat} (ha : a < 2 ^ 31) : nI a = 0 ↔ a = 0 := qI_eq (b := 0) ha (by decide)
theorem qI_nonneg {a : Nat} (ha : a < 2 ^ 31) : (0 : Int32) ≤ nI a := (qI_le (a := 0) (by decide) ha).mpr (Nat.zero_le a)
theorem qI_notneg {a : Nat} (ha : a < 2 ^ 31) : ¬ nI a < 0 := Int32.not_lt.mpr (qI_nonneg ha)
theorem qI_add (a b : Nat) : nI a + nI b = nI (a + b) := (Int32.ofNat_add a b).symm
theorem qI_mul (a b : Nat) : nI a * nI b = nI (a * b) := (Int32.ofNat_mul a b).symm
theorem qI_sub {a b : Nat} (h : b ≤ a) : nI a - nI b = nI (a - b) := (Int32.ofNat_sub a b h).symm
theorem qI_toInt {a : Nat} (ha : a < 2 ^ 31) : (nI a).toInt = a := Int32.toInt_ofNat_of_lt ha
theorem qL_toInt {a : Nat} (ha : a < 2 ^ 63) : (nL a).toInt = a := Int64.toInt_ofNat_of_lt ha
theorem qI_long {a : Nat} (ha : a < 2 ^ 31) : (nI a).toInt64 = nL a := by
  apply Int64.toInt_inj.mp
  rw [Int32.toInt_toInt64, qI_toInt ha, qL_toInt (by omega)]
theorem qL_int (a : Nat) : (nL a).toInt32 = nI a := by
  show (Int64.ofNat a).toInt32 = Int32.ofNat a
  simp
theorem qL_eq {a b : Nat} (ha : a < 2 ^ 63) (hb : b < 2 ^ 63) : nL a = nL b ↔ a = b := ⟨fun h => by
  have := congrArg Int64.toInt h
  rw [qL_toInt ha, qL_toInt hb] at this
  omega, fun h => by rw [h]⟩
theorem zin_nI {a n : Nat} (ha : a < 2 ^ 31) : zin (nI a) n ↔ a < n := by
  unfold zin
  rw [nI_clamp ha]
  exact ⟨fun h => h.2, fun h => ⟨qI_nonneg ha, h⟩⟩
theorem zin_nI' {a n : Nat} (ha : a < n) (hn : n ≤ 2 ^ 31) : zin (nI a) n := (zin_nI (by omega)).mpr ha

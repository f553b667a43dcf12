/-! numbers: the model's and the store's -/
def uN (b : Int64) : Nat := b.toBitVec.toNat
theorem uN_lt (b : Int64) : uN b < 2 ^ 64 := b.toBitVec.isLt
theorem uN_inj {a b : Int64} (h : uN a = uN b) : a = b := Int64.toBitVec_inj.mp (BitVec.eq_of_toNat_eq h)
theorem uN_nL {m : Nat} (h : m < 2 ^ 64) : uN (nL m) = m := by
  show (BitVec.ofNat 64 m).toNat = m
  rw [BitVec.toNat_ofNat, Nat.mod_eq_of_lt h]
theorem nL_uN (b : Int64) : nL (uN b) = b := uN_inj (uN_nL (uN_lt b))
theorem uN_and (a b : Int64) : uN (a &&& b) = uN a &&& uN b := by
  unfold uN; rw [Int64.toBitVec_and, BitVec.toNat_and]
theorem uN_or (a b : Int64) : uN (a ||| b) = uN a ||| uN b := by
  unfold uN; rw [Int64.toBitVec_or, BitVec.toNat_or]
theorem uN_smod {k : Nat} (hk : k < 64) : (nL k).toBitVec.smod 64 = BitVec.ofNat 64 k := by
  have : ∀ k : Fin 64, (BitVec.ofNat 64 k.1).smod 64 = BitVec.ofNat 64 k.1 := by decide
  exact this ⟨k, hk⟩
theorem uN_shl (b : Int64) {k : Nat} (hk : k < 64) : uN (b <<< nL k) = (uN b * 2 ^ k) % 2 ^ 64 := by
  unfold uN
  rw [Int64.toBitVec_shiftLeft, uN_smod hk]
  show (b.toBitVec <<< (BitVec.ofNat 64 k).toNat).toNat = _
  rw [BitVec.toNat_ofNat, Nat.mod_eq_of_lt (by omega), BitVec.toNat_shiftLeft, Nat.shiftLeft_eq]
theorem uN_shr (b : Int64) {k : Nat} (hk : k < 64) : uN (b >>> nL k) = if uN b < 2 ^ 63 then uN b / 2 ^ k else 2 ^ 64 - 1 - (2 ^ 64 - 1 - uN b) / 2 ^ k := by
  unfold uN
  rw [Int64.toBitVec_shiftRight, uN_smod hk]
  show (b.toBitVec.sshiftRight (BitVec.ofNat 64 k).toNat).toNat = _
  rw [BitVec.toNat_ofNat, Nat.mod_eq_of_lt (by omega), BitVec.toNat_sshiftRight, Nat.shiftRight_eq_div_pow, Nat.shiftRight_eq_div_pow, BitVec.msb_eq_decide]
  by_cases h : b.toBitVec.toNat < 2 ^ 63
  · rw [if_pos h, if_neg (by simp; omega)]
  · rw [if_neg h, if_pos (by simp; omega)]
theorem uN_ushr (b : Int64) {k : Nat} (hk : k < 64) : uN ((b.toUInt64 >>> (nL k).toUInt64).toInt64) = uN b / 2 ^ k := by
  show (b.toUInt64 >>> (nL k).toUInt64).toBitVec.toNat = _
  show (b.toUInt64 >>> (nL k).toUInt64).toNat = _
  rw [UInt64.toNat_shiftRight, Nat.shiftRight_eq_div_pow]
  have : (nL k).toUInt64.toNat = k := uN_nL (m := k) (by omega)
  rw [this, Nat.mod_eq_of_lt hk]
  rfl
theorem nL_63 {k : Nat} (hk : k < 64) : nL k &&& 63 = nL k := by
  apply uN_inj
  rw [uN_and, uN_nL (by omega)]
  show k &&& (2 ^ 6 - 1) = k
  rw [Nat.and_two_pow_sub_one_eq_mod, Nat.mod_eq_of_lt hk]
theorem nL_63u {k : Nat} (hk : k < 64) : (nL k).toUInt64 &&& Int64.toUInt64 63 = (nL k).toUInt64 := by
  have := nL_63 hk
  have h2 : (nL k &&& 63).toUInt64 = (nL k).toUInt64 := by rw [this]
  exact h2
theorem nL_lt0 (b : Int64) : b < 0 ↔ 2 ^ 63 ≤ uN b := by
  rw [Int64.lt_iff_toInt_lt]
  have : b.toInt = b.toBitVec.toInt := rfl
  rw [this, BitVec.toInt_eq_toNat_cond]
  have := uN_lt b
  unfold uN at *
  have e0 : (0 : Int64).toInt = 0 := rfl
  rw [e0]
  split <;> omega
theorem and_top (n : Nat) : n &&& 9218868437227405312 = ((n / 2 ^ 52) % 2048) * 2 ^ 52 := by
  have e : (9218868437227405312 : Nat) = (2 ^ 11 - 1) <<< 52 := by decide
  rw [e, show (2048 : Nat) = 2 ^ 11 from rfl, ← Nat.and_two_pow_sub_one_eq_mod, ← Nat.shiftLeft_eq, ← Nat.shiftRight_eq_div_pow]
  apply Nat.eq_of_testBit_eq
  intro i
  rw [Nat.testBit_and, Nat.testBit_shiftLeft, Nat.testBit_shiftLeft, Nat.testBit_and, Nat.testBit_shiftRight]
  by_cases h : 52 ≤ i
  · simp only [h, decide_true, Bool.true_and, Nat.add_sub_cancel' h]
  · simp [h]
theorem and_low (n : Nat) : n &&& 4503599627370495 = n % 2 ^ 52 := Nat.and_two_pow_sub_one_eq_mod n 52
theorem or_52 {m : Nat} (h : m < 2 ^ 52) : m ||| 4503599627370496 = m + 2 ^ 52 := by
  have := Nat.two_pow_add_eq_or_of_lt h 1
  rw [Nat.mul_one] at this
  rw [Nat.or_comm, Nat.add_comm, this]
theorem w_nan (b : Int64) : (((b >>> 52) &&& 2047 = (2047 : Int64)) ∧ ¬ (b <<< 12 = 0)) ↔ (b &&& 9218868437227405312 = 9218868437227405312 ∧ b &&& 4503599627370495 ≠ 0) := by
  have hb := uN_lt b
  have e1 : ((b >>> 52) &&& 2047 = (2047 : Int64)) ↔ (uN b / 2 ^ 52) % 2048 = 2047 := by
    have k1 : uN ((b >>> 52) &&& 2047) = (uN b / 2 ^ 52) % 2048 := by
      have := uN_shr b (k := 52) (by decide)
      rw [uN_and, show (52 : Int64) = nL 52 from rfl, this]
      show _ &&& (2 ^ 11 - 1) = _
      rw [Nat.and_two_pow_sub_one_eq_mod]
      split <;> omega
    constructor
    · intro h; rw [← k1, h]; rfl
    · intro h; apply uN_inj; rw [k1, h]; rfl
  have e2 : b <<< 12 = 0 ↔ uN b % 2 ^ 52 = 0 := by
    have k1 : uN (b <<< 12) = (uN b * 2 ^ 12) % 2 ^ 64 := uN_shl b (k := 12) (by decide)
    constructor
    · intro h; rw [h] at k1; have : uN 0 = 0 := rfl; omega
    · intro h; apply uN_inj; rw [k1]; show _ = 0; omega
  have e3 : b &&& 9218868437227405312 = 9218868437227405312 ↔ (uN b / 2 ^ 52) % 2048 = 2047 := by
    have k1 : uN (b &&& 9218868437227405312) = ((uN b / 2 ^ 52) % 2048) * 2 ^ 52 := by
      rw [uN_and]; exact and_top _
    constructor
    · intro h; rw [h] at k1; have : uN 9218868437227405312 = 9218868437227405312 := rfl; omega
    · intro h; apply uN_inj; rw [k1, h]; rfl
  have e4 : b &&& 4503599627370495 = 0 ↔ uN b % 2 ^ 52 = 0 := by
    have k1 : uN (b &&& 4503599627370495) = uN b % 2 ^ 52 := by
      rw [uN_and]; exact and_low _
    constructor
    · intro h; rw [h] at k1; rw [← k1]; rfl
    · intro h; apply uN_inj; rw [k1, h]; rfl
  rw [e1, e2, e3, Ne, e4]
theorem nI_s1023 {x : Nat} (h : x < 4096) : (nI x - 1023).toInt = (x : Int) - 1023 := by
  rw [Int32.toInt_sub, qI_toInt (by omega)]
  have : (1023 : Int32).toInt = 1023 := rfl
  rw [this]
  exact Int.bmod_eq_of_le (by omega) (by omega)
theorem nI_sh {x : Nat} (h1 : 1023 ≤ x) (h2 : x ≤ 1054) : ((52 : Int32) - (nI x - 1023)).toInt64 &&& 63 = nL (1075 - x) := by
  have e1 : nI x - 1023 = nI (x - 1023) := (Int32.ofNat_sub x 1023 h1).symm
  have e2 : (52 : Int32) - nI (x - 1023) = nI (52 - (x - 1023)) := (Int32.ofNat_sub 52 (x - 1023) (by omega)).symm
  have e3 : (nI (52 - (x - 1023))).toInt64 = nL (52 - (x - 1023)) := by
    apply Int64.toInt_inj.mp
    rw [Int32.toInt_toInt64, qI_toInt (by omega), qL_toInt (by omega)]
  rw [e1, e2, e3, show 52 - (x - 1023) = 1075 - x by omega, nL_63 (by omega)]
theorem nI_shu {x : Nat} (h1 : 1023 ≤ x) (h2 : x ≤ 1054) : ((52 : Int32) - (nI x - 1023)).toInt64.toUInt64 &&& Int64.toUInt64 63 = (nL (1075 - x)).toUInt64 := by
  have := nI_sh h1 h2
  have h2 : (((52 : Int32) - (nI x - 1023)).toInt64 &&& 63).toUInt64 = (nL (1075 - x)).toUInt64 := by rw [this]
  exact h2
def zWh (n : Nat) : Int64 := if n % 2 ^ 63 = 0 then 0 else if 2 ^ 63 ≤ n then -1 else if n / 2 ^ 52 < 1023 then -1 else if n / 2 ^ 52 ≤ 1054 then (if (n % 2 ^ 52 + 2 ^ 52) % 2 ^ (1075 - n / 2 ^ 52) = 0 then nL ((n % 2 ^ 52 + 2 ^ 52) / 2 ^ (1075 - n / 2 ^ 52)) else -1) else -1
theorem w_f (b : Int64) : (b &&& 4503599627370495) ||| 4503599627370496 = nL (uN b % 2 ^ 52 + 2 ^ 52) := by
  apply uN_inj
  have hb := uN_lt b
  have k : uN (b &&& 4503599627370495) = uN b % 2 ^ 52 := by rw [uN_and]; exact and_low _
  rw [uN_or, k, uN_nL (by omega)]
  exact or_52 (by omega)
theorem w_lt0 (a : Int32) : a < 0 ↔ a.toInt < 0 := by rw [Int32.lt_iff_toInt_lt]; rfl
theorem m_whole (b : Int64) (s : zSt) : F_R_wholeOf b s = some (zWh (uN b), s) := by
  have hb := uN_lt b
  unfold F_R_wholeOf F_R_wholeOf_40 F_R_wholeOf_81 zWh
  have e1 : b <<< ((1 : Int32).toInt64 &&& 63) = 0 ↔ uN b % 2 ^ 63 = 0 := by
    have k1 : uN (b <<< ((1 : Int32).toInt64 &&& 63)) = (uN b * 2 ^ 1) % 2 ^ 64 := uN_shl b (k := 1) (by decide)
    constructor
    · intro h; rw [h] at k1; have : uN 0 = 0 := rfl; omega
    · intro h; apply uN_inj; rw [k1]; show _ = 0; omega
  by_cases h1 : uN b % 2 ^ 63 = 0
  · rw [if_pos ((lg_cmp_eq _ _).mpr (e1.mpr h1)), if_pos h1]
  · rw [if_neg (fun q => h1 (e1.mp ((lg_cmp_eq _ _).mp q))), if_neg h1]
    by_cases h2 : 2 ^ 63 ≤ uN b
    · rw [if_pos ((lg_cmp_lt _ _).mpr ((nL_lt0 b).mpr h2)), if_pos h2]
    · rw [if_neg (fun q => h2 ((nL_lt0 b).mp ((lg_cmp_lt _ _).mp q))), if_neg h2]
      have ex : ((b >>> ((52 : Int32).toInt64 &&& 63)) &&& 2047).toInt32 = nI (uN b / 2 ^ 52) := by
        have k1 : (b >>> ((52 : Int32).toInt64 &&& 63)) &&& 2047 = nL (uN b / 2 ^ 52) := by
          apply uN_inj
          have := uN_shr b (k := 52) (by decide)
          rw [uN_and, show ((52 : Int32).toInt64 &&& 63) = nL 52 from rfl, this, uN_nL (by omega)]
          show _ &&& (2 ^ 11 - 1) = _
          rw [Nat.and_two_pow_sub_one_eq_mod, if_pos (by omega)]
          omega
        rw [k1]
        exact Int64.toInt32_ofNat'
      have hx : uN b / 2 ^ 52 < 2048 := by omega
      rw [ex]
      generalize hX : uN b / 2 ^ 52 = x at hx
      by_cases h3 : x < 1023
      · rw [if_pos ((w_lt0 _).mpr (by rw [nI_s1023 (by omega)]; omega)), if_pos h3]
      · rw [if_neg (fun q => by have := (w_lt0 _).mp q; rw [nI_s1023 (by omega)] at this; omega), if_neg h3]
        by_cases h4 : x ≤ 1054
        · rw [if_pos (Int32.le_iff_toInt_le.mpr (by rw [nI_s1023 (by omega)]; show _ ≤ (31 : Int); omega)), if_pos h4, nI_sh (by omega) h4, w_f]
          have hsh : 1075 - x < 64 := by omega
          have hp : 2 ^ (1075 - x) < 2 ^ 64 := Nat.pow_lt_pow_right (by decide) hsh
          have hp1 : 1 ≤ 2 ^ (1075 - x) := Nat.one_le_two_pow
          have hF : uN b % 2 ^ 52 + 2 ^ 52 < 2 ^ 53 := by omega
          generalize hG : uN b % 2 ^ 52 + 2 ^ 52 = F at hF
          have eq1 : nL F &&& (((1 : Int64) <<< nL (1075 - x)) - 1) = 0 ↔ F % 2 ^ (1075 - x) = 0 := by
            have k1 : uN (((1 : Int64) <<< nL (1075 - x)) - 1) = 2 ^ (1075 - x) - 1 := by
              have k2 : uN ((1 : Int64) <<< nL (1075 - x)) = 2 ^ (1075 - x) := by
                rw [uN_shl _ hsh, show uN 1 = 1 from rfl, Nat.one_mul, Nat.mod_eq_of_lt hp]
              unfold uN at k2 ⊢
              rw [Int64.toBitVec_sub, BitVec.toNat_sub, k2]
              show (2 ^ 64 - 1 + 2 ^ (1075 - x)) % 2 ^ 64 = _
              omega
            have k3 : uN (nL F &&& (((1 : Int64) <<< nL (1075 - x)) - 1)) = F % 2 ^ (1075 - x) := by
              rw [uN_and, k1, uN_nL (by omega), Nat.and_two_pow_sub_one_eq_mod]
            constructor
            · intro h; rw [h] at k3; rw [← k3]; rfl
            · intro h; apply uN_inj; rw [k3, h]; rfl
          have eq2 : nL F >>> nL (1075 - x) = nL (F / 2 ^ (1075 - x)) := by
            apply uN_inj
            have : F / 2 ^ (1075 - x) ≤ F := Nat.div_le_self _ _
            rw [uN_shr _ hsh, uN_nL (by omega), if_pos (by omega), uN_nL (by omega)]
          by_cases h5 : F % 2 ^ (1075 - x) = 0
          · rw [if_pos ((lg_cmp_eq _ _).mpr (eq1.mpr h5)), if_pos h5, eq2]
          · rw [if_neg (fun q => h5 (eq1.mp ((lg_cmp_eq _ _).mp q))), if_neg h5]
        · rw [if_neg (fun q => by have := Int32.le_iff_toInt_le.mp q; rw [nI_s1023 (by omega), show (31 : Int32).toInt = 31 from rfl] at this; omega), if_neg h4]
theorem n_whole' (b : Int64) (s : zSt) : F_N_wholeLength b s = some (zWh (uN b), s) := by
  have hb := uN_lt b
  unfold F_N_wholeLength F_N_wholeLength_14 F_N_wholeLength_36 F_N_wholeLength_80 zWh
  by_cases h1 : uN b % 2 ^ 63 = 0
  · rw [if_pos h1]
    by_cases h0 : b = 0
    · rw [if_pos ((lg_cmp_eq _ _).mpr h0)]
    · have : b = -9223372036854775808 := by
        apply uN_inj
        have e2 : uN (-9223372036854775808) = 2 ^ 63 := rfl
        have : uN b ≠ 0 := fun q => h0 (uN_inj q)
        rw [e2]
        omega
      rw [if_neg (fun q => h0 ((lg_cmp_eq _ _).mp q)), if_pos ((lg_cmp_eq _ _).mpr this)]
  · have h0 : b ≠ 0 := fun q => h1 (by rw [q]; rfl)
    have h0' : b ≠ -9223372036854775808 := fun q => h1 (by rw [q]; rfl)
    rw [if_neg (fun q => h0 ((lg_cmp_eq _ _).mp q)), if_neg (fun q => h0' ((lg_cmp_eq _ _).mp q)), if_neg h1]
    have ex : ((b.toUInt64 >>> ((52 : Int32).toInt64.toUInt64 &&& Int64.toUInt64 63)).toInt64).toInt32 = nI (uN b / 2 ^ 52) := by
      have k1 : (b.toUInt64 >>> ((52 : Int32).toInt64.toUInt64 &&& Int64.toUInt64 63)).toInt64 = nL (uN b / 2 ^ 52) := by
        apply uN_inj
        have := uN_ushr b (k := 52) (by decide)
        rw [uN_nL (by omega)]
        exact this
      rw [k1]
      exact Int64.toInt32_ofNat'
    have hx : uN b / 2 ^ 52 < 4096 := by omega
    have hx2 : 2 ^ 63 ≤ uN b ↔ 2048 ≤ uN b / 2 ^ 52 := by omega
    rw [ex]
    generalize hX : uN b / 2 ^ 52 = x at hx hx2
    by_cases h2 : 2 ^ 63 ≤ uN b
    · have := hx2.mp h2
      rw [if_pos h2, if_neg (fun q => by have := (w_lt0 _).mp q; rw [nI_s1023 (by omega)] at this; omega), if_neg (fun q => by have := Int32.lt_iff_toInt_lt.mp q; rw [nI_s1023 (by omega), show (32 : Int32).toInt = 32 from rfl] at this; omega)]
    · rw [if_neg h2]
      by_cases h3 : x < 1023
      · rw [if_pos ((w_lt0 _).mpr (by rw [nI_s1023 (by omega)]; omega)), if_pos h3]
      · rw [if_neg (fun q => by have := (w_lt0 _).mp q; rw [nI_s1023 (by omega)] at this; omega), if_neg h3]
        by_cases h4 : x ≤ 1054
        · rw [if_pos (Int32.lt_iff_toInt_lt.mpr (by rw [nI_s1023 (by omega)]; show _ < (32 : Int); omega)), if_pos h4, nI_sh (by omega) h4, nI_shu (by omega) h4, w_f]
          have hsh : 1075 - x < 64 := by omega
          have hF : uN b % 2 ^ 52 + 2 ^ 52 < 2 ^ 53 := by omega
          generalize hG : uN b % 2 ^ 52 + 2 ^ 52 = F at hF
          have hle : F / 2 ^ (1075 - x) * 2 ^ (1075 - x) ≤ F := Nat.div_mul_le_self _ _
          have hle2 : F / 2 ^ (1075 - x) ≤ F := Nat.div_le_self _ _
          have eq2 : ((nL F).toUInt64 >>> (nL (1075 - x)).toUInt64).toInt64 = nL (F / 2 ^ (1075 - x)) := by
            apply uN_inj
            rw [uN_ushr _ hsh, uN_nL (by omega), uN_nL (by omega)]
          rw [eq2]
          have eq1 : nL (F / 2 ^ (1075 - x)) <<< nL (1075 - x) = nL F ↔ F % 2 ^ (1075 - x) = 0 := by
            have k3 : uN (nL (F / 2 ^ (1075 - x)) <<< nL (1075 - x)) = F / 2 ^ (1075 - x) * 2 ^ (1075 - x) := by
              rw [uN_shl _ hsh, uN_nL (by omega), Nat.mod_eq_of_lt (by omega)]
            have hdm := Nat.div_add_mod' F (2 ^ (1075 - x))
            constructor
            · intro h; rw [h, uN_nL (by omega)] at k3; omega
            · intro h; apply uN_inj; rw [k3, uN_nL (by omega)]; omega
          by_cases h5 : F % 2 ^ (1075 - x) = 0
          · rw [if_pos ((lg_cmp_eq _ _).mpr (eq1.mpr h5)), if_pos h5]
          · rw [if_neg (fun q => h5 (eq1.mp ((lg_cmp_eq _ _).mp q))), if_neg h5]
        · rw [if_neg (fun q => by have := Int32.lt_iff_toInt_lt.mp q; rw [nI_s1023 (by omega), show (32 : Int32).toInt = 32 from rfl] at this; omega), if_neg h4]
theorem zWh_bd (n : Nat) : zWh n = -1 ∨ ∃ m, m < 2 ^ 32 ∧ zWh n = nL m := by
  unfold zWh
  split
  · exact Or.inr ⟨0, by decide, rfl⟩
  · split
    · exact Or.inl rfl
    · split
      · exact Or.inl rfl
      · split
        · split
          · refine Or.inr ⟨_, ?_, rfl⟩
            rw [Nat.div_lt_iff_lt_mul (Nat.two_pow_pos _), ← Nat.pow_add]
            have : 2 ^ 53 ≤ 2 ^ (32 + (1075 - n / 2 ^ 52)) := Nat.pow_le_pow_right (by decide) (by omega)
            omega
          · exact Or.inl rfl
        · exact Or.inl rfl
theorem w_le {a b : Nat} (ha : a < 2 ^ 63) (hb : b < 2 ^ 63) : nL a ≤ nL b ↔ a ≤ b := by
  rw [Int64.le_iff_toInt_le, qL_toInt ha, qL_toInt hb]; omega
theorem w_lt {a b : Nat} (ha : a < 2 ^ 63) (hb : b < 2 ^ 63) : nL a < nL b ↔ a < b := by
  rw [Int64.lt_iff_toInt_lt, qL_toInt ha, qL_toInt hb]; omega
theorem z_ush (i k : Nat) (hi : i < 2 ^ 31) (hk : k < 32) : ((nI i).toUInt32 >>> ((nI k).toUInt32 &&& Int32.toUInt32 31)).toInt32 = nI (i / 2 ^ k) := by
  have h0 : ∀ m : Nat, m < 2 ^ 32 → (nI m).toUInt32.toNat = m := by
    intro m hm
    show (BitVec.ofNat 32 m).toNat = m
    rw [BitVec.toNat_ofNat, Nat.mod_eq_of_lt hm]
  have h1 : ((nI k).toUInt32 &&& Int32.toUInt32 31).toNat = k := by
    rw [UInt32.toNat_and, h0 k (by omega)]
    show k &&& (2 ^ 5 - 1) = k
    rw [Nat.and_two_pow_sub_one_eq_mod, Nat.mod_eq_of_lt hk]
  have h2 : ((nI i).toUInt32 >>> ((nI k).toUInt32 &&& Int32.toUInt32 31)).toNat = i / 2 ^ k := by
    rw [UInt32.toNat_shiftRight, h1, h0 i (by omega), Nat.mod_eq_of_lt hk, Nat.shiftRight_eq_div_pow]
  have h3 : i / 2 ^ k < 2 ^ 32 := Nat.lt_of_le_of_lt (Nat.div_le_self _ _) (by omega)
  have h4 := h0 (i / 2 ^ k) h3
  apply Int32.toBitVec_inj.mp
  apply BitVec.eq_of_toNat_eq
  exact h2.trans h4.symm
def zLgP (f : Int32 → Int32 → zSt → Option (Int32 × zSt)) (B D : Nat) : Prop := ∀ (i n : Nat) (s : zSt), 1 ≤ i → i < B → D ≤ n → n < 64 → ∃ e, e ≤ D ∧ 2 ^ e ≤ i ∧ i < 2 ^ (e + 1) ∧ f (nI i) (nI n) s = some (nI (n - e), s)
theorem zLg_step {f g : Int32 → Int32 → zSt → Option (Int32 × zSt)} {k D : Nat} (hf : zLgP f (2 ^ k) D) (hk : 2 * k ≤ 31) (hk1 : 1 ≤ k) (hD : D < 31) (hg : ∀ x0 x1 s, g x0 x1 s = if x0 < nI (2 ^ k) then f x0 x1 s else f ((x0.toUInt32 >>> ((nI k).toUInt32 &&& Int32.toUInt32 31)).toInt32) (x1 - nI k) s) : zLgP g (min (2 ^ (k + k)) (2 ^ 31)) (D + k) := by
  intro i n s h1 h2 h3 h4
  have hp : 2 ^ k < 2 ^ 31 := Nat.pow_lt_pow_right (by decide) (by omega)
  have hi : i < 2 ^ 31 := by omega
  rw [hg]
  by_cases hc : i < 2 ^ k
  · rw [if_pos ((qI_lt hi hp).mpr hc)]
    obtain ⟨e, q1, q2, q3, q4⟩ := hf i n s h1 hc (by omega) h4
    exact ⟨e, by omega, q2, q3, q4⟩
  · rw [if_neg (fun q => hc ((qI_lt hi hp).mp q)), z_ush i k hi (by omega), show nI n - nI k = nI (n - k) from (Int32.ofNat_sub n k (by omega)).symm]
    have hlt : i / 2 ^ k < 2 ^ k := by
      rw [Nat.div_lt_iff_lt_mul (Nat.two_pow_pos k), ← Nat.pow_add]
      omega
    have hge : 1 ≤ i / 2 ^ k := by
      rw [Nat.le_div_iff_mul_le (Nat.two_pow_pos k)]
      omega
    obtain ⟨e, q1, q2, q3, q4⟩ := hf (i / 2 ^ k) (n - k) s hge hlt (by omega) (by omega)
    refine ⟨e + k, by omega, ?_, ?_, ?_⟩
    · rw [Nat.le_div_iff_mul_le (Nat.two_pow_pos k), ← Nat.pow_add] at q2
      exact q2
    · rw [Nat.div_lt_iff_lt_mul (Nat.two_pow_pos k), ← Nat.pow_add] at q3
      rw [show e + k + 1 = e + 1 + k by omega]
      exact q3
    · rw [q4, show n - k - e = n - (e + k) by omega]
theorem zLg73 : zLgP F_JI_numberOfLeadingZeros_73 (2 ^ 2) 1 := by
  intro i n s h1 h2 h3 h4
  unfold F_JI_numberOfLeadingZeros_73
  have e : ((nI i).toUInt32 >>> ((1 : Int32).toUInt32 &&& Int32.toUInt32 31)).toInt32 = nI (i / 2 ^ 1) := z_ush i 1 (by omega) (by decide)
  rw [e, show nI n - nI (i / 2 ^ 1) = nI (n - i / 2 ^ 1) from (Int32.ofNat_sub n (i / 2 ^ 1) (by omega)).symm]
  have : i = 1 ∨ i = 2 ∨ i = 3 := by omega
  rcases this with q | q | q <;> subst q
  · exact ⟨0, by decide, by decide, by decide, rfl⟩
  · exact ⟨1, by decide, by decide, by decide, rfl⟩
  · exact ⟨1, by decide, by decide, by decide, rfl⟩
theorem zLg61 : zLgP F_JI_numberOfLeadingZeros_61 (2 ^ 4) 3 := zLg_step (k := 2) zLg73 (by decide) (by decide) (by decide) (fun x0 x1 s => by
  unfold F_JI_numberOfLeadingZeros_61
  rw [Int32.sub_eq_add_neg]; rfl)
theorem zLg48 : zLgP F_JI_numberOfLeadingZeros_48 (2 ^ 8) 7 := zLg_step (k := 4) zLg61 (by decide) (by decide) (by decide) (fun x0 x1 s => by
  unfold F_JI_numberOfLeadingZeros_48
  rw [Int32.sub_eq_add_neg]; rfl)
theorem zLg33 : zLgP F_JI_numberOfLeadingZeros_33 (2 ^ 16) 15 := zLg_step (k := 8) zLg48 (by decide) (by decide) (by decide) (fun x0 x1 s => by
  unfold F_JI_numberOfLeadingZeros_33
  rw [Int32.sub_eq_add_neg]; rfl)
theorem zLgI {i : Nat} (s : zSt) (h1 : 1 ≤ i) (h2 : i < 2 ^ 31) : ∃ e, e ≤ 30 ∧ 2 ^ e ≤ i ∧ i < 2 ^ (e + 1) ∧ F_JI_numberOfLeadingZeros (nI i) s = some (nI (31 - e), s) := by
  unfold F_JI_numberOfLeadingZeros
  have hz : (0 : Int32) < nI i := (qI_lt (a := 0) (by decide) h2).mpr (by omega)
  rw [if_pos hz]
  by_cases hc : i < 65536
  · have hz2 : nI i < 65536 := (qI_lt h2 (b := 65536) (by decide)).mpr hc
    rw [if_pos hz2]
    obtain ⟨e, q1, q2, q3, q4⟩ := zLg33 i 31 s h1 hc (by decide) (by decide)
    exact ⟨e, by omega, q2, q3, q4⟩
  · have hz2 : ¬ nI i < 65536 := fun q => hc ((qI_lt h2 (b := 65536) (by decide)).mp q)
    rw [if_neg hz2]
    have e : ((nI i).toUInt32 >>> ((16 : Int32).toUInt32 &&& Int32.toUInt32 31)).toInt32 = nI (i / 2 ^ 16) := z_ush i 16 h2 (by decide)
    rw [e]
    obtain ⟨e, q1, q2, q3, q4⟩ := zLg33 (i / 2 ^ 16) 15 s (by omega) (by omega) (by decide) (by decide)
    have he : e + 16 ≤ 30 := by
      apply Classical.byContradiction
      intro hn
      have : e = 15 := by omega
      subst this
      omega
    refine ⟨e + 16, he, ?_, ?_, ?_⟩
    · rw [Nat.le_div_iff_mul_le (by decide), ← Nat.pow_add] at q2
      exact q2
    · rw [Nat.div_lt_iff_lt_mul (by decide), ← Nat.pow_add] at q3
      rw [show e + 16 + 1 = e + 1 + 16 by omega]
      exact q3
    · have q4' : F_JI_numberOfLeadingZeros_33 (nI (i / 2 ^ 16)) (31 + -16) s = some (nI (15 - e), s) := q4
      rw [q4', show 15 - e = 31 - (e + 16) by omega]
theorem zLgL {n : Nat} (s : zSt) (h1 : 1 ≤ n) (h2 : n < 2 ^ 32) : ∃ e, e ≤ 31 ∧ 2 ^ e ≤ n ∧ n < 2 ^ (e + 1) ∧ F_JL_numberOfLeadingZeros (nL n) s = some (nI (63 - e), s) := by
  unfold F_JL_numberOfLeadingZeros F_JL_numberOfLeadingZeros_25
  have e0 : (((nL n).toUInt64 >>> ((32 : Int32).toInt64.toUInt64 &&& Int64.toUInt64 63)).toInt64) = 0 := by
    apply uN_inj
    have := uN_ushr (nL n) (k := 32) (by decide)
    rw [uN_nL (by omega)] at this
    refine Eq.trans this ?_
    show n / 2 ^ 32 = 0
    omega
  rw [e0, if_pos (by decide)]
  have e1 : (nL n).toInt32 = nI n := Int64.toInt32_ofNat'
  rw [e1]
  by_cases hc : n < 2 ^ 31
  · obtain ⟨e, q1, q2, q3, q4⟩ := zLgI s h1 hc
    refine ⟨e, by omega, q2, q3, ?_⟩
    rw [q4, zb_some]
    have : (32 : Int32) + nI (31 - e) = nI (63 - e) := by
      rw [show 63 - e = 32 + (31 - e) by omega]
      exact (Int32.ofNat_add 32 (31 - e)).symm
    rw [this]
  · refine ⟨31, by decide, by omega, by omega, ?_⟩
    have hneg : (nI n).toInt < 0 := by
      have : (nI n).toInt = (BitVec.ofNat 32 n).toInt := rfl
      rw [this, BitVec.toInt_eq_toNat_cond, BitVec.toNat_ofNat]
      split <;> omega
    unfold F_JI_numberOfLeadingZeros F_JI_numberOfLeadingZeros_14
    rw [if_neg (fun q => by have := Int32.lt_iff_toInt_lt.mp q; rw [show (0 : Int32).toInt = 0 from rfl] at this; omega), if_neg (fun q => by rw [q] at hneg; exact absurd hneg (by decide)), zb_some]
    rfl
theorem m_bits2 {n e : Nat} (h1 : 1 ≤ n) (h2 : n < 2 ^ 32) (he : e ≤ 31) (ha : 2 ^ e ≤ n) (hb : n < 2 ^ (e + 1)) (s : zSt) : ∀ (d j f : Nat), d + j = e → d < f → F_R_bitsOf_2 f (nL n) (nI j) s = some (((nI e + 1023).toInt64 <<< ((52 : Int32).toInt64 &&& 63)) ||| ((nL n <<< (((52 : Int32) - nI e).toInt64 &&& 63)) &&& 4503599627370495), s) := by
  have hn0 : nL n ≠ 0 := fun q => by
    have := congrArg uN q
    rw [uN_nL (by omega)] at this
    have : n = 0 := this
    omega
  have hsh : ∀ j, j ≤ 31 → nL n >>> ((nI j).toInt64 &&& 63) = nL (n / 2 ^ j) := by
    intro j hj
    have e3 : (nI j).toInt64 = nL j := by
      apply Int64.toInt_inj.mp
      rw [Int32.toInt_toInt64, qI_toInt (by omega), qL_toInt (by omega)]
    rw [e3, nL_63 (by omega)]
    apply uN_inj
    have : n / 2 ^ j ≤ n := Nat.div_le_self _ _
    rw [uN_shr _ (by omega), uN_nL (by omega), if_pos (by omega), uN_nL (by omega)]
  have hle : ∀ a : Nat, a < 2 ^ 32 → (lg_cmp (nL a) 1 ≤ 0 ↔ a ≤ 1) := by
    intro a ha
    rw [← Int32.not_lt, lg_cmp_gt, Int64.not_lt]
    exact w_le (b := 1) (by omega) (by decide)
  intro d
  induction d with
  | zero =>
    intro j f hd hf
    obtain ⟨m, rfl⟩ : ∃ m, f = m + 1 := ⟨f - 1, by omega⟩
    have hj : j = e := by omega
    subst hj
    have hq : n / 2 ^ j < 2 := by
      rw [Nat.div_lt_iff_lt_mul (Nat.two_pow_pos j)]
      rw [Nat.pow_succ] at hb
      omega
    unfold F_R_bitsOf_2 F_R_bitsOf_46
    rw [hsh j he, if_pos ((hle _ (by omega)).mpr (by omega)), if_neg (fun q => hn0 ((lg_cmp_eq _ _).mp q))]
  | succ d ih =>
    intro j f hd hf
    obtain ⟨m, rfl⟩ : ∃ m, f = m + 1 := ⟨f - 1, by omega⟩
    have hq : 2 ≤ n / 2 ^ j := by
      rw [Nat.le_div_iff_mul_le (Nat.two_pow_pos j)]
      have : 2 ^ (j + 1) ≤ 2 ^ e := Nat.pow_le_pow_right (by decide) (by omega)
      rw [Nat.pow_succ] at this
      omega
    have hle2 : n / 2 ^ j ≤ n := Nat.div_le_self _ _
    rw [F_R_bitsOf_2, hsh j (by omega), if_neg (fun q => by have := (hle _ (by omega)).mp q; omega)]
    have : nI j + 1 = nI (j + 1) := (Int32.ofNat_add j 1).symm
    rw [this]
    exact ih (j + 1) m (by omega) (by omega)
theorem m_bitsOf {n : Nat} (h2 : n < 2 ^ 32) (s : zSt) : F_R_bitsOf (nL n) s = some (cOf (nL n), s) := by
  unfold F_R_bitsOf
  by_cases h0 : n = 0
  · subst h0
    have : zFuel = (zFuel - 1) + 1 := by rw [zFuel_eq]
    rw [this, F_R_bitsOf_2]
    unfold F_R_bitsOf_46
    have e1 : nL 0 >>> ((0 : Int32).toInt64 &&& 63) = 0 := by decide
    rw [e1, if_pos (by rw [← Int32.not_lt, lg_cmp_gt]; decide), if_pos ((lg_cmp_eq (nL 0) 0).mpr rfl)]
    rfl
  · obtain ⟨e, q1, q2, q3, q4⟩ := zLgL zst0 (n := n) (by omega) h2
    have hc : cNl (nL n) = nI (63 - e) := by unfold cNl; rw [q4]
    have hm := m_bits2 (n := n) (by omega) h2 q1 q2 q3 s e 0 zFuel (by omega) (by rw [zFuel_eq]; omega)
    have hm' : F_R_bitsOf_2 zFuel (nL n) 0 s = _ := hm
    rw [hm']
    unfold cOf
    have hp : (0 : Int64) < nL n := (w_lt (a := 0) (by decide) (by omega)).mpr (by omega)
    have e63 : (63 : Int32) - nI (63 - e) = nI e := by
      have := (Int32.ofNat_sub 63 (63 - e) (by omega)).symm
      rw [show 63 - (63 - e) = e by omega] at this
      exact this
    rw [if_pos hp, hc, e63, Int32.add_comm]
theorem cAl_eq (k : Int32) (b : Int64) : cAl k b = if k = 4 then zWh (uN b) else if k = 1 ∨ k = 2 then 0 else if k = 3 then 1 else -1 := by
  unfold cAl F_N_asLength F_N_asLength_10 F_N_asLength_34
  by_cases h1 : k = 1
  · rw [if_pos h1, if_neg (by rw [h1]; decide), if_pos (Or.inl h1)]
  · rw [if_neg h1]
    by_cases h2 : k = 2
    · rw [if_pos h2, if_neg (by rw [h2]; decide), if_pos (Or.inr h2)]
    · rw [if_neg h2]
      by_cases h3 : k = 3
      · rw [if_pos h3, if_neg (by rw [h3]; decide), if_neg (fun q => q.elim h1 h2), if_pos h3]
      · rw [if_neg h3]
        by_cases h4 : k = 4
        · rw [if_pos h4, if_pos h4, n_whole', zb_some]
        · rw [if_neg h4, if_neg h4, if_neg (fun q => q.elim h1 h2), if_neg h3]
theorem cAl_bd (k : Int32) (b : Int64) : cAl k b = -1 ∨ ∃ m, m < 2 ^ 32 ∧ cAl k b = nL m := by
  rw [cAl_eq]
  split
  · exact zWh_bd _
  · split
    · exact Or.inr ⟨0, by decide, rfl⟩
    · split
      · exact Or.inr ⟨1, by decide, rfl⟩
      · exact Or.inl rfl
theorem m_wholeOf (b : Int64) (s : zSt) : F_R_wholeOf b s = some (cAl 4 b, s) := by
  rw [m_whole, cAl_eq, if_pos rfl]
theorem z_kind {k : Int32} (h : 0 ≤ k ∧ k ≤ 5) : k = 0 ∨ k = 1 ∨ k = 2 ∨ k = 3 ∨ k = 4 ∨ k = 5 := by
  have h1 := Int32.le_iff_toInt_le.mp h.1
  have h2 := Int32.le_iff_toInt_le.mp h.2
  have e0 : (0 : Int32).toInt = 0 := rfl
  have e1 : (1 : Int32).toInt = 1 := rfl
  have e2 : (2 : Int32).toInt = 2 := rfl
  have e3 : (3 : Int32).toInt = 3 := rfl
  have e4 : (4 : Int32).toInt = 4 := rfl
  have e5 : (5 : Int32).toInt = 5 := rfl
  rw [e0] at h1
  rw [e5] at h2
  have : k.toInt = 0 ∨ k.toInt = 1 ∨ k.toInt = 2 ∨ k.toInt = 3 ∨ k.toInt = 4 ∨ k.toInt = 5 := by omega
  rcases this with q | q | q | q | q | q
  · exact Or.inl (Int32.toInt_inj.mp (q.trans e0.symm))
  · exact Or.inr (Or.inl (Int32.toInt_inj.mp (q.trans e1.symm)))
  · exact Or.inr (Or.inr (Or.inl (Int32.toInt_inj.mp (q.trans e2.symm))))
  · exact Or.inr (Or.inr (Or.inr (Or.inl (Int32.toInt_inj.mp (q.trans e3.symm)))))
  · exact Or.inr (Or.inr (Or.inr (Or.inr (Or.inl (Int32.toInt_inj.mp (q.trans e4.symm))))))
  · exact Or.inr (Or.inr (Or.inr (Or.inr (Or.inr (Int32.toInt_inj.mp (q.trans e5.symm))))))
theorem m_asLength {k : Int32} (hk : 0 ≤ k ∧ k ≤ 5) (b : Int64) (s : zSt) : F_R_asLength k b s = some (cAl k b, s) := by
  unfold F_R_asLength F_R_asLength_34
  rcases z_kind hk with e | e | e | e | e | e <;> subst e
  · rw [if_neg (by decide), m_in, zb_some, if_pos (bI_eq0.mpr (by decide))]; rfl
  · rw [if_neg (by decide), m_in, zb_some, if_neg (fun q => bI_eq0.mp q (by decide))]; rfl
  · rw [if_neg (by decide), m_in, zb_some, if_neg (fun q => bI_eq0.mp q (by decide))]; rfl
  · rw [if_neg (by decide), m_in, zb_some, if_neg (fun q => bI_eq0.mp q (by decide))]; rfl
  · rw [if_pos rfl, m_wholeOf, zb_some]
  · rw [if_neg (by decide), m_in, zb_some, if_pos (bI_eq0.mpr (by decide))]; rfl
theorem cAl_neg (k : Int32) (b : Int64) : 0 ≤ cAl k b ↔ cAl k b ≠ -1 := by
  rcases cAl_bd k b with q | ⟨m, q1, q2⟩
  · rw [q]; exact ⟨fun z => absurd z (by decide), fun z => absurd rfl z⟩
  · rw [q2]
    refine ⟨fun _ z => ?_, fun _ => (w_le (a := 0) (by decide) (by omega)).mpr (by omega)⟩
    have := congrArg uN z
    rw [uN_nL (by omega), show uN (-1) = 2 ^ 64 - 1 from rfl] at this
    omega

/-! the memory's words, by block and field -/
def Wd (s : zSt) (b f : Nat) : Int64 := if b = 0 then 0 else gB s 0 ((b - 1) * 8 + f)
def sW (s : zSt) (b f : Nat) (v : Int64) : zSt := if b = 0 then s else sB s 0 (vp_updL (gB s 0) ((b - 1) * 8 + f) v)
def zOk (nb : Nat) (s : zSt) : Prop := gN s = 8 * nb ∧ nb ≤ 1024
theorem Wd_zero (s : zSt) (f : Nat) : Wd s 0 f = 0 := rfl
theorem Wd_of {s t : zSt} (h : gB t 0 = gB s 0) (b f : Nat) : Wd t b f = Wd s b f := by unfold Wd; rw [h]
theorem Wd_sW {s : zSt} {b f b2 f2 : Nat} {v : Int64} (hb : b ≠ 0) (hf : f < 8) (hf2 : f2 < 8) : Wd (sW s b f v) b2 f2 = if b2 = b ∧ f2 = f then v else Wd s b2 f2 := by
  unfold Wd sW
  rw [if_neg hb]
  by_cases h2 : b2 = 0
  · rw [if_pos h2, if_pos h2, if_neg (show ¬ (b2 = b ∧ f2 = f) from fun q => hb (by omega))]
  · rw [if_neg h2, if_neg h2]
    simp only [gB_sB, if_true, vp_updL]
    by_cases h3 : b2 = b ∧ f2 = f
    · rw [if_pos h3, if_pos (by rw [h3.1, h3.2])]
    · rw [if_neg h3, if_neg (fun q => h3 ⟨by omega, by omega⟩)]
theorem zOk_sW {nb : Nat} {s : zSt} (h : zOk nb s) (b f : Nat) (v : Int64) : zOk nb (sW s b f v) := by
  unfold sW
  split
  · exact h
  · exact h
theorem sW_I (s : zSt) (b f : Nat) (v : Int64) (k : Nat) : gI (sW s b f v) k = gI s k := by unfold sW; split <;> rfl
theorem sW_J (s : zSt) (b f : Nat) (v : Int64) (k : Nat) : gJ (sW s b f v) k = gJ s k := by unfold sW; split <;> rfl
theorem sW_A (s : zSt) (b f : Nat) (v : Int64) (k : Nat) : gA (sW s b f v) k = gA s k := by unfold sW; split <;> rfl
theorem sW_B (s : zSt) (b f : Nat) (v : Int64) (k : Nat) : gB (sW s b f v) (k + 1) = gB s (k + 1) := by
  unfold sW
  split
  · rfl
  · rw [gB_sB, if_neg (by omega)]
theorem sW_N (s : zSt) (b f : Nat) (v : Int64) : gN (sW s b f v) = gN s := by unfold sW; split <;> rfl
theorem sW_E (s : zSt) (b f : Nat) (v : Int64) : gE (sW s b f v) = gE s := by unfold sW; split <;> rfl
theorem zat_eq {b f : Nat} (hb : b ≠ 0) : (nI b - 1) * 8 + nI f = nI ((b - 1) * 8 + f) := by
  have h1 : nI b - 1 = nI (b - 1) := qI_sub (b := 1) (by omega)
  rw [h1]
  show nI (b - 1) * nI 8 + nI f = _
  rw [qI_mul, nI_add]
theorem zat_neg {f : Nat} (hf : f < 8) : (nI 0 - 1) * 8 + nI f < 0 := by
  have : f = 0 ∨ f = 1 ∨ f = 2 ∨ f = 3 ∨ f = 4 ∨ f = 5 ∨ f = 6 ∨ f = 7 := by omega
  rcases this with h | h | h | h | h | h | h | h <;> rw [h] <;> decide
theorem zw {nb : Nat} {s : zSt} (h : zOk nb s) {b f : Nat} (hb : b ≤ nb) (hf : f < 8) : F_M_word (nI b) (nI f) s = some (Wd s b f, s) := by
  obtain ⟨h1, h2⟩ := h
  unfold F_M_word F_M_word_31 F_M_word_32 Wd
  by_cases h0 : b = 0
  · rw [if_pos (by rw [h0]; exact zat_neg hf), if_pos h0]
  · have hlt : (b - 1) * 8 + f < 2 ^ 31 := by omega
    have hin : (b - 1) * 8 + f < gN s := by omega
    have hg : ¬ (Int32.ofNat (gN s) ≤ nI ((b - 1) * 8 + f)) := fun q => by
      have := (qI_le (a := gN s) (by omega) hlt).mp q
      omega
    rw [zat_eq h0, if_neg (qI_notneg hlt), if_neg hg, if_pos ((zin_nI hlt).mpr hin), if_neg h0, nI_clamp hlt]
theorem zsw {nb : Nat} {s : zSt} (h : zOk nb s) {b f : Nat} (hb : b ≤ nb) (hf : f < 8) (v : Int64) : F_M_setWord (nI b) (nI f) v s = some ((), sW s b f v) := by
  obtain ⟨h1, h2⟩ := h
  unfold F_M_setWord F_M_setWord_33 sW
  by_cases h0 : b = 0
  · rw [if_pos (by rw [h0]; exact zat_neg hf), if_pos h0]
  · have hlt : (b - 1) * 8 + f < 2 ^ 31 := by omega
    have hin : (b - 1) * 8 + f < gN s := by omega
    have hg : ¬ (Int32.ofNat (gN s) ≤ nI ((b - 1) * 8 + f)) := fun q => by
      have := (qI_le (a := gN s) (by omega) hlt).mp q
      omega
    rw [zat_eq h0, if_neg (qI_notneg hlt), if_neg hg, if_pos ((zin_nI hlt).mpr hin), if_neg h0, nI_clamp hlt]
theorem zw0 {nb : Nat} {s : zSt} (h : zOk nb s) {b : Nat} (hb : b ≤ nb) : F_M_word (nI b) (0 : Int32) s = some (Wd s b 0, s) := zw (f := 0) h hb (by decide)
theorem zsw0 {nb : Nat} {s : zSt} (h : zOk nb s) {b : Nat} (hb : b ≤ nb) (v : Int64) : F_M_setWord (nI b) (0 : Int32) v s = some ((), sW s b 0 v) := zsw (f := 0) h hb (by decide) v
theorem zw1 {nb : Nat} {s : zSt} (h : zOk nb s) {b : Nat} (hb : b ≤ nb) : F_M_word (nI b) (1 : Int32) s = some (Wd s b 1, s) := zw (f := 1) h hb (by decide)
theorem zsw1 {nb : Nat} {s : zSt} (h : zOk nb s) {b : Nat} (hb : b ≤ nb) (v : Int64) : F_M_setWord (nI b) (1 : Int32) v s = some ((), sW s b 1 v) := zsw (f := 1) h hb (by decide) v
theorem zw2 {nb : Nat} {s : zSt} (h : zOk nb s) {b : Nat} (hb : b ≤ nb) : F_M_word (nI b) (2 : Int32) s = some (Wd s b 2, s) := zw (f := 2) h hb (by decide)
theorem zsw2 {nb : Nat} {s : zSt} (h : zOk nb s) {b : Nat} (hb : b ≤ nb) (v : Int64) : F_M_setWord (nI b) (2 : Int32) v s = some ((), sW s b 2 v) := zsw (f := 2) h hb (by decide) v
theorem zw3 {nb : Nat} {s : zSt} (h : zOk nb s) {b : Nat} (hb : b ≤ nb) : F_M_word (nI b) (3 : Int32) s = some (Wd s b 3, s) := zw (f := 3) h hb (by decide)
theorem zsw3 {nb : Nat} {s : zSt} (h : zOk nb s) {b : Nat} (hb : b ≤ nb) (v : Int64) : F_M_setWord (nI b) (3 : Int32) v s = some ((), sW s b 3 v) := zsw (f := 3) h hb (by decide) v
theorem zw4 {nb : Nat} {s : zSt} (h : zOk nb s) {b : Nat} (hb : b ≤ nb) : F_M_word (nI b) (4 : Int32) s = some (Wd s b 4, s) := zw (f := 4) h hb (by decide)
theorem zsw4 {nb : Nat} {s : zSt} (h : zOk nb s) {b : Nat} (hb : b ≤ nb) (v : Int64) : F_M_setWord (nI b) (4 : Int32) v s = some ((), sW s b 4 v) := zsw (f := 4) h hb (by decide) v
theorem zw5 {nb : Nat} {s : zSt} (h : zOk nb s) {b : Nat} (hb : b ≤ nb) : F_M_word (nI b) (5 : Int32) s = some (Wd s b 5, s) := zw (f := 5) h hb (by decide)
theorem zsw5 {nb : Nat} {s : zSt} (h : zOk nb s) {b : Nat} (hb : b ≤ nb) (v : Int64) : F_M_setWord (nI b) (5 : Int32) v s = some ((), sW s b 5 v) := zsw (f := 5) h hb (by decide) v
theorem zw6 {nb : Nat} {s : zSt} (h : zOk nb s) {b : Nat} (hb : b ≤ nb) : F_M_word (nI b) (6 : Int32) s = some (Wd s b 6, s) := zw (f := 6) h hb (by decide)
theorem zsw6 {nb : Nat} {s : zSt} (h : zOk nb s) {b : Nat} (hb : b ≤ nb) (v : Int64) : F_M_setWord (nI b) (6 : Int32) v s = some ((), sW s b 6 v) := zsw (f := 6) h hb (by decide) v
theorem zw7 {nb : Nat} {s : zSt} (h : zOk nb s) {b : Nat} (hb : b ≤ nb) : F_M_word (nI b) (7 : Int32) s = some (Wd s b 7, s) := zw (f := 7) h hb (by decide)
theorem zsw7 {nb : Nat} {s : zSt} (h : zOk nb s) {b : Nat} (hb : b ≤ nb) (v : Int64) : F_M_setWord (nI b) (7 : Int32) v s = some ((), sW s b 7 v) := zsw (f := 7) h hb (by decide) v

/-! what holds of all that a store may hold -/
def zWv (k : Int32) (n : Int64) (o : Nat) : Prop := (0 ≤ k ∧ k ≤ 5) ∧ (k ≠ 4 → n = 0) ∧ (k ≠ 5 → o = 0) ∧ (k = 5 → o ≠ 0)
def zFd : List Int32 := [0, 2, 16, 18, 32, 34, 48, 50]
def zFa : List Int32 := [64, 80, 96, 112]
def zWp (p : zPr) : Prop := zKy (kK p) ∧ ((kF p ∈ zFd ∧ kS p = 0 ∧ zWv (kD p) (kN p) (kO p)) ∨ (kF p ∈ zFa ∧ kN p = 0 ∧ kD p = if kO p = 0 then 0 else 5))
/-- the order of keys: indices rise, names come behind them -/
def zBf (a b : Int64) : Prop := (0 ≤ a → 0 ≤ b → a < b) ∧ (0 ≤ b → 0 ≤ a) ∧ a ≠ b
def zWo (σ : zSg) (o : Nat) : Prop := oP (gO σ o) < o ∧ (∀ p ∈ oL (gO σ o), zWp p ∧ kO p < gn σ ∧ kS p < gn σ) ∧ (oL (gO σ o)).Pairwise (fun p q => zBf (kK p) (kK q)) ∧
  (oA (gO σ o) = true → ∃ p ∈ oL (gO σ o), kK p = -1 ∧ (kF p = 0 ∨ kF p = 2) ∧ kD p = 4)
def zWf (σ : zSg) : Prop := 1 ≤ gn σ ∧ gn σ ≤ 600 ∧ (∀ i, i < 27 → gR σ i < gn σ) ∧ (∀ o, 1 ≤ o → o < gn σ → zWo σ o) ∧ zWv (gPK σ) (gPN σ) (gR σ 24) ∧ zWv (gRK σ) (gRN σ) (gR σ 25) ∧ gR σ 26 = 0
theorem zWf.root {σ : zSg} (h : zWf σ) (r : Int32) : zH σ r < gn σ := by
  unfold zH
  split
  · rename_i hv
    exact h.2.2.1 _ (by have := (zV_nI hv).2; omega)
  · exact h.1
section ZX3
variable {σ : zSg} {lv : List Nat} {β : Nat → Nat} {π : Nat → List Nat} {nb : Nat} {FL : List Nat} {mk rc rl : Nat} {s : zSt}
theorem zCm.obj (h : zCm σ lv β π nb FL mk s) {o : Nat} (ho : o ∈ lv) : zOA s β (β o) (π o) (gO σ o) := h.2.2.2.2.2.1 o ho
theorem r_fo (h : zCm σ lv β π nb FL mk s) {o : Nat} (ho : o ∈ lv) (k : Int64) : F_O_findOwn (nI (β o)) k s = some (nI (zBk k (π o) (oL (gO σ o))), s) := by
  obtain ⟨h1, h2, h3, h4, h5⟩ := h.chain ho
  unfold F_O_findOwn
  rw [r_first h.ok h3 (h.obj ho), zb_some]
  exact r_findOwn h.ok k (π o) (oL (gO σ o)) zFuel 0 (h.obj ho).2.2.2.2 h1 (by have := h1.2; omega) (by have := h1.2; rw [zFuel_eq]; omega)
/-- an own property's block -/
theorem zCm.own (h : zCm σ lv β π nb FL mk s) {o : Nat} (ho : o ∈ lv) (k : Int64) : ∃ p, zBk k (π o) (oL (gO σ o)) ≤ nb ∧ zPw1 s β (zBk k (π o) (oL (gO σ o))) p ∧ (kO p = 0 ∨ kO p ∈ lv) ∧ (kS p = 0 ∨ kS p ∈ lv) ∧ ((zG k (oL (gO σ o)) = none ∧ zBk k (π o) (oL (gO σ o)) = 0 ∧ p = zp0) ∨ (zG k (oL (gO σ o)) = some p ∧ zBk k (π o) (oL (gO σ o)) ≠ 0 ∧ p ∈ oL (gO σ o))) := by
  obtain ⟨h1, h2, h3, h4, h5⟩ := h.chain ho
  rcases zBk_at (k := k) (h.obj ho).2.2.2.2 h1 with ⟨q1, q2⟩ | ⟨p, q1, q2, q3, q4, q5⟩
  · rw [q2]
    exact ⟨zp0, Nat.zero_le _, zPw1_zero h.2.2.2.1, Or.inl rfl, Or.inl rfl, Or.inl ⟨q1, rfl, rfl⟩⟩
  · have hc := (h.2.2.2.2.2.2.1 o ho).2 p q2
    have hb := h1.1 _ q3
    exact ⟨p, hb.2, q4, hc.1, hc.2, Or.inr ⟨q1, by omega, q2⟩⟩
theorem r_fnd (h : zCm σ lv β π nb FL mk s) (hW : zWf σ) (k : Int64) : ∀ (o n j m : Nat), (o = 0 ∨ o ∈ lv) → o < gn σ → o < n → j + o < 1024 → o < m →
    ∃ b p, F_O_find_6 n k (nI (β o)) (nI j) s = some (nI b, s) ∧ b ≤ nb ∧ zPw1 s β b p ∧ (kO p = 0 ∨ kO p ∈ lv) ∧ (kS p = 0 ∨ kS p ∈ lv) ∧ ((zLu σ k m o = none ∧ b = 0 ∧ p = zp0) ∨ (zLu σ k m o = some p ∧ b ≠ 0)) := by
  have hnb := h.ok.2
  intro o
  induction o using Nat.strongRecOn with
  | ind o ih =>
    intro n j m ho hon hn hj hm
    obtain ⟨n, rfl⟩ : ∃ k, n = k + 1 := ⟨n - 1, by omega⟩
    obtain ⟨m, rfl⟩ : ∃ k, m = k + 1 := ⟨m - 1, by omega⟩
    have hge : ¬ ((1024 : Int32) ≤ nI j) := fun q => by
      have := (qI_le (a := 1024) (b := j) (by decide) (by omega)).mp q
      omega
    rw [F_O_find_6, if_neg hge]
    by_cases h0 : o = 0
    · rw [if_pos ((h.pos ho).mpr h0)]
      refine ⟨0, zp0, rfl, Nat.zero_le _, zPw1_zero h.2.2.2.1, Or.inl rfl, Or.inl rfl, Or.inl ⟨?_, rfl, rfl⟩⟩
      rw [zLu, if_pos h0]
    · rw [if_neg (fun q => h0 ((h.pos ho).mp q))]
      have ho := ho.resolve_left h0
      obtain ⟨p, q1, q2, q3, q4, q5⟩ := h.own ho k
      rw [r_fo h ho, zb_some]
      rcases q5 with ⟨q5, q6, q7⟩ | ⟨q5, q6, q7⟩
      · rw [q6, if_pos (show nI 0 = 0 from rfl), r_proto h.ok (h.chain ho).2.2.1 (h.obj ho), zb_some]
        have hp := (hW.2.2.2.1 o (by omega) hon).1
        have e1 : nI j + 1 = nI (j + 1) := (nI_succ j).symm
        rw [e1]
        obtain ⟨b, p2, w1, w2, w3, w4, w5, w6⟩ := ih (oP (gO σ o)) hp n (j + 1) m (h.2.2.2.2.2.2.1 o ho).1 (by omega) (by omega) (by omega) (by omega)
        refine ⟨b, p2, w1, w2, w3, w4, w5, ?_⟩
        rw [zLu, if_neg h0, q5]
        exact w6
      · rw [if_neg (fun q => q6 ((qI_eq0 (by omega)).mp q))]
        refine ⟨_, p, rfl, q1, q2, q3, q4, Or.inr ⟨?_, q6⟩⟩
        rw [zLu, if_neg h0, q5]
/-- lookup from a root's object -/
theorem r_find (h : zCm σ lv β π nb FL mk s) (hW : zWf σ) (k : Int64) {o : Nat} (ho : o = 0 ∨ o ∈ lv) (hon : o < gn σ) :
    ∃ b p, F_O_find (nI (β o)) k s = some (nI b, s) ∧ b ≤ nb ∧ zPw1 s β b p ∧ (kO p = 0 ∨ kO p ∈ lv) ∧ (kS p = 0 ∨ kS p ∈ lv) ∧ ((zLu σ k 600 o = none ∧ b = 0 ∧ p = zp0) ∨ (zLu σ k 600 o = some p ∧ b ≠ 0)) :=
  r_fnd h hW k o zFuel 0 600 ho hon (by have := hW.2.1; rw [zFuel_eq]; omega) (by have := hW.2.1; omega) (by have := hW.2.1; omega)
/-- a property's value is given as the result -/
theorem x_give (h : zXr σ lv β π nb FL mk s) {b : Nat} {p : zPr} (hb : b ≤ nb) (hp : zPw1 s β b p) (ho : kO p = 0 ∨ kO p ∈ lv) : ∃ s2, F_X_giveValue (nI b) s = some ((), s2) ∧ zXr (zRs σ (kD p) (kN p) (kO p)) lv β π nb FL mk s2 ∧ zPw1 s2 β b p ∧ zKM s s2 ∧ gE s2 = gE s := by
  have e : ∀ (x : Int32) (s : zSt), F_M_keep (25 : Int32) x s = some ((), sA s 0 (upd (gA s 0) 25 x)) := fun x s => x_keep (i := 25) (by decide) x s
  have ok1 : zOk nb (sI s 1 (kD p)) := h.1.ok
  have ok2 : zOk nb (sJ (sI s 1 (kD p)) 1 (kN p)) := h.1.ok
  have hp1 : zPw1 (sI s 1 (kD p)) β b p := hp
  have hp2 : zPw1 (sJ (sI s 1 (kD p)) 1 (kN p)) β b p := hp
  unfold F_X_giveValue
  rw [r_kind h.1.ok hb hp, zb_some, r_num ok1 hb hp1, zb_some, r_obj ok2 hb hp2, zb_some, e, zb_some]
  have h5 : zCm σ lv β π nb FL mk (sJ (sI s 1 (kD p)) 1 (kN p)) := h.1.other (t := sJ (sI s 1 (kD p)) 1 (kN p)) rfl (fun j a c => by rw [gI_sJ, gI_sI, if_neg (by omega)]) rfl rfl rfl rfl
  exact ⟨_, rfl, ⟨h5.keep (i := 25) (by decide) ho rfl (fun _ => rfl), by simp [zb_some, zt_inl, zt_inr, zc_inl, zc_inr, gI_sI, gJ_sJ, gA_sA, gB_sB, gI_sJ, gI_sA, gI_sB, gI_sN, gI_sE, gJ_sI, gJ_sA, gJ_sB, gJ_sN, gJ_sE, gA_sI, gA_sJ, gA_sB, gA_sN, gA_sE, gB_sI, gB_sJ, gB_sA, gB_sN, gB_sE, gN_sI, gN_sJ, gN_sA, gN_sB, gN_sN, gN_sE, gE_sI, gE_sJ, gE_sA, gE_sB, gE_sN, gE_sE, gI_zpush, gJ_zpush, gA_zpush, gB_zpush, gN_zpush, gE_zpush, h.2.1, gPK, zRs], by simp [zb_some, zt_inl, zt_inr, zc_inl, zc_inr, gI_sI, gJ_sJ, gA_sA, gB_sB, gI_sJ, gI_sA, gI_sB, gI_sN, gI_sE, gJ_sI, gJ_sA, gJ_sB, gJ_sN, gJ_sE, gA_sI, gA_sJ, gA_sB, gA_sN, gA_sE, gB_sI, gB_sJ, gB_sA, gB_sN, gB_sE, gN_sI, gN_sJ, gN_sA, gN_sB, gN_sN, gN_sE, gE_sI, gE_sJ, gE_sA, gE_sB, gE_sN, gE_sE, gI_zpush, gJ_zpush, gA_zpush, gB_zpush, gN_zpush, gE_zpush, h.2.2.1, gPN, zRs], by simp [zb_some, zt_inl, zt_inr, zc_inl, zc_inr, gI_sI, gJ_sJ, gA_sA, gB_sB, gI_sJ, gI_sA, gI_sB, gI_sN, gI_sE, gJ_sI, gJ_sA, gJ_sB, gJ_sN, gJ_sE, gA_sI, gA_sJ, gA_sB, gA_sN, gA_sE, gB_sI, gB_sJ, gB_sA, gB_sN, gB_sE, gN_sI, gN_sJ, gN_sA, gN_sB, gN_sN, gN_sE, gE_sI, gE_sJ, gE_sA, gE_sB, gE_sN, gE_sE, gI_zpush, gJ_zpush, gA_zpush, gB_zpush, gN_zpush, gE_zpush, gRK, zRs], by simp [zb_some, zt_inl, zt_inr, zc_inl, zc_inr, gI_sI, gJ_sJ, gA_sA, gB_sB, gI_sJ, gI_sA, gI_sB, gI_sN, gI_sE, gJ_sI, gJ_sA, gJ_sB, gJ_sN, gJ_sE, gA_sI, gA_sJ, gA_sB, gA_sN, gA_sE, gB_sI, gB_sJ, gB_sA, gB_sN, gB_sE, gN_sI, gN_sJ, gN_sA, gN_sB, gN_sN, gN_sE, gE_sI, gE_sJ, gE_sA, gE_sB, gE_sN, gE_sE, gI_zpush, gJ_zpush, gA_zpush, gB_zpush, gN_zpush, gE_zpush, gRN, zRs]⟩, hp, ((zKM.sI s (k := 1) (by decide) _).tr (zKM.sJ _ (k := 1) (by decide) _)).tr (zKM.sA _ _), rfl⟩
/-- an object, or none, is given as the result -/
theorem x_giveO (h : zXr σ lv β π nb FL mk s) {o : Nat} (ho : o = 0 ∨ o ∈ lv) : ∃ s2, F_X_giveObject (nI (β o)) s = some ((), s2) ∧ zXr (zRs σ (if o = 0 then 0 else 5) 0 o) lv β π nb FL mk s2 ∧ zKM s s2 ∧ gE s2 = gE s := by
  have e : ∀ (x : Int32) (s : zSt), F_M_keep (25 : Int32) x s = some ((), sA s 0 (upd (gA s 0) 25 x)) := fun x s => x_keep (i := 25) (by decide) x s
  have main : ∀ y : Int32, ∃ s2, F_X_giveObject_10 (nI (β o)) y s = some ((), s2) ∧ zXr (zRs σ y 0 o) lv β π nb FL mk s2 ∧ zKM s s2 ∧ gE s2 = gE s := by
    intro y
    unfold F_X_giveObject_10
    rw [e, zb_some]
    have h5 : zCm σ lv β π nb FL mk (sJ (sI s 1 y) 1 0) := h.1.other (t := sJ (sI s 1 y) 1 0) rfl (fun j a c => by rw [gI_sJ, gI_sI, if_neg (by omega)]) rfl rfl rfl rfl
    exact ⟨_, rfl, ⟨h5.keep (i := 25) (by decide) ho rfl (fun _ => rfl), by simp [zb_some, zt_inl, zt_inr, zc_inl, zc_inr, gI_sI, gJ_sJ, gA_sA, gB_sB, gI_sJ, gI_sA, gI_sB, gI_sN, gI_sE, gJ_sI, gJ_sA, gJ_sB, gJ_sN, gJ_sE, gA_sI, gA_sJ, gA_sB, gA_sN, gA_sE, gB_sI, gB_sJ, gB_sA, gB_sN, gB_sE, gN_sI, gN_sJ, gN_sA, gN_sB, gN_sN, gN_sE, gE_sI, gE_sJ, gE_sA, gE_sB, gE_sN, gE_sE, gI_zpush, gJ_zpush, gA_zpush, gB_zpush, gN_zpush, gE_zpush, h.2.1, gPK, zRs], by simp [zb_some, zt_inl, zt_inr, zc_inl, zc_inr, gI_sI, gJ_sJ, gA_sA, gB_sB, gI_sJ, gI_sA, gI_sB, gI_sN, gI_sE, gJ_sI, gJ_sA, gJ_sB, gJ_sN, gJ_sE, gA_sI, gA_sJ, gA_sB, gA_sN, gA_sE, gB_sI, gB_sJ, gB_sA, gB_sN, gB_sE, gN_sI, gN_sJ, gN_sA, gN_sB, gN_sN, gN_sE, gE_sI, gE_sJ, gE_sA, gE_sB, gE_sN, gE_sE, gI_zpush, gJ_zpush, gA_zpush, gB_zpush, gN_zpush, gE_zpush, h.2.2.1, gPN, zRs], by simp [zb_some, zt_inl, zt_inr, zc_inl, zc_inr, gI_sI, gJ_sJ, gA_sA, gB_sB, gI_sJ, gI_sA, gI_sB, gI_sN, gI_sE, gJ_sI, gJ_sA, gJ_sB, gJ_sN, gJ_sE, gA_sI, gA_sJ, gA_sB, gA_sN, gA_sE, gB_sI, gB_sJ, gB_sA, gB_sN, gB_sE, gN_sI, gN_sJ, gN_sA, gN_sB, gN_sN, gN_sE, gE_sI, gE_sJ, gE_sA, gE_sB, gE_sN, gE_sE, gI_zpush, gJ_zpush, gA_zpush, gB_zpush, gN_zpush, gE_zpush, gRK, zRs], by simp [zb_some, zt_inl, zt_inr, zc_inl, zc_inr, gI_sI, gJ_sJ, gA_sA, gB_sB, gI_sJ, gI_sA, gI_sB, gI_sN, gI_sE, gJ_sI, gJ_sA, gJ_sB, gJ_sN, gJ_sE, gA_sI, gA_sJ, gA_sB, gA_sN, gA_sE, gB_sI, gB_sJ, gB_sA, gB_sN, gB_sE, gN_sI, gN_sJ, gN_sA, gN_sB, gN_sN, gN_sE, gE_sI, gE_sJ, gE_sA, gE_sB, gE_sN, gE_sE, gI_zpush, gJ_zpush, gA_zpush, gB_zpush, gN_zpush, gE_zpush, gRN, zRs]⟩, ((zKM.sI s (k := 1) (by decide) _).tr (zKM.sJ _ (k := 1) (by decide) _)).tr (zKM.sA _ _), rfl⟩
  unfold F_X_giveObject
  by_cases h0 : o = 0
  · rw [if_pos ((h.1.pos ho).mpr h0), if_pos h0]; exact main 0
  · rw [if_neg (fun q => h0 ((h.1.pos ho).mp q)), if_neg h0]; exact main 5
def S_get (σ : zSg) (r : Int32) (k : Int64) : (Int32 ⊕ Nat) × zSg := if zH σ r ≠ 0 ∧ zKy k then
    (.inl (bI (kF ((zLu σ k 600 (zH σ r)).getD zp0) &&& 64 ≠ 0 ∧ kD ((zLu σ k 600 (zH σ r)).getD zp0) = 5)), zRs σ (kD ((zLu σ k 600 (zH σ r)).getD zp0)) (kN ((zLu σ k 600 (zH σ r)).getD zp0)) (kO ((zLu σ k 600 (zH σ r)).getD zp0))) else (.inr 0, σ)
theorem X_get (h : zXs σ mk rc rl s) (hW : zWf σ) (r : Int32) (k : Int64) : zXo (F_X_get r k s) (S_get σ r k) mk rc rl s := by
  obtain ⟨lv, β, π, nb, FL, h1, h2, h3⟩ := id h
  unfold F_X_get F_X_get_50 F_X_get_51 S_get
  rw [x_hwk h1.1]
  by_cases hc : zH σ r ≠ 0 ∧ zKy k
  · rw [if_pos hc, zt_inl, if_pos hc]
    obtain ⟨b, p, w1, w2, w3, w4, w5, w6⟩ := r_find h1.1 hW k (h1.1.root r) (hW.root r)
    obtain ⟨s2, g1, g2, g3, g4, g5⟩ := x_give h1 w2 w3 w4
    have hp : (zLu σ k 600 (zH σ r)).getD zp0 = p := by
      rcases w6 with ⟨q1, -, q2⟩ | ⟨q1, -⟩
      · rw [q1, q2]; rfl
      · rw [q1]; rfl
    rw [hp, w1, zb_some, g1, zb_some, r_acc g2.1.ok w2 g3, zb_some, g2.2.2.2.1]
    refine zXo.ok (s2 := s2) g5 h2 h3 g2 ?_ g4
    show (if bI _ = 0 then _ else (if kD p = 5 then _ else _)) = _
    by_cases ha : kF p &&& 64 = 0
    · rw [bI_f (show ¬ (kF p &&& 64 ≠ 0) from fun q => q ha), if_pos rfl, bI_f (show ¬ (kF p &&& 64 ≠ 0 ∧ kD p = 5) from fun q => q.1 ha)]
    · rw [bI_t (show kF p &&& 64 ≠ 0 from ha), if_neg (by decide)]
      by_cases hd : kD p = 5
      · rw [if_pos hd, bI_t (show kF p &&& 64 ≠ 0 ∧ kD p = 5 from ⟨ha, hd⟩)]
      · rw [if_neg hd, bI_f (show ¬ (kF p &&& 64 ≠ 0 ∧ kD p = 5) from fun q => hd q.2)]
  · rw [if_neg hc, zt_inr, if_neg hc]
    exact zXo.thr h rfl
def S_own (σ : zSg) (r : Int32) (k : Int64) : (Int32 ⊕ Nat) × zSg := if zH σ r ≠ 0 ∧ zKy k then
    (.inl (match zG k (oL (gO σ (zH σ r))) with | none => -1 | some p => kF p), zRs σ (kD ((zG k (oL (gO σ (zH σ r)))).getD zp0)) (kN ((zG k (oL (gO σ (zH σ r)))).getD zp0)) (kO ((zG k (oL (gO σ (zH σ r)))).getD zp0))) else (.inr 0, σ)
theorem X_own (h : zXs σ mk rc rl s) (r : Int32) (k : Int64) : zXo (F_X_own r k s) (S_own σ r k) mk rc rl s := by
  obtain ⟨lv, β, π, nb, FL, h1, h2, h3⟩ := id h
  have hnb := h1.1.ok.2
  unfold F_X_own F_X_own_40 S_own
  rw [x_hwk h1.1]
  by_cases hc : zH σ r ≠ 0 ∧ zKy k
  · rw [if_pos hc, zt_inl, if_pos hc]
    have ho := (h1.1.root r).resolve_left hc.1
    obtain ⟨p, w2, w3, w4, w5, w6⟩ := h1.1.own ho k
    obtain ⟨s2, g1, g2, g3, g4, g5⟩ := x_give h1 w2 w3 w4
    rw [r_fo h1.1 ho, zb_some, g1, zb_some]
    rcases w6 with ⟨q1, q2, q3⟩ | ⟨q1, q2, -⟩
    · rw [q1, q2, if_pos (show nI 0 = 0 from rfl)]
      rw [q3] at g2
      exact zXo.ok (s2 := s2) g5 h2 h3 g2 rfl g4
    · rw [q1, if_neg (fun q => q2 ((qI_eq0 (by omega)).mp q)), r_att g2.1.ok w2 g3, zb_some]
      exact zXo.ok (s2 := s2) g5 h2 h3 g2 rfl g4
  · rw [if_neg hc, zt_inr, if_neg hc]
    exact zXo.thr h rfl
def S_setter (σ : zSg) (r : Int32) (k : Int64) (q : Int32) : (Int32 ⊕ Nat) × zSg := if (zH σ r ≠ 0 ∧ zKy k) ∧ zV q then
    (if kS ((zG k (oL (gO σ (zH σ r)))).getD zp0) = 0 then (.inl 0, σ) else (.inl 1, zR σ (rN q) (kS ((zG k (oL (gO σ (zH σ r)))).getD zp0)))) else (.inr 0, σ)
theorem X_setter (h : zXs σ mk rc rl s) (r : Int32) (k : Int64) (q : Int32) : zXo (F_X_setter r k q s) (S_setter σ r k q) mk rc rl s := by
  obtain ⟨lv, β, π, nb, FL, h1, h2, h3⟩ := id h
  unfold F_X_setter S_setter
  rw [x_hwk h1.1]
  by_cases hc : zH σ r ≠ 0 ∧ zKy k
  · rw [if_pos hc, zt_inl, x_need]
    by_cases hq : zV q
    · rw [if_pos hq, zt_inl, if_pos (show (zH σ r ≠ 0 ∧ zKy k) ∧ zV q from ⟨hc, hq⟩)]
      have ho := (h1.1.root r).resolve_left hc.1
      obtain ⟨p, w2, w3, w4, w5, w6⟩ := h1.1.own ho k
      have hp : (zG k (oL (gO σ (zH σ r)))).getD zp0 = p := by
        rcases w6 with ⟨q1, -, q2⟩ | ⟨q1, -⟩
        · rw [q1, q2]; rfl
        · rw [q1]; rfl
      rw [hp, r_fo h1.1 ho, zb_some, r_set h1.1.ok w2 w3, zb_some]
      by_cases h0 : kS p = 0
      · rw [if_pos ((h1.1.pos w5).mpr h0), if_pos h0]
        exact zXo.ok (s2 := s) rfl h2 h3 h1 rfl (zKM.rf s)
      · rw [if_neg (fun z => h0 ((h1.1.pos w5).mp z)), if_neg h0, x_keepr hq, zb_some]
        exact zXo.ok (s2 := sA s 0 (upd (gA s 0) (rN q) (nI (β (kS p))))) rfl h2 h3 ⟨h1.1.keep (by have := (zV_nI hq).2; omega) w5 rfl (fun _ => rfl), h1.2⟩ rfl (zKM.sA _ _)
    · rw [if_neg hq, zt_inr, if_neg (fun z => hq z.2)]
      exact zXo.thr h rfl
  · rw [if_neg hc, zt_inr, if_neg (fun z => hc z.1)]
    exact zXo.thr h rfl
def S_has (σ : zSg) (r : Int32) (k : Int64) : (Int32 ⊕ Nat) × zSg := if zH σ r ≠ 0 ∧ zKy k then (.inl (bI ((zLu σ k 600 (zH σ r)).isSome = true)), σ) else (.inr 0, σ)
theorem X_has (h : zXs σ mk rc rl s) (hW : zWf σ) (r : Int32) (k : Int64) : zXo (F_X_has r k s) (S_has σ r k) mk rc rl s := by
  obtain ⟨lv, β, π, nb, FL, h1, h2, h3⟩ := id h
  have hnb := h1.1.ok.2
  unfold F_X_has F_X_has_22 S_has
  rw [x_hwk h1.1]
  by_cases hc : zH σ r ≠ 0 ∧ zKy k
  · rw [if_pos hc, zt_inl, if_pos hc]
    obtain ⟨b, p, w1, w2, w3, w4, w5, w6⟩ := r_find h1.1 hW k (h1.1.root r) (hW.root r)
    rw [w1, zb_some]
    refine zXo.ok (s2 := s) rfl h2 h3 h1 ?_ (zKM.rf s)
    rcases w6 with ⟨q1, q2, -⟩ | ⟨q1, q2⟩
    · rw [q1, q2, if_pos (show nI 0 = 0 from rfl), if_pos z_nar0]; rfl
    · rw [q1, if_neg (fun q => q2 ((qI_eq0 (by omega)).mp q)), if_pos z_nar1]; rfl
  · rw [if_neg hc, zt_inr, if_neg hc]
    exact zXo.thr h rfl
def S_keys (σ : zSg) (r : Int32) : (Int32 ⊕ Nat) × zSg := if zH σ r ≠ 0 then (.inl (nI (oL (gO σ (zH σ r))).length), σ) else (.inr 0, σ)
theorem X_keys (h : zXs σ mk rc rl s) (r : Int32) : zXo (F_X_keys r s) (S_keys σ r) mk rc rl s := by
  obtain ⟨lv, β, π, nb, FL, h1, h2, h3⟩ := id h
  unfold F_X_keys S_keys
  rw [x_held h1.1]
  by_cases hc : zH σ r ≠ 0
  · rw [if_pos hc, zt_inl, if_pos hc]
    have ho := (h1.1.root r).resolve_left hc
    obtain ⟨q1, q2, q3, q4, q5⟩ := h1.1.chain ho
    unfold F_O_count
    rw [r_first h1.1.ok q3 (h1.1.obj ho), zb_some]
    have e := r_count h1.1.ok (π (zH σ r)) _ zFuel 0 0 (h1.1.obj ho).2.2.2.2 q1 (by have := q1.2; omega) (by have := q1.2; rw [zFuel_eq]; omega)
    rw [show (0 : Int32) = nI 0 from rfl, e, zb_some, Nat.zero_add, zPA_len (h1.1.obj ho).2.2.2.2]
    exact zXo.ok (s2 := s) rfl h2 h3 h1 rfl (zKM.rf s)
  · rw [if_neg hc, zt_inr, if_neg hc]
    exact zXo.thr h rfl
theorem zPA_nth {s : zSt} {β : Nat → Nat} : ∀ {bs : List Nat} {ps : List zPr} (k : Nat), zPA s β bs ps → (bs[k]? = none ∧ ps[k]? = none) ∨ ∃ b p, bs[k]? = some b ∧ ps[k]? = some p ∧ zPw1 s β b p := by
  intro bs
  induction bs with
  | nil => intro ps k h; cases ps with
    | nil => exact Or.inl ⟨rfl, rfl⟩
    | cons p ps => exact h.elim
  | cons b bs ih => intro ps k h; cases ps with
    | nil => exact h.elim
    | cons p ps => cases k with
      | zero => exact Or.inr ⟨b, p, rfl, rfl, h.2.1⟩
      | succ k => exact ih k h.2.2
def S_key (σ : zSg) (r k : Int32) : (Int64 ⊕ Nat) × zSg := if zH σ r ≠ 0 ∧ 0 ≤ k then (match (oL (gO σ (zH σ r)))[rN k]? with | none => (.inr 0, σ) | some p => (.inl (kK p), σ)) else (.inr 0, σ)
theorem X_key (h : zXs σ mk rc rl s) (r k : Int32) : zXo (F_X_key r k s) (S_key σ r k) mk rc rl s := by
  obtain ⟨lv, β, π, nb, FL, h1, h2, h3⟩ := id h
  have hnb := h1.1.ok.2
  unfold F_X_key S_key
  rw [x_held h1.1]
  by_cases hc : zH σ r = 0
  · rw [if_neg (fun q => q hc), zt_inr, if_neg (fun q => q.1 hc)]
    exact zXo.thr h rfl
  · rw [if_pos hc, zt_inl]
    have ho := (h1.1.root r).resolve_left hc
    obtain ⟨q1, q2, q3, q4, q5⟩ := h1.1.chain ho
    unfold F_O_nth F_O_nth_11
    by_cases hk : k < 0
    · rw [if_pos hk, zb_some, if_pos rfl, if_neg (fun q => absurd hk (Int32.not_lt.mpr q.2))]
      exact zXo.thr h rfl
    · rw [if_neg hk, if_pos (show zH σ r ≠ 0 ∧ 0 ≤ k from ⟨hc, Int32.not_lt.mp hk⟩)]
      have hk0 : (0 : Int) ≤ k.toInt := by simpa using Int32.le_iff_toInt_le.mp (Int32.not_lt.mp hk)
      have hkN : k.toInt = (rN k : Int) := by
        show k.toInt = ((k.toInt.toNat : Nat) : Int)
        omega
      have hlt := k.toInt_lt
      have hkI : k = nI (rN k) := by
        apply Int32.toInt_inj.mp
        rw [nI_toInt (by omega), hkN]
      by_cases hk2 : rN k < 1024
      · rw [if_pos (show k < 1024 from by rw [hkI]; exact (qI_lt (b := 1024) (by omega) (by decide)).mpr hk2), r_first h1.1.ok q3 (h1.1.obj ho), zb_some]
        have e := r_nth h1.1.ok hk2 (π (zH σ r)) _ zFuel 0 (h1.1.obj ho).2.2.2.2 q1 (Nat.zero_le _) (by rw [zFuel_eq]; omega)
        rw [← hkI] at e
        rw [show (0 : Int32) = nI 0 from rfl, e, zb_some, Nat.sub_zero]
        rcases zPA_nth (rN k) (h1.1.obj ho).2.2.2.2 with ⟨z1, z2⟩ | ⟨b, p, z1, z2, z3⟩
        · rw [List.getD_eq_getElem?_getD, z1, z2, Option.getD_none, if_pos rfl]
          exact zXo.thr h rfl
        · have hb := q1.1 b (List.mem_of_getElem? z1)
          rw [List.getD_eq_getElem?_getD, z1, z2, Option.getD_some, if_neg (fun q => by have := (qI_eq0 (a := b) (by omega)).mp q; omega), r_key h1.1.ok hb.2 z3, zb_some]
          exact zXo.ok (s2 := s) rfl h2 h3 h1 rfl (zKM.rf s)
      · rw [if_neg (show ¬ k < 1024 from fun q => by rw [hkI] at q; have := (qI_lt (a := rN k) (b := 1024) (by omega) (by decide)).mp q; omega), zb_some, if_pos rfl]
        have hl := zPA_len (h1.1.obj ho).2.2.2.2
        have := q1.2
        rw [List.getElem?_eq_none (by omega)]
        exact zXo.thr h rfl
def S_proto (σ : zSg) (r q : Int32) : (Unit ⊕ Nat) × zSg := if zH σ r ≠ 0 ∧ zV q then (.inl (), zR σ (rN q) (oP (gO σ (zH σ r)))) else (.inr 0, σ)
theorem X_proto (h : zXs σ mk rc rl s) (r q : Int32) : zXo (F_X_prototype r q s) (S_proto σ r q) mk rc rl s := by
  obtain ⟨lv, β, π, nb, FL, h1, h2, h3⟩ := id h
  unfold F_X_prototype S_proto
  rw [x_held h1.1]
  by_cases hc : zH σ r = 0
  · rw [if_neg (fun q => q hc), zt_inr, if_neg (fun q => q.1 hc)]
    exact zXo.thr h rfl
  · rw [if_pos hc, zt_inl, x_need]
    have ho := (h1.1.root r).resolve_left hc
    by_cases hq : zV q
    · rw [if_pos hq, zt_inl, if_pos (show zH σ r ≠ 0 ∧ zV q from ⟨hc, hq⟩), r_proto h1.1.ok (h1.1.chain ho).2.2.1 (h1.1.obj ho), zb_some, x_keepr hq, zb_some]
      exact zXo.ok (s2 := sA s 0 (upd (gA s 0) (rN q) (nI (β (oP (gO σ (zH σ r))))))) rfl h2 h3 ⟨h1.1.keep (by have := (zV_nI hq).2; omega) (h1.1.2.2.2.2.2.2.1 _ ho).1 rfl (fun _ => rfl), h1.2⟩ rfl (zKM.sA _ _)
    · rw [if_neg hq, zt_inr, if_neg (fun z => hq z.2)]
      exact zXo.thr h rfl
end ZX3

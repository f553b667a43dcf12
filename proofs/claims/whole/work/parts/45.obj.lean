/-! numbers as lengths; new objects -/
def zst0 : zSt := (fun _ => 0, fun _ => 0, fun _ _ => 0, fun _ _ => 0, 0, (0, .inl []))
def cAl (k : Int32) (b : Int64) : Int64 := match F_N_asLength k b zst0 with
  | some q => q.1
  | none => 0
def cNl (n : Int64) : Int32 := match F_JL_numberOfLeadingZeros n zst0 with
  | some q => q.1
  | none => 0
def cOf (n : Int64) : Int64 := if 0 < n then (((1023 : Int32) + (63 - cNl n)).toInt64 <<< ((52 : Int32).toInt64 &&& 63)) ||| ((n <<< (((52 : Int32) - (63 - cNl n)).toInt64 &&& 63)) &&& 4503599627370495) else 0
theorem n_whole (b : Int64) (s : zSt) : ∃ v, F_N_wholeLength b s = some (v, s) ∧ F_N_wholeLength b zst0 = some (v, zst0) := by
  unfold F_N_wholeLength F_N_wholeLength_14 F_N_wholeLength_36 F_N_wholeLength_80
  split
  · exact ⟨_, rfl, rfl⟩
  · split
    · exact ⟨_, rfl, rfl⟩
    · split
      · exact ⟨_, rfl, rfl⟩
      · split
        · split
          · exact ⟨_, rfl, rfl⟩
          · exact ⟨_, rfl, rfl⟩
        · exact ⟨_, rfl, rfl⟩
theorem n_asl (k : Int32) (b : Int64) (s : zSt) : F_N_asLength k b s = some (cAl k b, s) := by
  obtain ⟨v, h1, h2⟩ := n_whole b s
  unfold cAl F_N_asLength F_N_asLength_10 F_N_asLength_34
  rw [h1, h2]
  split
  · rfl
  · split
    · rfl
    · split
      · rfl
      · split <;> rfl
theorem n_nli (x : Int32) (s : zSt) : ∃ v, F_JI_numberOfLeadingZeros x s = some (v, s) ∧ F_JI_numberOfLeadingZeros x zst0 = some (v, zst0) := by
  have h61 : ∀ a b : Int32, ∃ v, F_JI_numberOfLeadingZeros_61 a b s = some (v, s) ∧ F_JI_numberOfLeadingZeros_61 a b zst0 = some (v, zst0) := by
    intro a b
    unfold F_JI_numberOfLeadingZeros_61 F_JI_numberOfLeadingZeros_73
    split <;> exact ⟨_, rfl, rfl⟩
  have h48 : ∀ a b : Int32, ∃ v, F_JI_numberOfLeadingZeros_48 a b s = some (v, s) ∧ F_JI_numberOfLeadingZeros_48 a b zst0 = some (v, zst0) := by
    intro a b
    unfold F_JI_numberOfLeadingZeros_48
    split <;> exact h61 _ _
  have h33 : ∀ a b : Int32, ∃ v, F_JI_numberOfLeadingZeros_33 a b s = some (v, s) ∧ F_JI_numberOfLeadingZeros_33 a b zst0 = some (v, zst0) := by
    intro a b
    unfold F_JI_numberOfLeadingZeros_33
    split <;> exact h48 _ _
  unfold F_JI_numberOfLeadingZeros F_JI_numberOfLeadingZeros_14
  split
  · split <;> exact h33 _ _
  · split <;> exact ⟨_, rfl, rfl⟩
theorem n_nlz (n : Int64) (s : zSt) : F_JL_numberOfLeadingZeros n s = some (cNl n, s) := by
  obtain ⟨v, h1, h2⟩ := n_nli n.toInt32 s
  unfold cNl F_JL_numberOfLeadingZeros F_JL_numberOfLeadingZeros_25
  split
  · rw [h1, h2]; rfl
  · obtain ⟨w, k1, k2⟩ := n_nli ((n.toUInt64 >>> ((32 : Int32).toInt64.toUInt64 &&& Int64.toUInt64 63)).toInt64).toInt32 s
    rw [k1, k2]
    rfl
theorem n_of (n : Int64) (s : zSt) : F_N_ofLength n s = some (cOf n, s) := by
  unfold F_N_ofLength cOf
  by_cases h : 0 < n
  · rw [if_pos ((lg_cmp_gt _ _).mpr h), if_pos h, n_nlz, zb_some]
  · rw [if_neg (fun q => h ((lg_cmp_gt _ _).mp q)), if_neg h]
theorem cOf_zero : cOf 0 = 0 := rfl
/-- the length of a new array -/
def zl0 : zPr := (-1, 2, 4, 0, 0, 0)
def zNew (σ : zSg) (i pr : Nat) (arr : Bool) : zSg := (gn σ + 1, fun j => if j = gn σ then (pr, arr, true, if arr then [zl0] else []) else gO σ j, fun j => if j = i then gn σ else gR σ j, σ.2.2.2)
def S_object (σ : zSg) (r p a : Int32) : (Unit ⊕ Nat) × zSg := if zV r ∧ (p = -1 ∨ zH σ p ≠ 0) then (.inl (), zNew σ (rN r) (zH σ p) (decide (a ≠ 0))) else (.inr 0, σ)
theorem X_object {σ : zSg} {mk rc rl : Nat} {s : zSt} (h : zXs σ mk rc rl s) (hW : zWf σ) (hmk : mk + 1 < 1024) (r p a : Int32) : zXo (F_X_object r p a s) (S_object σ r p a) (mk + 2) rc rl s := by
  obtain ⟨lv0, β, π, nb, FL, h1, h2, h3⟩ := id h
  unfold F_X_object S_object
  rw [x_need]
  by_cases hr : zV r
  · rw [if_pos hr, zt_inl, x_heldOr h1.1]
    by_cases hp : p = -1 ∨ zH σ p ≠ 0
    · rw [if_pos hp, zt_inl, if_pos (show zV r ∧ (p = -1 ∨ zH σ p ≠ 0) from ⟨hr, hp⟩)]
      have hfields := h1.2
      obtain ⟨h1, hbd⟩ := h1.1.bound hW
      generalize lv0.filter (fun o => decide (o < gn σ)) = lv at h1 hbd
      have hrN := (zV_nI hr).2
      have hPlt := hW.root p
      -- the object's block
      obtain ⟨s1, FL1, nb1, b1, lv1, m1, m2, m3, m4, m5, m6, m7, m8, m9, m10, m11, m12⟩ := z_mkc h1 (by omega)
      have hnb1 := m2.ok.2
      have hb10 : b1 ≠ 0 := by omega
      have hP1 : zH σ p = 0 ∨ zH σ p ∈ lv1 := by
        unfold zH
        split
        · rename_i hv
          exact m4 _ (by have := (zV_nI hv).2; omega)
        · exact Or.inl rfl
      have hn1 : gn σ ∉ lv1 := fun q => by have := hbd _ (m3 _ q); omega
      have hn0 : gn σ ≠ 0 := by have := hW.1; omega
      unfold F_O_makeObject F_O_makeObject_37
      rw [m1, zb_some, qI_long (by have := m2.live hP1; omega), zsw1 m2.ok m5.2, zb_some, zsw4 (zOk_sW m2.ok _ _ _) m5.2, zb_some]
      generalize hs3 : sW (sW s1 b1 1 (nL (β (zH σ p)))) b1 4 1 = s3
      have hWd : ∀ c f, f < 8 → Wd s3 c f = if c = b1 ∧ f = 4 then 1 else if c = b1 ∧ f = 1 then nL (β (zH σ p)) else Wd s1 c f := by
        intro c f hf
        rw [← hs3, Wd_sW hb10 (by decide) hf]
        split
        · rfl
        · rw [Wd_sW hb10 (by decide) hf]
      have hsame : zSame s1 s3 := by rw [← hs3]; exact (zSame.sW _ _ _ _).tr (zSame.sW _ _ _ _)
      have hI3 : ∀ k, gI s3 k = gI s1 k := fun k => by rw [← hs3, sW_I, sW_I]
      have hN3 : gN s3 = gN s1 := by rw [← hs3, sW_N, sW_N]
      have hE3 : gE s3 = gE s1 := by rw [← hs3, sW_E, sW_E]
      have hA3 : gA s3 0 = gA s1 0 := by rw [← hs3, sW_A, sW_A]
      -- as a plain object without properties
      have hx : zOA s3 (fun j => if j = gn σ then b1 else β j) b1 [] (zH σ p, false, true, []) := by
        refine ⟨?_, ?_, ?_, ?_, trivial⟩
        · rw [hWd b1 1 (by decide), if_neg (by omega), if_pos ⟨rfl, rfl⟩]
          show nL (β (zH σ p)) = nL (if zH σ p = gn σ then b1 else β (zH σ p))
          rw [if_neg (by omega)]
        · rw [hWd b1 2 (by decide), if_neg (by omega), if_neg (by omega), m8 2 (by decide)]; rfl
        · rw [hWd b1 3 (by decide), if_neg (by omega), if_neg (by omega), m8 3 (by decide)]; rfl
        · rw [hWd b1 4 (by decide), if_pos ⟨rfl, rfl⟩]; rfl
      have hC3 : ∀ σ2 : zSg, (∀ j, gO σ2 j = if j = gn σ then (zH σ p, false, true, []) else gO σ j) → gR σ2 = gR σ → zCm σ2 (gn σ :: lv1) (fun j => if j = gn σ then b1 else β j) (fun j => if j = gn σ then [] else π j) nb1 FL1 (mk + 1) s3 := by
        intro σ2 g1 g2
        exact m2.addO hn1 hn0 m5 m6 m7 (fun k _ _ => hI3 k) hN3 hA3 (fun c f hf hc => by rw [hWd c f hf, if_neg (by omega), if_neg (by omega)]) (by rw [hWd b1 0 (by decide), if_neg (by omega), if_neg (by omega), m8 0 (by decide)]) hx hP1 (fun p hp => by cases hp) (fun i hi => by have := hW.2.2.1 i hi; omega) g1 g2
      by_cases ha : a = 0
      · rw [if_pos ha, zb_some, if_neg (fun q => by have := (qI_eq0 (a := b1) (by omega)).mp q; omega), x_keepr hr, zb_some]
        have hC := hC3 (gn σ + 1, fun j => if j = gn σ then (zH σ p, false, true, []) else gO σ j, gR σ, σ.2.2.2) (fun _ => rfl) rfl
        have hK := hC.keep (i := rN r) (o := gn σ) (σ2 := zNew σ (rN r) (zH σ p) (decide (a ≠ 0))) (by omega) (Or.inr List.mem_cons_self) (by
          rw [show decide (a ≠ 0) = false from decide_eq_false (fun q => q ha)]
          rfl) (fun _ => rfl)
        simp only [if_true] at hK
        refine ⟨_, rfl, ⟨_, _, _, nb1, FL1, ⟨⟨⟨hK.1.1, hK.1.2.1, hK.1.2.2.1, hK.1.2.2.2.1, hK.1.2.2.2.2.1, by have := hK.1.2.2.2.2.2; omega⟩, hK.2⟩, ?_⟩, ?_, ?_⟩, ?_⟩
        · refine ⟨?_, ?_, ?_, ?_⟩
          · show gI s3 0 = _; rw [hI3, m9.1 0 (by decide)]; exact hfields.1
          · show gJ s3 0 = _; rw [hsame.2.1, m9.2.1]; exact hfields.2.1
          · show gI s3 1 = _; rw [hI3, m9.1 1 (by decide)]; exact hfields.2.2.1
          · show gJ s3 1 = _; rw [hsame.2.1, m9.2.1]; exact hfields.2.2.2
        · show zeC (gE s3) ≤ _; rw [hE3]; omega
        · show zeL (gE s3) ≤ _; rw [hE3]; omega
        · exact ((zKM.of m9).tr (zKM.of hsame)).tr (zKM.sA _ _)
      · rw [if_neg ha, if_neg (fun q => by have := (qI_eq0 (a := b1) (by omega)).mp q; omega)]
        have ek : ∀ (x : Int32) (s : zSt), F_M_keep (26 : Int32) x s = some ((), sA s 0 (upd (gA s 0) 26 x)) := fun x s => x_keep (i := 26) (by decide) x s
        rw [ek, zb_some]
        -- the fresh slot keeps it
        have hC := hC3 (gn σ + 1, fun j => if j = gn σ then (zH σ p, false, true, []) else gO σ j, gR σ, σ.2.2.2) (fun _ => rfl) rfl
        have hK := hC.keep (i := 26) (o := gn σ) (σ2 := (gn σ + 1, fun j => if j = gn σ then (zH σ p, false, true, []) else gO σ j, fun j => if j = 26 then gn σ else gR σ j, σ.2.2.2)) (by decide) (Or.inr List.mem_cons_self) rfl (fun _ => rfl)
        simp only [if_true] at hK
        generalize hs4 : sA s3 0 (upd (gA s3 0) 26 (nI b1)) = s4 at hK
        obtain ⟨s5, FL5, nb5, b5, lv5, n1, n2, n3, n4, n5, n6, n7, n8, n9, n10, n11, n12⟩ := z_mkc hK (by omega)
        have hnb5 := n2.ok.2
        have hb50 : b5 ≠ 0 := by omega
        rw [n1, zb_some, ek, zb_some, if_neg (fun q => by have := (qI_eq0 (a := b5) (by omega)).mp q; omega)]
        have hnl : gn σ ∈ lv5 := (n4 26 (by decide)).resolve_left (by show ¬ (if 26 = 26 then gn σ else gR σ 26) = 0; rw [if_pos rfl]; exact hn0)
        -- the slot is emptied
        have hK2 := n2.keep (i := 26) (o := 0) (σ2 := (gn σ + 1, fun j => if j = gn σ then (zH σ p, false, true, []) else gO σ j, gR σ, σ.2.2.2)) (by decide) (Or.inl rfl) rfl (fun j => by
          show gR σ j = if j = 26 then 0 else (if j = 26 then gn σ else gR σ j)
          by_cases hj : j = 26
          · rw [if_pos hj, hj]; exact hW.2.2.2.2.2.2
          · rw [if_neg hj, if_neg hj])
        have hz0 : (if 0 = gn σ then b1 else β 0) = 0 := n2.2.2.2.1
        rw [hz0] at hK2
        generalize hs6 : sA s5 0 (upd (gA s5 0) 26 (nI 0)) = s6 at hK2
        rw [show sA s5 0 (upd (gA s5 0) 26 0) = s6 from hs6]
        have hW6 : ∀ c f, Wd s6 c f = Wd s5 c f := fun c f => by rw [← hs6]; rfl
        have hok6 := hK2.ok
        have hb1n : b1 ≤ nb5 := by omega
        rw [zsw4 hok6 n5.2, zb_some, zsw5 (zOk_sW hok6 _ _ _) n5.2, zb_some]
        unfold F_O_writeLength
        rw [n_of, zb_some, cOf_zero]
        obtain ⟨s7, v1, v2, v3, v4, v5, v6, v7, v8⟩ := z_wv (s := sW (sW s6 b5 4 (-1)) b5 5 2) (zOk_sW (zOk_sW hok6 _ _ _) _ _ _) n5.1 n5.2 4 0 (c := 0) (by decide)
        have v1 : F_O_writeValue (nI b5) 4 0 0 (sW (sW s6 b5 4 (-1)) b5 5 2) = some ((), s7) := v1
        rw [v1, zb_some, zb_some]
        have hok7 : zOk nb5 s7 := v2.ok (zOk_sW (zOk_sW hok6 _ _ _) _ _ _)
        rw [qI_long (by omega), zsw2 hok7 hb1n, zb_some, zsw3 (zOk_sW hok7 _ _ _) hb1n, zb_some, zb_some, if_neg (fun q => by have := (qI_eq0 (a := b1) (by omega)).mp q; omega), x_keepr hr, zb_some]
        generalize hs8 : sW (sW s7 b1 2 (nL b5)) b1 3 (nL b5) = s8
        -- words of the last state
        have hb15 : b1 ≠ b5 := by
          intro e
          have : b1 ∈ zUs lv5 (fun j => if j = gn σ then b1 else β j) (fun j => if j = gn σ then [] else π j) := by
            have := (zUs_mem (β := fun j => if j = gn σ then b1 else β j) (π := fun j => if j = gn σ then [] else π j) hnl).1
            simpa using this
          exact n7 (e ▸ this)
        have q8 : ∀ c f, f < 8 → Wd s8 c f = if c = b1 ∧ f = 3 then nL b5 else if c = b1 ∧ f = 2 then nL b5 else Wd s7 c f := by
          intro c f hf
          rw [← hs8, Wd_sW hb10 (by decide) hf]
          split
          · rfl
          · rw [Wd_sW hb10 (by decide) hf]
        have q7 : ∀ c f, f < 8 → c ≠ b5 → Wd s7 c f = Wd s5 c f := by
          intro c f hf hc
          rw [v2.2.2.2.2 c f hf (Or.inl hc), Wd_sW hb50 (by decide) hf, if_neg (by omega), Wd_sW hb50 (by decide) hf, if_neg (by omega), hW6]
        have q70 : ∀ f, f < 2 → Wd s7 b5 f = 0 := by
          intro f hf
          rw [v2.2.2.2.2 b5 f (by omega) (Or.inr hf), Wd_sW hb50 (by decide) (by omega), if_neg (by omega), Wd_sW hb50 (by decide) (by omega), if_neg (by omega), hW6, n8 f (by omega)]
        rw [Wd_sW hb50 (by decide) (by decide), if_neg (by omega), Wd_sW hb50 (by decide) (by decide), if_neg (by omega), hW6, n8 3 (by decide)] at v4
        rw [Wd_sW hb50 (by decide) (by decide), if_neg (by omega), Wd_sW hb50 (by decide) (by decide), if_pos ⟨rfl, rfl⟩] at v5
        rw [Wd_sW hb50 (by decide) (by decide), if_pos ⟨rfl, rfl⟩] at v6
        have hobj := n2.obj hnl
        simp only [gO, if_true] at hobj
        obtain ⟨o1, o2, o3, o4, o5⟩ := hobj
        have hxx : zOA s8 (fun j => if j = gn σ then b1 else β j) b1 [b5] (zH σ p, true, true, [zl0]) := by
          refine ⟨?_, ?_, ?_, ?_, ?_, ⟨?_, ?_, ?_, ?_, ?_, ?_⟩, trivial⟩
          · rw [q8 b1 1 (by decide), if_neg (by omega), if_neg (by omega), q7 b1 1 (by decide) hb15]; exact o1
          · rw [q8 b1 2 (by decide), if_neg (by omega), if_pos ⟨rfl, rfl⟩]; rfl
          · rw [q8 b1 3 (by decide), if_pos ⟨rfl, rfl⟩]; rfl
          · rw [q8 b1 4 (by decide), if_neg (by omega), if_neg (by omega), q7 b1 4 (by decide) hb15]; exact o4
          · rw [q8 b5 1 (by decide), if_neg (by omega), if_neg (by omega), q70 1 (by decide)]; rfl
          · rw [q8 b5 2 (by decide), if_neg (by omega), if_neg (by omega), v3]
            show nL 0 = nL (if 0 = gn σ then b1 else β 0)
            rw [hz0]
          · rw [q8 b5 3 (by decide), if_neg (by omega), if_neg (by omega), v4]
            show 0 = nL (if 0 = gn σ then b1 else β 0)
            rw [hz0]; rfl
          · rw [q8 b5 4 (by decide), if_neg (by omega), if_neg (by omega), v5]; rfl
          · rw [q8 b5 5 (by decide), if_neg (by omega), if_neg (by omega), v6]; rfl
          · rw [q8 b5 6 (by decide), if_neg (by omega), if_neg (by omega), v7]; rfl
          · rw [q8 b5 7 (by decide), if_neg (by omega), if_neg (by omega), v8]; rfl
        have hI8 : ∀ k, gI s8 k = gI s5 k := fun k => by rw [← hs8, sW_I, sW_I, v2.2.2.2.1, sW_I, sW_I, ← hs6]; rfl
        have hsame8 : zSame s6 s8 := by
          rw [← hs8]
          exact (((zSame.sW s6 b5 4 (-1)).tr (zSame.sW _ b5 5 2)).tr v2.2.1).tr ((zSame.sW _ _ _ _).tr (zSame.sW _ _ _ _))
        have hE8 : gE s8 = gE s5 := by rw [← hs8, sW_E, sW_E, v2.2.2.1, sW_E, sW_E, ← hs6]; rfl
        have hN8 : gN s8 = gN s6 := by rw [← hs8, sW_N, sW_N, v2.1, sW_N, sW_N]
        have hπn : (fun j => if j = gn σ then ([] : List Nat) else π j) (gn σ) = [] ++ [] := by simp
        have hβn : (if gn σ = gn σ then b1 else β (gn σ)) = b1 := if_pos rfl
        have hF8 := hK2.updN (t := s8) (o := gn σ) (b := b5) (x := (zH σ p, true, true, [zl0])) (l1 := []) (l2 := []) hnl hπn n5 n6 n7 (fun k _ _ => by rw [hI8 k, ← hs6]; rfl) hN8 (hsame8.2.2.1 0)
          (fun c f hf hc hc2 => by
            have hcb1 : c ≠ b1 := fun e => hc2 (by rw [e]; exact List.mem_cons.mpr (Or.inl hβn.symm))
            rw [q8 c f hf, if_neg (by omega), if_neg (by omega), q7 c f hf hc, hW6])
          (fun c hc => by rw [q8 c 0 (by decide), if_neg (by omega), if_neg (by omega), q7 c 0 (by decide) hc, hW6]) (by rw [q8 b5 0 (by decide), if_neg (by omega), if_neg (by omega), q70 0 (by decide)]) (by rw [hβn]; exact hxx)
          (by
            have := (n2.2.2.2.2.2.2.1 _ hnl).1
            simp only [gO, if_true] at this
            exact this) (fun q hq => by
            have : q = zl0 := List.mem_singleton.mp hq
            rw [this]
            exact ⟨Or.inl rfl, Or.inl rfl⟩)
        have hK9 := hF8.keep (i := rN r) (o := gn σ) (σ2 := zNew σ (rN r) (zH σ p) (decide (a ≠ 0))) (by omega) (Or.inr hnl) (by
          rw [show decide (a ≠ 0) = true from decide_eq_true ha]
          funext j
          show (if j = gn σ then _ else gO σ j) = if j = gn σ then _ else (if j = gn σ then _ else gO σ j)
          by_cases hj : j = gn σ
          · rw [if_pos hj, if_pos hj]; rfl
          · rw [if_neg hj, if_neg hj, if_neg hj]) (fun _ => rfl)
        rw [hβn] at hK9
        refine ⟨_, rfl, ⟨_, _, _, nb5, FL5, ⟨hK9, ?_⟩, ?_, ?_⟩, ?_⟩
        · refine ⟨?_, ?_, ?_, ?_⟩
          · show gI s8 0 = _; rw [hI8, n9.1 0 (by decide), ← hs4]; show gI s3 0 = _; rw [hI3, m9.1 0 (by decide)]; exact hfields.1
          · show gJ s8 0 = _; rw [hsame8.2.1, ← hs6]; show gJ s5 0 = _; rw [n9.2.1, ← hs4]; show gJ s3 0 = _; rw [hsame.2.1, m9.2.1]; exact hfields.2.1
          · show gI s8 1 = _; rw [hI8, n9.1 1 (by decide), ← hs4]; show gI s3 1 = _; rw [hI3, m9.1 1 (by decide)]; exact hfields.2.2.1
          · show gJ s8 1 = _; rw [hsame8.2.1, ← hs6]; show gJ s5 1 = _; rw [n9.2.1, ← hs4]; show gJ s3 1 = _; rw [hsame.2.1, m9.2.1]; exact hfields.2.2.2
        · show zeC (gE s8) ≤ _
          rw [hE8]
          have e4 : gE s4 = gE s1 := by rw [← hs4]; exact hE3
          rw [e4] at n11
          omega
        · show zeL (gE s8) ≤ _
          rw [hE8]
          have e4 : gE s4 = gE s1 := by rw [← hs4]; exact hE3
          rw [e4] at n12
          omega
        · have k1 : zKM s s3 := (zKM.of m9).tr (zKM.of hsame)
          have k2 : zKM s3 s4 := by rw [← hs4]; exact zKM.sA _ _
          have k3 : zKM s5 s6 := by rw [← hs6]; exact zKM.sA _ _
          exact ((((k1.tr k2).tr (zKM.of n9)).tr k3).tr (zKM.of hsame8)).tr (zKM.sA _ _)
    · rw [if_neg hp, zt_inr, if_neg (fun z => hp z.2)]
      exact zXo.thr (h.mono (by omega) (Nat.le_refl _) (Nat.le_refl _)) rfl
  · rw [if_neg hr, zt_inr, if_neg (fun z => hr z.1)]
    exact zXo.thr (h.mono (by omega) (Nat.le_refl _) (Nat.le_refl _)) rfl

/-! Math.min, Arrays.copyOf, and the widening of the words, over any heap -/
theorem zg_min {X : zkX} {x y : Int32} (h : zkH) : zk_C X 1 m_JM_min [.int x, .int y] h (fun o => o = (.inl (some (.int (if y < x then y else x))), h)) := by
  refine zk_enter (lv := [(0, .int x), (1, .int y)]) rfl rfl ?_
  refine zi_iload_n rfl rfl ?_
  refine zi_iload_n rfl rfl ?_
  refine zi_icgt rfl (fun hc => ?_) (fun hc => ?_)
  · refine zi_iload_n rfl rfl ?_
    exact zi_ireturn rfl rfl (by rw [if_pos hc])
  · refine zi_iload_n rfl rfl ?_
    refine zi_goto rfl ?_
    exact zi_ireturn rfl rfl (by rw [if_neg hc])
theorem zk_cell_push {h : zkH} {a n : Nat} {e : zkE} {w : Option zkE} (hc : zk_cell h a = some e) : zk_cell (zk_push h n w) a = some e := by
  unfold zk_cell at hc ⊢
  have hlt : a < h.2.length := by
    rcases Nat.lt_or_ge a h.2.length with q | q
    · exact q
    · rw [List.getElem?_eq_none q] at hc; cases hc
  show (match (h.2 ++ [w])[a]? with | some (some e) => some e | _ => none) = some e
  rw [List.getElem?_append_left hlt]
  exact hc
theorem zk_cell_new (h : zkH) (n : Nat) (e : zkE) : zk_cell (zk_push h n (some e)) (zk_len h) = some e := by
  unfold zk_cell
  show (match (h.2 ++ [some e])[h.2.length]? with | some (some e) => some e | _ => none) = some e
  rw [List.getElem?_append_right (Nat.le_refl _), Nat.sub_self]
  rfl
theorem zk_arr_of {X : zkX} {h : zkH} {a : Nat} {e : zkE} (h0 : Nat.beq a 0 = false) (hc : zk_cell h a = some e) : zk_arr X h a = some e := by
  unfold zk_arr
  rw [h0]
  exact hc
theorem zg_copyOf {X : zkX} {h : zkH} {a N n : Nat} {f : Nat → Int64} (ha : Nat.beq a 0 = false) (hc : zk_cell h a = some (zcB N f)) (hN : N < n) (hn : n ≤ 1000000) : zk_C X 2 m_JA_copyOf [.ref a, .int (nI n)] h (fun o => o = (.inl (some (.ref (zk_len h))), (h.1 + n, h.2 ++ [some (zcB n (va_cpy f (fun _ => 0) 0 0 N))]))) := by
  have hn31 : n < 2 ^ 31 := by omega
  have hN31 : N < 2 ^ 31 := by omega
  have hne : ¬ nI n = Int32.ofNat N := fun e => by
    have h1 : (nI n).toNatClampNeg = (nI N).toNatClampNeg := by rw [e]; rfl
    rw [nI_clamp hn31, nI_clamp hN31] at h1
    omega
  have hlt : ¬ nI n < Int32.ofNat N := fun e => by
    have := (Int32.ofNat_lt_ofNat hn31 hN31).mp e
    omega
  have hcl : (0 : Int32).toNatClampNeg = 0 := by decide
  have hNc : (Int32.ofNat N).toNatClampNeg = N := nI_clamp hN31
  refine zk_enter (lv := [(0, .ref a), (1, .int (nI n))]) rfl rfl ?_
  refine zi_iload_n rfl rfl ?_
  refine zi_aload_n rfl rfl ?_
  refine zi_alen_l (v := Int32.ofNat N) rfl (zk_arr_of ha hc) rfl ?_
  refine zi_icneT rfl hne ?_
  refine zi_iload_n rfl rfl ?_
  refine zi_newarray (n := n) (e := zcB n (fun _ => 0)) rfl rfl hn rfl ?_
  refine zi_astore_n rfl rfl rfl ?_
  refine zi_aload_n rfl rfl ?_
  refine zi_iconst (v := (0 : Int32)) rfl rfl ?_
  refine zi_aload_n rfl rfl ?_
  refine zi_iconst (v := (0 : Int32)) rfl rfl ?_
  refine zi_aload_n rfl rfl ?_
  refine zi_alen_l (v := Int32.ofNat N) rfl (zk_arr_of ha (zk_cell_push hc)) rfl ?_
  refine zi_iload_n rfl rfl ?_
  refine zi_callS rfl rfl rfl rfl (zk_C.to (zk_C.up (by decide) (zg_min _)) (fun o ho => zk_K.okv ho ?_))
  rw [if_neg hlt]
  refine zi_arraycopy (n0 := N) (n1 := n) (f := f) (g := fun _ => 0) (h2 := (h.1 + n, h.2 ++ [some (zcB n (va_cpy f (fun _ => 0) 0 0 N))])) rfl rfl rfl (zk_cell_push hc) (zk_cell_new _ _ _) ?_ ?_ ?_
  · refine ⟨⟨by decide, by decide, ?_⟩, ?_, ?_, by decide⟩
    · have := (Int32.ofNat_le_ofNat (show 0 < 2 ^ 31 by decide) hN31).mpr (Nat.zero_le N)
      exact this
    · rw [hcl, hNc]; omega
    · rw [hcl, hNc]; omega
  · rw [hcl, hNc]
    show (h.1 + n, (h.2 ++ [some (zcB n (fun _ => 0))]).set h.2.length (some (zcB n (va_cpy f (fun _ => 0) 0 0 N)))) = _
    rw [List.set_append_right _ _ (Nat.le_refl _), Nat.sub_self]
    rfl
  · refine zi_aload_n rfl rfl ?_
    exact zi_areturn rfl rfl rfl
/-- the words in a wider row; the old one stays as it was -/
def zwE (e : zEx) (n : Nat) (old : zkE) : zEx := match e with
  | (c, .inl E) => (c + n, .inr (some old, E, []))
  | (c, .inr (g, E1, E2)) => (c + n, .inr (g, E1 ++ some old :: E2, []))
def zwiden (s : zSt) : Option (Unit × zSt) := if gI s 2 * 8 = nI (gI s 2 * 8).toNatClampNeg ∧ gN s < (gI s 2 * 8).toNatClampNeg ∧ (gI s 2 * 8).toNatClampNeg ≤ 1000000 then
    some ((), sE (sN (sB s 0 (va_cpy (gB s 0) (fun _ => 0) 0 0 (gN s))) (gI s 2 * 8).toNatClampNeg) (zwE (gE s) (gI s 2 * 8).toNatClampNeg (zcB (gN s) (gB s 0)))) else none
theorem zs_widen (s : zSt) (n : Nat) (f : Nat → Int64) : ∃ fs2, (zfM s (zwp s)).set 1 (.ref (zk_len (zHp s))) = fs2 ∧ zk_set ((zHp s).1 + n, (zHp s).2 ++ [some (zcB n f)]) 3 (.inr (1, fs2)) = zHp (sE (sN (sB s 0 f) n) (zwE (gE s) n (zcB (gN s) (gB s 0)))) := by
  refine zH_cases (fun s e => ∃ fs2, (zfM s (zwx e)).set 1 (.ref (zk_len (zHx e s))) = fs2 ∧ zk_set ((zHx e s).1 + n, (zHx e s).2 ++ [some (zcB n f)]) 3 (.inr (1, fs2)) = zHx (zwE e n (zcB (gN s) (gB s 0))) (sN (sB s 0 f) n)) (fun s c E => ⟨_, rfl, ?_⟩) (fun s c g E1 E2 => ⟨_, rfl, ?_⟩) s
  · have h1 : zk_len (zHx (c, .inl E) s) = 21 + E.length := by
      show (zmo s ++ E).length + 7 = _
      rw [List.length_append]
      show 14 + E.length + 7 = _
      omega
    rw [h1]
    simp only [zHx, zwE, zk_set, List.cons_append, List.append_assoc, List.set_cons_succ, List.set_cons_zero]
    rfl
  · have h1 : zk_len (zHx (c, .inr (g, E1, E2)) s) = 21 + (E1 ++ some (zcB (gN s) (gB s 0)) :: E2).length := by
      show (zmo s ++ (E1 ++ some (zcB (gN s) (gB s 0)) :: E2)).length + 7 = _
      rw [List.length_append]
      show 14 + _ + 7 = _
      omega
    rw [h1]
    simp only [zHx, zwE, zk_set, List.cons_append, List.append_assoc, List.set_cons_succ, List.set_cons_zero]
    rfl
theorem zh_M2 (s : zSt) (n : Nat) (w : Option zkE) : zk_cell ((zHp s).1 + n, (zHp s).2 ++ [w]) 3 = some (.inr (1, zfM s (zwp s))) := zk_cell_push (n := n) (w := w) (zh_M s)
theorem zi_widen {X : zkX} {Q : zkO → Prop} {s s2 : zSt} {v : Unit} {lv : zkL} (h0 : zk_get lv 0 = some (.ref 3)) (hm : zwiden s = some (v, s2)) (kk : zk_W X 2 m_M_widenIfTight (60, lv, [], zHp s2) Q) : zk_W X 2 m_M_widenIfTight (42, lv, [], zHp s) Q := by
  unfold zwiden at hm
  obtain ⟨⟨h1, h2, h3⟩, hm⟩ := zf_g hm
  have e2 : s2 = _ := (congrArg Prod.snd (Option.some.inj hm)).symm
  refine zi_aload_n rfl h0 ?_
  refine zi_aload_n rfl h0 ?_
  refine zi_getfield rfl rfl (zh_M _) rfl ?_
  refine zi_aload_n rfl h0 ?_
  refine zi_getfield rfl rfl (zh_M _) rfl ?_
  refine zi_bipush (v := (8 : Int32)) rfl rfl ?_
  refine zi_imul rfl ?_
  refine zi_topi h1 ?_
  refine zi_callS rfl rfl rfl rfl (zk_C.to (zg_copyOf (zwx_ne _) (zh_W s) h2 h3) (fun o ho => zk_K.okv ho ?_))
  obtain ⟨fs2, g1, g2⟩ := zs_widen s (gI s 2 * 8).toNatClampNeg (va_cpy (gB s 0) (fun _ => 0) 0 0 (gN s))
  refine zi_putfield (fs2 := fs2) rfl rfl (zh_M2 _ _ _) rfl g1 g2 ?_
  rw [e2] at kk
  exact kk
theorem zk_swd {x : Int32} {pc nx tg : Nat} {st : List Value} {dd : Int} {offs : Array Int} (h0 : ¬ x = 0) (h1 : ¬ x = 1) (h2 : ¬ x = 2) (h3 : ¬ x = 3) (h4 : ¬ x = 4) (h5 : ¬ x = 5) (h6 : ¬ x = 6) (h7 : ¬ x = 7) (h8 : ¬ x = 8) (h9 : ¬ x = 9) (h10 : ¬ x = 10) (h11 : ¬ x = 11) (h12 : ¬ x = 12) (h13 : ¬ x = 13) (h14 : ¬ x = 14) (h15 : ¬ x = 15) (h16 : ¬ x = 16) (h17 : ¬ x = 17) (h18 : ¬ x = 18) (h19 : ¬ x = 19) : zk_loc3 (.tableswitch dd 0 19 offs) pc nx tg (.int x :: st) = some (((pc : Int) + dd).toNat, st) := by
  have key : x.toInt < 0 ∨ 19 < x.toInt := by
    rcases Int.lt_or_le x.toInt 0 with q | q
    · exact Or.inl q
    · rcases Int.lt_or_le 19 x.toInt with q2 | q2
      · exact Or.inr q2
      · exfalso
        have hx : x = Int32.ofInt x.toInt := (Int32.ofInt_toInt x).symm
        have h : x.toInt = 0 ∨ x.toInt = 1 ∨ x.toInt = 2 ∨ x.toInt = 3 ∨ x.toInt = 4 ∨ x.toInt = 5 ∨ x.toInt = 6 ∨ x.toInt = 7 ∨ x.toInt = 8 ∨ x.toInt = 9 ∨ x.toInt = 10 ∨ x.toInt = 11 ∨ x.toInt = 12 ∨ x.toInt = 13 ∨ x.toInt = 14 ∨ x.toInt = 15 ∨ x.toInt = 16 ∨ x.toInt = 17 ∨ x.toInt = 18 ∨ x.toInt = 19 := by omega
        rcases h with h | h | h | h | h | h | h | h | h | h | h | h | h | h | h | h | h | h | h | h <;> rw [h] at hx <;> contradiction
  simp only [zk_loc3]
  rw [if_pos key]

/-- the heap holds the abstract one, from b + 1 on -/
def zk_R (D : va_G) (aC : FieldType → ClassId) (sc b : Nat) (h : zkH) (H : Heap) : Prop := H.size = b + h.2.length ∧ h.2[0]? = some none ∧ ∀ (k : Nat) (e : zkE), h.2[k]? = some (some e) → va_at D zkCl (b + k, zk_e aC sc b e) H
theorem zk_cell_eq {h : zkH} {a : Nat} {e : zkE} (hc : zk_cell h a = some e) : h.2[a]? = some (some e) := by
  unfold zk_cell at hc
  split at hc
  · rename_i e2 he
    cases hc
    exact he
  · cases hc
theorem zk_R.at {D : va_G} {aC : FieldType → ClassId} {sc b : Nat} {h : zkH} {H : Heap} (hR : zk_R D aC sc b h H) {a : Nat} {e : zkE} (hc : zk_cell h a = some e) : va_at D zkCl (zk_ad sc b a, zk_e aC sc b e) H ∧ zk_ad sc b a = b + a ∧ b < b + a := by
  have h1 := zk_cell_eq hc
  have h0 : a ≠ 0 := by
    intro q
    subst q
    rw [hR.2.1] at h1
    cases h1
  have h2 : zk_ad sc b a = b + a := by unfold zk_ad; rw [if_neg h0]
  exact ⟨by rw [h2]; exact hR.2.2 a e h1, h2, by omega⟩
theorem zk_R.set {D : va_G} {aC : FieldType → ClassId} {sc b : Nat} {h : zkH} {H H1 : Heap} (hR : zk_R D aC sc b h H) {a : Nat} {e0 e : zkE} (hc : zk_cell h a = some e0) (hz : H1.size = H.size) (hat : va_at D zkCl (zk_ad sc b a, zk_e aC sc b e) H1) (ho : ∀ q : Nat, q ≠ zk_ad sc b a → H1[q]? = H[q]?) : zk_R D aC sc b (zk_set h a e) H1 := by
  obtain ⟨-, h2, h3⟩ := hR.at hc
  have h1 := zk_cell_eq hc
  have hl := (List.getElem?_eq_some_iff.mp h1).1
  have h0 : a ≠ 0 := by omega
  rw [h2] at hat ho
  refine ⟨by rw [hz, hR.1]; simp [zk_set], by simp only [zk_set]; rw [List.getElem?_set_ne h0]; exact hR.2.1, fun k e2 hk => ?_⟩
  simp only [zk_set] at hk
  by_cases hka : k = a
  · subst hka
    rw [List.getElem?_set_self hl] at hk
    cases hk
    exact hat
  · rw [List.getElem?_set_ne (Ne.symm hka)] at hk
    exact (hR.2.2 k e2 hk).kept (ho _ (by show b + k ≠ b + a; omega))
theorem zk_R.push {D : va_G} {aC : FieldType → ClassId} {sc b : Nat} {h : zkH} {H H1 : Heap} (hR : zk_R D aC sc b h H) {n : Nat} {e : Option zkE} (hz : H1.size = H.size + 1) (ho : ∀ q : Nat, q < H.size → H1[q]? = H[q]?) (hat : ∀ e1, e = some e1 → va_at D zkCl (H.size, zk_e aC sc b e1) H1) : zk_R D aC sc b (zk_push h n e) H1 := by
  have hpos : 0 < h.2.length := (List.getElem?_eq_some_iff.mp hR.2.1).1
  refine ⟨by rw [hz, hR.1]; simp [zk_push]; omega, by simp only [zk_push]; rw [List.getElem?_append_left hpos]; exact hR.2.1, fun k e2 hk => ?_⟩
  simp only [zk_push] at hk
  by_cases hl : k < h.2.length
  · rw [List.getElem?_append_left hl] at hk
    exact (hR.2.2 k e2 hk).kept (ho _ (by show b + k < H.size; rw [hR.1]; omega))
  · rw [List.getElem?_append_right (by omega)] at hk
    have hz1 : k - h.2.length < 1 := (List.getElem?_eq_some_iff.mp hk).1
    rw [show k - h.2.length = 0 by omega] at hk
    have h5 : e = some e2 := by simpa using hk
    have h6 := hat e2 h5
    rw [hR.1] at h6
    rw [show b + k = b + h.2.length by omega]
    exact h6
theorem zk_ad_len {D : va_G} {aC : FieldType → ClassId} {sc b : Nat} {h : zkH} {H : Heap} (hR : zk_R D aC sc b h H) : zk_ad sc b (zk_len h) = H.size := by
  have hpos : 0 < h.2.length := (List.getElem?_eq_some_iff.mp hR.2.1).1
  unfold zk_ad zk_len
  rw [if_neg (by omega), hR.1]
/-- what a frame of the invocation from s, with the abstract heap h0 there, has done so far -/
def zk_J (D : va_G) (aC : FieldType → ClassId) (sc b : Nat) (s : State) (h0 h : zkH) (H : Heap) (locs : List Loc) (cells slots : Nat) : Prop := zk_R D aC sc b h H ∧ (∀ q : Nat, q ≤ b → H[q]? = s.heap[q]?) ∧ (∀ q ∈ locs, b < q.base) ∧ h.2.length = h0.2.length + cells ∧ h.1 = h0.1 + slots ∧ s.heap.size = b + h0.2.length
theorem zk_J.grown {D : va_G} {aC : FieldType → ClassId} {sc b : Nat} {s : State} {h0 h : zkH} {H : Heap} {locs : List Loc} {cells slots : Nat} (hJ : zk_J D aC sc b s h0 h H locs cells slots) : s.heap.size ≤ H.size := by
  obtain ⟨hR, -, -, h4, -, h6⟩ := hJ
  rw [h6, hR.1]
  omega
theorem zk_J.wr {D : va_G} {aC : FieldType → ClassId} {sc b : Nat} {s : State} {h0 h : zkH} {H H1 : Heap} {locs : List Loc} {cells slots : Nat} (hJ : zk_J D aC sc b s h0 h H locs cells slots) {a k : Nat} {e0 e : zkE} (hc : zk_cell h a = some e0) (hz : H1.size = H.size) (hat : va_at D zkCl (zk_ad sc b a, zk_e aC sc b e) H1) (ho : ∀ q : Nat, q ≠ zk_ad sc b a → H1[q]? = H[q]?) : zk_J D aC sc b s h0 (zk_set h a e) H1 (locs ++ [⟨zk_ad sc b a, k⟩]) cells slots := by
  obtain ⟨hR, h1, h2, h4, h5, h6⟩ := hJ
  obtain ⟨-, g2, g3⟩ := hR.at hc
  refine ⟨hR.set hc hz hat ho, fun q hq => (ho q (by rw [g2]; omega)).trans (h1 q hq), fun q hq => ?_, by simp only [zk_set, List.length_set]; exact h4, h5, h6⟩
  rcases List.mem_append.mp hq with z | z
  · exact h2 q z
  · rw [List.mem_singleton.mp z]
    show b < zk_ad sc b a
    rw [g2]; exact g3
theorem zk_J.nw {D : va_G} {aC : FieldType → ClassId} {sc b : Nat} {s : State} {h0 h : zkH} {H H1 : Heap} {locs : List Loc} {cells slots n : Nat} {e : Option zkE} (hJ : zk_J D aC sc b s h0 h H locs cells slots) (hz : H1.size = H.size + 1) (ho : ∀ q : Nat, q < H.size → H1[q]? = H[q]?) (hat : ∀ e1, e = some e1 → va_at D zkCl (H.size, zk_e aC sc b e1) H1) : zk_J D aC sc b s h0 (zk_push h n e) H1 locs (cells + 1) (slots + n) := by
  obtain ⟨hR, h1, h2, h4, h5, h6⟩ := hJ
  have hpos : 0 < h.2.length := (List.getElem?_eq_some_iff.mp hR.2.1).1
  refine ⟨hR.push hz ho hat, fun q hq => (ho q (by rw [hR.1]; omega)).trans (h1 q hq), h2, by simp only [zk_push, List.length_append, List.length_singleton]; omega, by simp only [zk_push]; omega, h6⟩
abbrev zkTy (aC : FieldType → ClassId) : List (ClassId × FieldType) := [(aC .int, .int), (aC .long, .long), (aC .boolean, .boolean)]
theorem zk_in {i : Int32} {n : Nat} (h1 : 0 ≤ i) (h2 : i.toNatClampNeg < n) : vp_in i n := fun q => by
  rcases q with q | q
  · exact absurd q (Int32.not_lt.mpr h1)
  · omega
theorem zk_fit_ok {sc b : Nat} {ty : FieldType} {v : Value} (h : zk_fit ty v = true) : narrow ty (zk_v sc b v) = zk_v sc b v ∧ fits ty (zk_v sc b v) = true := by
  cases ty <;> cases v <;> first | exact ⟨rfl, rfl⟩ | cases h
theorem zk_v_def (sc b : Nat) (ty : FieldType) : zk_v sc b (defaultValue ty) = defaultValue ty := by cases ty <;> rfl
section ZS4
variable {p : Program} {l : Launch} {e : Env} {R : Room} {s : State} {m : MethodId} {args : Array Value} {below : List Frame} {meth : Method} {c : Code} {H : Heap} {locs : List Loc} {cells slots : Nat} {Q : State → Prop}
variable {cc : ByteArray} {pc nx : Nat} {ls : Array Slot} {sc b M : Nat} {st st2 : List Value} {pc2 : Nat} {i : Instr} {h0 h h2 : zkH} {D : va_G} {aC : FieldType → ClassId} {X : zkX}
theorem zk_P1 {D : va_G} {a : Nat} {ex : va_E} {H : Heap} (hat : va_at D zkCl (a, ex) H) : va_P D zkCl [(a, ex)] H := fun k q hk => by
  cases k with
  | zero => cases hk; exact hat
  | succ k => simp at hk
/-- an element is written -/
theorem zk_arrset {cA : ClassId} {n : Nat} {f : Nat → Value} {k : Nat} {v : Value} {a : vp_A} (ha : vp_cell cA a = arrV cA n (updV f k v)) : (arrV cA n f).setSlot k v = vp_cell cA a := by rw [ha, arrV_store]
theorem zk_s4 (hexec : p.tables.exec = Jvm.exec) (hb : c.code = cc) (hown : s.vm.findClass (zk_own M) = some m.cls) (hname : meth.name = (zk_yn M).name) (hts : ∀ w ∈ zkT, w.before args s = true) (hd : decode cc pc = .ok (i, zk_il i pc nx)) (hnx : nx = pc + zk_il i pc nx) (hK : va_K D zkCl (zkTy aC) s) (hX : va_X sc X.1 X.2 s s.heap) (hsc : sc ≤ b)
    (hJ : zk_J D aC sc b s h0 h H locs cells slots) (hs : zk_loc4 X M i nx st h = some (pc2, st2, h2)) (hrc : h2.2.length ≤ h0.2.length + R.cells) (hrs : h2.1 ≤ h0.1 + R.slots)
    (kk : ∀ (H2 : Heap) (locs2 : List Loc) (cells2 slots2 : Nat), zk_J D aC sc b s h0 h2 H2 locs2 cells2 slots2 → W p l e R s m args below meth c H2 locs2 cells2 slots2 Q (F0 m pc2 ls (st2.map (zk_v sc b)))) : W p l e R s m args below meth c H locs cells slots Q (F0 m pc ls (st.map (zk_v sc b))) := by
  have hR := hJ.1
  cases i with
  | getfield k =>
    simp only [zk_loc4] at hs
    split at hs
    · rename_i a r
      split at hs
      · rename_i ci fs c2 j hc hf
        cases hq : Nat.beq ci c2 with
        | false => rw [hq] at hs; cases hs
        | true =>
          rw [hq] at hs
          have e1 : ci = c2 := Nat.eq_of_beq_eq_true hq
          subst e1
          simp only [cond_true] at hs
          split at hs
          · rename_i v hv
            cases hs
            simp only [zk_il] at hnx hd
            subst hnx
            obtain ⟨g1, g2, g3⟩ := hR.at hc
            obtain ⟨w, hw, hjN, hdecl, -, hlink⟩ := zk_f_fl hf
            have hsame : ∀ x, s.fieldFound? (w.2.1 j).1 (w.2.1 j).2.1 (w.2.1 j).2.2.1 = some x → s.fieldFound? w.1 (w.2.1 j).2.1 (w.2.1 j).2.2.1 = some x := by
              rw [hdecl]; exact fun x h => h
            have hv2 : (fs.map (zk_v sc b))[j]? = some (zk_v sc b v) := by rw [List.getElem?_map, hv]; rfl
            rcases hlink with hl | ⟨host, hl⟩
            · exact va_get (D := D) (ci := ci) (C := w.1) (T := w.2.1) (N := w.2.2) hexec hb hts (zk_f_lay hw) hown hK (zk_P1 g1) 0 rfl hw j hjN (hts _ hl) hsame hv2 hd (kk H locs cells slots hJ)
            · exact va_getN (D := D) (ci := ci) (C := w.1) (T := w.2.1) (N := w.2.2) hexec hb hts (zk_f_lay hw) hown hK (zk_P1 g1) 0 rfl hw j hjN (hts _ hl) hsame hv2 hd (kk H locs cells slots hJ)
          · cases hs
      · cases hs
    · cases hs
  | iaload =>
    simp only [zk_loc4] at hs
    split at hs
    · rename_i x a r
      split at hs
      · rename_i ex hc
        split at hs
        · rename_i v hv
          cases hs
          simp only [zk_il] at hnx hd
          subst hnx
          cases a with
          | zero =>
            have hc : some (Sum.inl (FieldType.int, X.1, Sum.inl X.2)) = some ex := hc
            cases hc
            simp only [zk_aldi] at hv
            split at hv
            · rename_i hq
              cases hv
              have hz : sc < s.heap.size := by
                obtain ⟨scr, z1, -⟩ := hX
                exact (Array.getElem?_eq_some_iff.mp z1).1
              exact va_sld (A := fun q => b < q) (H0 := s.heap) hexec hb hX hz (by omega) ⟨hJ.grown, fun q z1 z2 => hJ.2.1 q (Nat.not_lt.mp z2), hJ.2.2.1⟩ (zk_in hq.1 hq.2) hd (kk H locs cells slots hJ)
            · cases hv
          | succ a =>
            have hc : zk_cell h (a + 1) = some ex := hc
            obtain ⟨g1, g2, g3⟩ := hR.at hc
            unfold zk_aldi at hv
            split at hv
            · rename_i n f
              split at hv
              · rename_i hq
                cases hv
                exact va_iald hexec hb hK (zk_P1 g1) 0 0 rfl rfl (zk_in hq.1 hq.2) hd (kk H locs cells slots hJ)
              · cases hv
            · cases hv
        · cases hs
      · cases hs
    · cases hs
  | laload =>
    simp only [zk_loc4] at hs
    split at hs
    · rename_i x a r
      split at hs
      · rename_i ex hc
        split at hs
        · rename_i v hv
          cases hs
          simp only [zk_il] at hnx hd
          subst hnx
          obtain ⟨g1, g2, g3⟩ := hR.at hc
          unfold zk_aldl at hv
          split at hv
          · rename_i n f
            split at hv
            · rename_i hq
              cases hv
              exact va_lald hexec hb hK (zk_P1 g1) 0 1 rfl rfl (zk_in hq.1 hq.2) hd (kk H locs cells slots hJ)
            · cases hv
          · cases hv
        · cases hs
      · cases hs
    · cases hs
  | baload =>
    simp only [zk_loc4] at hs
    split at hs
    · rename_i x a r
      split at hs
      · rename_i ex hc
        split at hs
        · rename_i v hv
          cases hs
          simp only [zk_il] at hnx hd
          subst hnx
          obtain ⟨g1, g2, g3⟩ := hR.at hc
          unfold zk_aldz at hv
          split at hv
          · rename_i n f
            split at hv
            · rename_i hq
              cases hv
              exact va_zald hexec hb hK (zk_P1 g1) 0 2 rfl rfl (zk_in hq.1 hq.2) hd (kk H locs cells slots hJ)
            · cases hv
          · cases hv
        · cases hs
      · cases hs
    · cases hs
  | iastore =>
    simp only [zk_loc4] at hs
    split at hs
    · rename_i v x a r
      split at hs
      · rename_i ex hc
        split at hs
        · rename_i e2 hv
          cases hs
          simp only [zk_il] at hnx hd
          subst hnx
          obtain ⟨g1, g2, g3⟩ := hR.at hc
          unfold zk_asti at hv
          split at hv
          · rename_i n f
            split at hv
            · rename_i hq
              cases hv
              refine W.iast hexec hb g1 ((hK.2 0 _ rfl).1 n (fun j => .int (f j))) (fun q => by cases q) (by show ¬ (x < 0 ∨ (arrV _ _ _).slots.size ≤ _); rw [arrV_size]; exact zk_in hq.1 hq.2) rfl rfl hd fun H1 e1 z oq => ?_
              refine kk H1 _ cells slots (hJ.wr (e := .inl (.int, n, .inl (upd f x.toNatClampNeg v))) hc z ?_ oq)
              show H1[zk_ad sc b a]? = some (vp_cell (aC .int) (n, .inl (upd f x.toNatClampNeg v)))
              rw [e1]
              exact congrArg some (zk_arrset (by rw [vp_cell_i]; congr 1; funext q; by_cases hz : q = x.toNatClampNeg <;> simp [updV, upd, hz]))
            · cases hv
          · cases hv
        · cases hs
      · cases hs
    · cases hs
  | lastore =>
    simp only [zk_loc4] at hs
    split at hs
    · rename_i v x a r
      split at hs
      · rename_i ex hc
        split at hs
        · rename_i e2 hv
          cases hs
          simp only [zk_il] at hnx hd
          subst hnx
          obtain ⟨g1, g2, g3⟩ := hR.at hc
          unfold zk_astl at hv
          split at hv
          · rename_i n f
            split at hv
            · rename_i hq
              cases hv
              refine W.last hexec hb g1 ((hK.2 1 _ rfl).1 n (fun j => .long (f j))) (fun q => by cases q) (by show ¬ (x < 0 ∨ (arrV _ _ _).slots.size ≤ _); rw [arrV_size]; exact zk_in hq.1 hq.2) rfl rfl hd fun H1 e1 z oq => ?_
              refine kk H1 _ cells slots (hJ.wr (e := .inl (.long, n, .inr (.inl (vp_updL f x.toNatClampNeg v)))) hc z ?_ oq)
              show H1[zk_ad sc b a]? = some (vp_cell (aC .long) (n, .inr (.inl (vp_updL f x.toNatClampNeg v))))
              rw [e1]
              exact congrArg some (zk_arrset (by rw [vp_cell_l]; congr 1; funext q; by_cases hz : q = x.toNatClampNeg <;> simp [updV, vp_updL, hz]))
            · cases hv
          · cases hv
        · cases hs
      · cases hs
    · cases hs
  | bastore =>
    simp only [zk_loc4] at hs
    split at hs
    · rename_i v x a r
      split at hs
      · rename_i ex hc
        split at hs
        · rename_i e2 hv
          cases hs
          simp only [zk_il] at hnx hd
          subst hnx
          obtain ⟨g1, g2, g3⟩ := hR.at hc
          unfold zk_astz at hv
          split at hv
          · rename_i n f
            split at hv
            · rename_i hq
              cases hv
              refine W.zast hexec hb g1 ((hK.2 2 _ rfl).1 n (fun j => .int (f j))) (fun q => by cases q) (by show ¬ (x < 0 ∨ (arrV _ _ _).slots.size ≤ _); rw [arrV_size]; exact zk_in hq.1 hq.2) rfl rfl hd fun H1 e1 z oq => ?_
              refine kk H1 _ cells slots (hJ.wr (e := .inl (.boolean, n, .inl (upd f x.toNatClampNeg (vp_nar .boolean v)))) hc z ?_ oq)
              show H1[zk_ad sc b a]? = some (vp_cell (aC .boolean) (n, .inl (upd f x.toNatClampNeg (vp_nar .boolean v))))
              rw [e1]
              exact congrArg some (zk_arrset (by rw [vp_cell_i]; congr 1; funext q; by_cases hz : q = x.toNatClampNeg <;> simp [updV, upd, hz]; rfl))
            · cases hv
          · cases hv
        · cases hs
      · cases hs
    · cases hs
  | putfield k =>
    simp only [zk_loc4] at hs
    split at hs
    · rename_i v a r
      split at hs
      · rename_i ci fs c2 j hc hf
        cases hq : (Nat.beq ci c2 && zk_fit (zk_fty ci j) v && Nat.blt j fs.length && zk_fin M ci j) with
        | false => rw [hq] at hs; cases hs
        | true =>
          rw [hq] at hs
          cases hs
          simp only [zk_il] at hnx hd
          subst hnx
          simp only [Bool.and_eq_true] at hq
          obtain ⟨⟨⟨hq1, hq2⟩, hq3⟩, hq4⟩ := hq
          have e1 : ci = c2 := Nat.eq_of_beq_eq_true hq1
          subst e1
          have hl : j < (fs.map (zk_v sc b)).length := by rw [List.length_map]; exact Nat.le_of_ble_eq_true hq3
          obtain ⟨hn, hfit⟩ := zk_fit_ok (sc := sc) (b := b) hq2
          obtain ⟨g1, g2, g3⟩ := hR.at hc
          obtain ⟨w, hw, hjN, hdecl, hty, hlink⟩ := zk_f_fl hf
          have hsame : ∀ x, s.fieldFound? (w.2.1 j).1 (w.2.1 j).2.1 (w.2.1 j).2.2.1 = some x → s.fieldFound? w.1 (w.2.1 j).2.1 (w.2.1 j).2.2.1 = some x := by
            rw [hdecl]; exact fun x h => h
          have hap := va_apart (own := zk_own M) (C := w.1) (T := w.2.1) (N := w.2.2) hts (zk_f_lay hw) (zk_fty ci) (zk_f_ty hw) (zk_f_nm hw) hK hw
          obtain ⟨w2, h1, cell, q1, q2, q3, q4⟩ := g1
          have hr : w2 = w := Option.some.inj (h1.symm.trans hw)
          subst hr
          obtain ⟨hS, hfc, kC, hkC, hkind⟩ := hK.1 ci _ hw
          obtain ⟨cf, kf, fi, f, hi, hsl⟩ := hS j hjN
          have hlay := hts _ (zk_f_lay hw _ (u_in_lay hjN))
          have hst := (u_facts hfc hkC (u_lays hts (zk_f_lay hw) hjN) hi).1
          have fin : ∀ H' : Heap, H'[zk_ad sc b a]? = some (cell.setSlot f.slot (zk_v sc b v)) → H'.size = H.size → (∀ q, q ≠ zk_ad sc b a → H'[q]? = H[q]?) → W p l e R s m args below meth c H' (locs ++ [⟨zk_ad sc b a, f.slot⟩]) cells slots Q (F0 m (pc + 3) ls (st2.map (zk_v sc b))) := by
            intro H' e1 e2 e3
            rw [hsl] at e1
            refine kk H' _ cells slots (hJ.wr (e := .inr (ci, fs.set j v)) hc e2 ?_ e3)
            refine ⟨_, hw, ?_⟩
            have := t_OB.to (V' := vp_V ((fs.set j v).map (zk_v sc b))) (⟨_, e1, q2, q3, t_set q4 hap hjN (zk_v sc b v)⟩ : t_OB (zk_ad sc b a) (D.1 ci) w2.2.2 (D.2 ci) H' (updV (vp_V (fs.map (zk_v sc b))) j (zk_v sc b v))) (fun x _ => by rw [List.map_set]; exact vp_updV_set hl _ x)
            exact this
          cases hfn : (w2.2.1 j).2.2.2 with
          | false =>
            unfold u_lay at hlay
            rw [if_neg (by rw [hfn]; decide)] at hlay
            have h6 := u_store hfc hkC hkind hlay hi hty hn hfit
            rcases hlink with hlk | ⟨host, hlk⟩
            · exact W.putK hexec hb (f := f) ⟨hown, hts _ hlk, ⟨_, _, _, hsame _ hi⟩, hst⟩ (by rw [q2]; exact h6) q1 q3 (by rw [hsl]; exact k2_hasslot (q4 j hjN)) rfl rfl hd fin
            · exact va_WputK hexec hb (f := f) hown (hts _ hlk) (hsame _ hi) hst (by rw [q2]; exact h6) q1 q3 (by rw [hsl]; exact k2_hasslot (q4 j hjN)) rfl rfl hd fin
          | true =>
            obtain ⟨hy1, hy2, hy3⟩ := zk_f_fin hw hq4 hfn hf
            unfold u_lay at hlay
            rw [if_pos hfn] at hlay
            have hcf : m.cls = cf := by
              obtain ⟨_, _, c', _, _, _, -, -, hf', -, -, -, hown2, -⟩ := Cond.laysFinal_spec hlay
              have e1 : c' = cf := by have := hi.symm.trans hf'; simp at this; exact this.1.symm
              rw [hy2] at hown2
              rw [← e1]; exact Option.some.inj (hown.symm.trans hown2)
            have h6 := u_fits hfc hkC hkind (Or.inr hlay) hi hty hn hfit
            exact W.putFinK hexec hb hown (hts _ hy3) (hsame _ hi) hst hcf (hname.trans hy1) (by rw [q2]; exact h6) q1 q3 (by rw [hsl]; exact k2_hasslot (q4 j hjN)) rfl rfl hd fin
      · cases hs
    · cases hs
  | arraylength =>
    simp only [zk_loc4] at hs
    split at hs
    · rename_i a r
      split at hs
      · rename_i ex hc
        split at hs
        · rename_i v hv
          cases hs
          simp only [zk_il] at hnx hd
          subst hnx
          cases a with
          | zero =>
            have hc : some (Sum.inl (FieldType.int, X.1, Sum.inl X.2)) = some ex := hc
            cases hc
            simp only [zk_alen] at hv
            cases hv
            have hz : sc < s.heap.size := by
              obtain ⟨scr, z1, -⟩ := hX
              exact (Array.getElem?_eq_some_iff.mp z1).1
            exact va_slen (A := fun q => b < q) (H0 := s.heap) hexec hb hX hz (Nat.not_lt.mpr hsc) ⟨hJ.grown, fun q z1 z2 => hJ.2.1 q (Nat.not_lt.mp z2), hJ.2.2.1⟩ hd (kk H locs cells slots hJ)
          | succ a =>
            have hc : zk_cell h (a + 1) = some ex := hc
            obtain ⟨g1, g2, g3⟩ := hR.at hc
            unfold zk_alen at hv
            split at hv
            · cases hv
              exact va_alen hexec hb hK (zk_P1 g1) 0 0 rfl rfl rfl hd (kk H locs cells slots hJ)
            · cases hv
              exact va_alen hexec hb hK (zk_P1 g1) 0 2 rfl rfl rfl hd (kk H locs cells slots hJ)
            · cases hv
              exact va_alen hexec hb hK (zk_P1 g1) 0 1 rfl rfl rfl hd (kk H locs cells slots hJ)
            · cases hv
        · cases hs
      · cases hs
    · cases hs
  | newarray t =>
    simp only [zk_loc4] at hs
    split at hs
    · rename_i x r
      split at hs
      · rename_i ex hx
        split at hs
        · rename_i hq
          cases hs
          simp only [zk_il] at hnx hd
          subst hnx
          have hlen : (zk_push h x.toNatClampNeg (some ex)).2.length = h.2.length + 1 := by simp [zk_push]
          have hsl2 : (zk_push h x.toNatClampNeg (some ex)).1 = h.1 + x.toNatClampNeg := rfl
          have hc1 : cells + 1 ≤ R.cells := by have := hJ.2.2.2.1; omega
          have hc2 : slots + x.toNatClampNeg ≤ R.slots := by have := hJ.2.2.2.2.1; omega
          have fin : ∀ (H' : Heap) (cA : ClassId), H'[H.size]? = some (arrV cA x.toNatClampNeg (fun _ => defaultValue (newarray.typeOf t))) → H'.size = H.size + 1 → (∀ q, q < H.size → H'[q]? = H[q]?) → ArrOfT s cA (newarray.typeOf t) → s.vm.findClass ("[" ++ (newarray.typeOf t).toString) = some cA → W p l e R s m args below meth c H' locs (cells + 1) (slots + x.toNatClampNeg) Q (F0 m (pc + 2) ls (.ref H.size :: r.map (zk_v sc b))) := by
            intro H' cA e1 z1 o1 hAr hNm
            have key := kk H' locs (cells + 1) (slots + x.toNatClampNeg) (hJ.nw (e := some ex) z1 o1 (fun e1' he => ?_))
            · rw [List.map_cons, show zk_v sc b (.ref (zk_len h)) = .ref H.size from congrArg Value.ref (zk_ad_len hR)] at key
              exact key
            · cases he
              cases t with
              | int =>
                cases hx
                have e5 : cA = aC .int := Option.some.inj (hNm.symm.trans (hK.2 0 _ rfl).2)
                subst e5
                exact e1
              | long =>
                cases hx
                have e5 : cA = aC .long := Option.some.inj (hNm.symm.trans (hK.2 1 _ rfl).2)
                subst e5
                exact e1
              | boolean =>
                cases hx
                have e5 : cA = aC .boolean := Option.some.inj (hNm.symm.trans (hK.2 2 _ rfl).2)
                subst e5
                exact e1
              | _ => cases hx
          have hbytes : x.toNatClampNeg * componentBytes (newarray.typeOf t) ≤ 536870912 := by
            have h8 : componentBytes (newarray.typeOf t) ≤ 8 := by cases t <;> decide
            calc x.toNatClampNeg * componentBytes (newarray.typeOf t) ≤ 1000000 * 8 := Nat.mul_le_mul hq.2 h8
              _ ≤ 536870912 := by decide
          have harr : (Cond.arrayClass (newarray.typeOf t)).before args s = true := by
            cases t with
            | int => exact hts _ zk_f_aI
            | long => exact hts _ zk_f_aL
            | boolean => exact hts _ zk_f_aB
            | _ => cases hx
          exact va_newaK hexec hb harr rfl hd rfl (Int32.not_lt.mpr hq.1) rfl hbytes hc1 hc2 rfl fin
        · cases hs
      · cases hs
    · cases hs
  | new k =>
    simp only [zk_loc4] at hs
    split at hs
    · rename_i ci hc
      cases hs
      simp only [zk_il] at hnx hd
      subst hnx
      obtain ⟨w, hw, hl1, hl2, hl3, hdf⟩ := zk_f_cl hc
      have hlen : (zk_push h (zk_df ci).length (some (.inr (ci, zk_df ci)))).2.length = h.2.length + 1 := by simp [zk_push]
      have hsl2 : (zk_push h (zk_df ci).length (some (.inr (ci, zk_df ci)))).1 = h.1 + (zk_df ci).length := rfl
      have hN : (zk_df ci).length = w.2.2 := hdf.1
      have hc1 : cells + 1 ≤ R.cells := by have := hJ.2.2.2.1; omega
      have hc2 : slots + w.2.2 ≤ R.slots := by have := hJ.2.2.2.2.1; omega
      have hKn := hK.1 ci _ hw
      refine W.newcK hexec hb hown (hts _ hl1) (hts _ hl2) (hts _ hl3) rfl hd hc1 hc2 hKn.2.1 rfl fun H1 kC hkC e1 z1 o1 => ?_
      have key := kk H1 locs (cells + 1) (slots + (zk_df ci).length) (hJ.nw (e := some (.inr (ci, zk_df ci))) z1 o1 (fun e1' he => ?_))
      · rw [List.map_cons, show zk_v sc b (.ref (zk_len h)) = .ref H.size from congrArg Value.ref (zk_ad_len hR), hN] at key
        exact key
      · cases he
        exact ⟨_, hw, (u_born (zk_fty ci) hts (zk_f_lay hw) hKn hkC e1 (zk_f_ty hw)).to (fun j hj => by rw [vp_V, List.getD_eq_getElem?_getD, List.getElem?_map, hdf.2 j hj]; exact (zk_v_def sc b _).symm)⟩
    · cases hs
  | _ => simp only [zk_loc4] at hs; cases hs
end ZS4
section ZS5
variable {p : Program} {l : Launch} {e : Env} {R : Room} {s : State} {m : MethodId} {args : Array Value} {below : List Frame} {meth : Method} {c : Code} {H : Heap} {locs : List Loc} {cells slots : Nat} {Q : State → Prop}
variable {cc : ByteArray} {pc nx : Nat} {ls : Array Slot} {sc b M : Nat} {st st2 : List Value} {pc2 : Nat} {i : Instr} {h0 h h2 : zkH} {D : va_G} {aC : FieldType → ClassId} {X : zkX}
theorem zk_catsum (sc b : Nat) (r : List Value) : ((r.map (zk_v sc b)).map fun v => v.category).sum = (r.map Value.category).sum := by
  rw [List.map_map]
  congr 1
  apply List.map_congr_left
  intro v _
  exact zk_v_cat sc b v
theorem zk_s5 (hexec : p.tables.exec = Jvm.exec) (hb : c.code = cc) (hml : c.maxLocals = ls.size) (hown : s.vm.findClass (zk_own M) = some m.cls) (hts : ∀ w ∈ zkT, w.before args s = true) (hd : decode cc pc = .ok (i, zk_il i pc nx)) (hnx : nx = pc + zk_il i pc nx) (hK : va_K D zkCl (zkTy aC) s)
    (hJ : zk_J D aC sc b s h0 h H locs cells slots) (hs : zk_loc5 M i nx st h = some (pc2, st2, h2)) (hrf : 1 ≤ R.frames) (hrl : 60 ≤ R.locals)
    (kk : ∀ (H2 : Heap) (locs2 : List Loc) (cells2 slots2 : Nat), zk_J D aC sc b s h0 h2 H2 locs2 cells2 slots2 → W p l e R s m args below meth c H2 locs2 cells2 slots2 Q (F0 m pc2 ls (st2.map (zk_v sc b)))) : W p l e R s m args below meth c H locs cells slots Q (F0 m pc ls (st.map (zk_v sc b))) := by
  have hR := hJ.1
  cases i with
  | invokespecial k =>
    simp only [zk_loc5] at hs
    split at hs
    · rename_i q1 q2 q3 hm
      split at hs
      · rename_i a r
        cases hq : Nat.ble ((r.map Value.category).sum) 8 with
        | false => rw [hq] at hs; cases hs
        | true =>
          rw [hq] at hs
          cases hs
          simp only [zk_il] at hnx hd
          subst hnx
          have hsum := Nat.le_of_ble_eq_true hq
          obtain ⟨g1, g2, g3⟩ := zk_f_oi hm
          refine W.objInit hexec hb hown (hts _ g1) (hts _ g2) (hts _ g3) rfl (by rw [hml]) rfl hd hrf ?_ (kk H locs cells slots hJ)
          show 2 * 0 + ((st2.map (zk_v sc b)).map fun v => v.category).sum + 12 ≤ R.locals
          rw [zk_catsum]
          omega
      · cases hs
    · cases hs
  | invokestatic k =>
    simp only [zk_loc5] at hs
    split at hs
    · rename_i q1 q2 q3 hm
      split at hs
      · rename_i n dp dd sp a r
        split at hs
        · rename_i n0 f n1 g hc0 hc1
          split at hs
          · rename_i hq
            cases hs
            simp only [zk_il] at hnx hd
            subst hnx
            obtain ⟨⟨h1, h2', h3⟩, h4, h5, h6⟩ := hq
            obtain ⟨w1, w2, w3, w4⟩ := zk_f_ac hm
            obtain ⟨a1, a2, a3⟩ := hR.at hc0
            obtain ⟨b1, b2', b3⟩ := hR.at hc1
            have nn : ∀ z : Int32, 0 ≤ z → z.toInt = (z.toNatClampNeg : Int) := by
              intro z hz
              have hz0 : (0 : Int) ≤ z.toInt := by simpa using Int32.le_iff_toInt_le.mp hz
              show z.toInt = ((z.toInt.toNat : Nat) : Int)
              omega
            intro T hT X0
            have e0 : H[zk_ad sc b a]? = some (vp_cell (aC .long) (n0, .inr (.inl f))) := a1
            have e1 : H[zk_ad sc b dd]? = some (vp_cell (aC .long) (n1, .inr (.inl g))) := b1
            obtain ⟨-, k0, hk0, cm0, hkk0⟩ := (hK.2 1 _ rfl).1 n0 (fun j => .long (f j))
            obtain ⟨-, k1, hk1, cm1, hkk1⟩ := (hK.2 1 _ rfl).1 n1 (fun j => .long (g j))
            obtain ⟨vm', X', step⟩ := X0.arraycopy hexec hown (hts _ w1) (hts _ w2) (hts _ w3) (hts _ w4) (src := zk_ad sc b a) (dst := zk_ad sc b dd) (cs := vp_cell (aC .long) (n0, .inr (.inl f))) (cd := vp_cell (aC .long) (n1, .inr (.inl g))) (srcPos := sp) (destPos := dp) (n := n) (by rw [hT]; exact e0) (by rw [hT]; exact e1)
              (fun _ h => by cases h) (fun _ h => by cases h) (fun h => by cases h) (fun h => by cases h) hk0 hk1 hkk0 hkk1 rfl (Int32.not_lt.mpr h1) (Int32.not_lt.mpr h2') (Int32.not_lt.mpr h3)
              (by rw [nn sp h1, nn n h3]; show ¬ _ > ((arrV (aC .long) n0 (fun j => .long (f j))).slots.size : Int); rw [arrV_size]; omega)
              (by rw [nn dp h2', nn n h3]; show ¬ _ > ((arrV (aC .long) n1 (fun j => .long (g j))).slots.size : Int); rw [arrV_size]; omega)
              (fun vm₁ _ i hi => by
                have e : (vp_cell (aC .long) (n0, .inr (.inl f))).slots.getD (sp.toNatClampNeg + i) .null = .long (f (sp.toNatClampNeg + i)) := by
                  show (arrV (aC .long) n0 (fun j => .long (f j))).slots.getD _ _ = _
                  rw [Array.getD_eq_getD_getElem?, arrV_read _ _ (by omega)]
                  rfl
                refine ⟨?_, ?_⟩
                · rw [e]; rfl
                · rw [e]; exact trivial)
              (g := F0 m pc ls (.int n :: .int dp :: .ref (zk_ad sc b dd) :: .int sp :: .ref (zk_ad sc b a) :: st2.map (zk_v sc b))) rfl (by rw [hml]) (rest := st2.map (zk_v sc b)) rfl (by rw [hb]; exact hd) hrf (by
                show 2 * 0 + ((st2.map (zk_v sc b)).map fun v => v.category).sum + (nativeFrameWords "java/lang/System" "arraycopy" 5 + 11) ≤ R.locals
                rw [zk_catsum]
                have : nativeFrameWords "java/lang/System" "arraycopy" 5 ≤ 40 := by decide
                omega)
            have e9 : copied (vp_cell (aC .long) (n0, .inr (.inl f))) (vp_cell (aC .long) (n1, .inr (.inl g))) sp dp n = vp_cell (aC .long) (n1, .inr (.inl (va_cpy f g sp.toNatClampNeg dp.toNatClampNeg n.toNatClampNeg))) := va_copied (fun z => .long z) (aC .long) (aC .long) f g h4
            rw [e9] at X' step
            have hl : zk_ad sc b dd < H.size := (Array.getElem?_eq_some_iff.mp e1).1
            have hheap : ((T.setVm vm').setCell (zk_ad sc b dd) (vp_cell (aC .long) (n1, .inr (.inl (va_cpy f g sp.toNatClampNeg dp.toNatClampNeg n.toNatClampNeg))))).heap = H.setIfInBounds (zk_ad sc b dd) (vp_cell (aC .long) (n1, .inr (.inl (va_cpy f g sp.toNatClampNeg dp.toNatClampNeg n.toNatClampNeg)))) := by rw [← hT]; rfl
            have oq : ∀ q : Nat, q ≠ zk_ad sc b dd → (H.setIfInBounds (zk_ad sc b dd) (vp_cell (aC .long) (n1, .inr (.inl (va_cpy f g sp.toNatClampNeg dp.toNatClampNeg n.toNatClampNeg)))))[q]? = H[q]? := fun q hq => by simp [Array.getElem?_setIfInBounds, Ne.symm hq]
            have hJ1 := hJ.wr (k := 0) (e := .inl (.long, n1, .inr (.inl (va_cpy f g sp.toNatClampNeg dp.toNatClampNeg n.toNatClampNeg)))) hc1 (by simp) (show (H.setIfInBounds (zk_ad sc b dd) _)[zk_ad sc b dd]? = some _ by simp [Array.getElem?_setIfInBounds, hl]) oq
            obtain ⟨t, z1, z2⟩ := kk _ _ cells slots ⟨hJ1.1, hJ1.2.1, fun q hq => by
                rcases List.mem_append.mp hq with z | z
                · exact hJ.2.2.1 q z
                · obtain ⟨y, -, hy⟩ := List.mem_map.mp z
                  rw [← hy]
                  show b < zk_ad sc b dd
                  rw [b2']; exact b3, hJ1.2.2.2⟩ _ hheap X'
            exact ⟨t, step t z1, z2⟩
          · cases hs
        · cases hs
      · cases hs
    · cases hs
  | _ => simp only [zk_loc5] at hs; cases hs
end ZS5

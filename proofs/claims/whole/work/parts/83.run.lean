/-! a whole frame, a whole call -/
def zk_nm : List String := ["java/lang/RuntimeException", "java/lang/Exception"]
/-- the words of an exception's making -/
def zk_thB (x ic : Nat) (ps : List Nat) : Bool := Bundle.fit (zk_xn x) && decide ((Cond.initialized (zk_xn x) :: vx_atS "PropertyStore" ic (zk_xn x) zk_nm).length = ps.length) && (List.zip (Cond.initialized (zk_xn x) :: vx_atS "PropertyStore" ic (zk_xn x) zk_nm) ps).all (fun q => vx_ot q.1 && zk_chk q.2 q.1)
theorem zk_th0 : zk_thB 0 44 [57, 54, 216, 225, 228, 231, 233, 217, 218, 71, 72, 219, 224, 229, 249, 206, 250, 208, 251, 210, 220, 222, 212, 245, 246, 248, 212, 236, 237, 238, 239, 198, 239, 240, 241, 242, 200, 242, 243, 244, 245, 202, 235, 195, 196, 203, 204, 205, 207, 209, 211, 215, 214, 213] = true := by decide +kernel
theorem zk_th1 : zk_thB 1 84 [64, 54, 216, 225, 228, 231, 233, 217, 218, 71, 72, 219, 224, 229, 249, 206, 250, 208, 251, 210, 220, 222, 212, 245, 246, 248, 212, 398, 399, 400, 239, 198, 239, 240, 241, 242, 200, 242, 243, 244, 245, 202, 397, 388, 389, 390, 227, 391, 392, 393, 394, 215, 214, 395] = true := by decide +kernel
theorem zk_thU {x ic : Nat} {ps : List Nat} (h : zk_thB x ic ps = true) : Bundle.fit (zk_xn x) = true ∧ ∀ w ∈ Cond.initialized (zk_xn x) :: vx_atS "PropertyStore" ic (zk_xn x) zk_nm, vx_ot w = true ∧ w ∈ zkT := by
  unfold zk_thB at h
  simp only [Bool.and_eq_true, decide_eq_true_eq] at h
  refine ⟨h.1.1, fun w hw => ?_⟩
  obtain ⟨i, hi, e⟩ := List.getElem_of_mem hw
  have h2 := List.all_eq_true.mp h.2 (w, ps[i]'(h.1.2 ▸ hi)) (by
    rw [List.mem_iff_getElem]
    exact ⟨i, by rw [List.length_zip, ← h.1.2, Nat.min_self]; exact hi, by rw [List.getElem_zip, e]⟩)
  rw [Bool.and_eq_true] at h2
  exact ⟨h2.1, zk_chk_mem h2.2⟩
theorem zk_f_thr {M x j ic : Nat} (h : zk_xok M x j ic = true) : zk_own M = "PropertyStore" ∧ Bundle.fit (zk_xn x) = true ∧ (∃ tx, (j, tx) ∈ zk_xs) ∧ ∀ w ∈ Cond.initialized (zk_xn x) :: vx_atS (zk_own M) ic (zk_xn x) zk_nm, vx_ot w = true ∧ w ∈ zkT := by
  unfold zk_xok at h
  simp only [Bool.and_eq_true, Bool.or_eq_true] at h
  obtain ⟨⟨h1, h2⟩, h3⟩ := h
  have ho : zk_own M = "PropertyStore" := by
    have h9 : zk_pl M = 0 := Nat.eq_of_beq_eq_true h1
    by_cases hM : M < 163
    · have h8 : zk_nth zk_pn (zk_pl M) = some (zk_own M) := of_decide_eq_true (List.all_eq_true.mp zk_pok_ok M (List.mem_range.mpr hM))
      rw [h9] at h8
      exact (Option.some.inj h8).symm
    · rw [zk_big (by omega)] at h9
      cases h9
  obtain ⟨tx, htx⟩ := Option.isSome_iff_exists.mp h3
  rw [ho]
  rcases h2 with h2 | h2
  · rw [Nat.eq_of_beq_eq_true h2.1, Nat.eq_of_beq_eq_true h2.2]
    exact ⟨rfl, (zk_thU zk_th0).1, ⟨tx, zk_lk_mem htx⟩, (zk_thU zk_th0).2⟩
  · rw [Nat.eq_of_beq_eq_true h2.1, Nat.eq_of_beq_eq_true h2.2]
    exact ⟨rfl, (zk_thU zk_th1).1, ⟨tx, zk_lk_mem htx⟩, (zk_thU zk_th1).2⟩
/-- what stays while nothing up to b changes and the tables grow warmer: the script; the statics and texts that an exception's making reads; which exceptions are not each other -/
def zk_Cn (sc b : Nat) (X : zkX) (t : State) : Prop := va_X sc X.1 X.2 t t.heap ∧ sc ≤ b ∧ vx_Zq Bundle.tN "UNASSIGNED_STACK" Bundle.steD (fun q => b < q) t t.heap ∧ vx_Zq Bundle.tN "SUPPRESSED_SENTINEL" Bundle.listD (fun q => b < q) t t.heap ∧ (∀ q ∈ zk_xs, ∃ a, vk_R "PropertyStore" q.1 q.2 a t) ∧
  ∀ x y c1 c2, x < 2 → y < 2 → x ≠ y → t.vm.findClass (zk_xn x) = some c1 → t.vm.findClass (zk_xn y) = some c2 → t.vm.assignable c1 c2 = false
def zk_Cl (sc b : Nat) (X : zkX) (s : State) : Prop := ∀ t : State, s.WarmedH t.vm → (∀ q : Nat, q ≤ b → t.heap[q]? = s.heap[q]?) → zk_Cn sc b X t
theorem zk_Cl.to {sc b : Nat} {X : zkX} {s t : State} (h : zk_Cl sc b X s) (h1 : s.WarmedH t.vm) (h2 : ∀ q : Nat, q ≤ b → t.heap[q]? = s.heap[q]?) : zk_Cl sc b X t :=
  fun u g1 g2 => h u (State.WarmedH.trans h1 g1) (fun q hq => (g2 q hq).trans (h2 q hq))
theorem zk_Cl.now {sc b : Nat} {X : zkX} {s : State} (h : zk_Cl sc b X s) : zk_Cn sc b X s := h s (State.WarmedH.refl s) (fun _ _ => rfl)
def zk_Pc (D : va_G) (aC : FieldType → ClassId) (sc b : Nat) (X : zkX) (as : List Value) (h : zkH) (args : Array Value) (s : State) : Prop := args = (as.map (zk_v sc b)).toArray ∧ zk_R D aC sc b h s.heap ∧ va_K D zkCl (zkTy aC) s ∧ zk_Cl sc b X s
/-- the end of an invocation from s, by the abstract outcome o -/
def zk_oc (sc b : Nat) (s : State) (o : zkO) (oc : Outcome) (t : State) : Prop := match o.1 with
  | .inl v => oc = .returned (v.map (zk_v sc b))
  | .inr x => ∃ (a : Nat) (cell : Cell), oc = .threw a ∧ t.heap[a]? = some cell ∧ cell.vm = .none ∧ s.vm.findClass (zk_xn x) = some cell.cls ∧ x < 2
def zk_Qc (D : va_G) (aC : FieldType → ClassId) (sc b : Nat) (o : zkO) (s : State) (oc : Outcome) (t : State) : Prop := zk_oc sc b s o oc t ∧ zk_R D aC sc b o.2 t.heap ∧ ∀ q : Nat, q ≤ b → t.heap[q]? = s.heap[q]?
def zk_Fr (b : Nat) (h0 : zkH) (o : zkO) (s t : State) (L : List Loc) : Prop := s.WarmedH t.vm ∧ s.sameButNew ({ t with vm := s.vm } : State) L (o.2.2.length - h0.2.length) (o.2.1 - h0.1) ∧ ∀ q ∈ L, b < q.base
/-- the room of a frame that may have d frames above it -/
def zk_rm (d : Nat) (h0 : zkH) (o : zkO) : Room := { frames := d, cells := o.2.2.length - h0.2.length, slots := o.2.1 - h0.1, locals := 33 * d + 60 }
def zk_ws (M : Nat) : List Cond := zk_cw M :: zkT
def zk_Met (l : Launch) (D : va_G) (aC : FieldType → ClassId) (sc b : Nat) (X : zkX) (d M : Nat) (as : List Value) (h : zkH) (o : zkO) : Prop :=
  MetFree l (zk_yn M) (headSpec (zk_ws M) (zk_rm d h o)) (zk_Pc D aC sc b X as h) (fun _ _ _ _ _ => True) (fun _ s oc t => zk_Qc D aC sc b o s oc t ∧ ∃ L, zk_Fr b h o s t L)
def zk_ZQ (D : va_G) (aC : FieldType → ClassId) (sc b : Nat) (below : List Frame) (h0 : zkH) (o : zkO) (s : State) (t : State) : Prop := ∃ oc, t.status = .running ∧ Ended t below oc ∧ zk_Qc D aC sc b o s oc t ∧ ∃ L, zk_Fr b h0 o s t L
section ZS8
variable {p : Program} {l : Launch} {e : Env} {R : Room} {s : State} {m : MethodId} {args : Array Value} {below : List Frame} {meth : Method} {c : Code} {H : Heap} {locs : List Loc} {cells slots : Nat} {Q Q2 : State → Prop}
theorem zk_mono {g : JFrame} (hq : ∀ t, Q t → Q2 t) (k : W p l e R s m args below meth c H locs cells slots Q g) : W p l e R s m args below meth c H locs cells slots Q2 g := fun T hT X => by
  obtain ⟨t, a, b⟩ := k T hT X
  exact ⟨t, a, hq t b⟩
variable {cc : ByteArray} {pc nx tg : Nat} {ls : Array Slot} {sc b d M : Nat} {st : List Value} {i : Instr} {h0 h : zkH} {D : va_G} {aC : FieldType → ClassId} {X : zkX} {lv : zkL} {o : zkO}
theorem zk_mq {q : zkO} (hJ : zk_J D aC sc b s h0 h H locs cells slots) (ho : q.2 = h) (t : State) (z : MQ below (fun _ s oc t => zk_Qc D aC sc b q s oc t) args s cells slots (fun q => b < q) t) : zk_ZQ D aC sc b below h0 q s t := by
  obtain ⟨oc, z1, z2, z3, L, ⟨-, z5, z6⟩, z7⟩ := z
  obtain ⟨-, -, -, h4, h5, -⟩ := hJ
  refine ⟨oc, z1, z2, z3, L, z5, ?_, z7⟩
  rw [ho, h4, h5, Nat.add_sub_cancel_left, Nat.add_sub_cancel_left]
  exact z6
theorem zk_qc (hJ : zk_J D aC sc b s h0 h H locs cells slots) {v : Option Value} : ∀ t : State, t.heap = H → s.WarmedH t.vm → zk_Qc D aC sc b (.inl v, h) s (.returned (v.map (zk_v sc b))) t := by
  intro t ht _
  exact ⟨rfl, by rw [ht]; exact hJ.1, fun q hq => by rw [ht]; exact hJ.2.1 q hq⟩
theorem zk_s_end (hexec : p.tables.exec = Jvm.exec) (hb : c.code = cc) (hr : meth.sig.returnType = zk_rt M) (hlocks : meth.locks = false) (hd : decode cc pc = .ok (i, zk_il i pc nx)) (hJ : zk_J D aC sc b s h0 h H locs cells slots) (hs : zk_end M i (pc, lv, st, h) = some o) : W p l e R s m args below meth c H locs cells slots (zk_ZQ D aC sc b below h0 o s) (F0 m pc ls (st.map (zk_v sc b))) := by
  cases i with
  | ireturn =>
    simp only [zk_end] at hs
    split at hs
    · rename_i x
      split at hs
      · rename_i hrt
        cases hs
        exact zk_mono (zk_mq hJ rfl) (W.iret hexec hb (hr.trans hrt) (zk_qc (v := some (.int x)) hJ) hJ.2.2.1 hd hlocks)
      · rename_i hrt
        split at hs
        · rename_i hx
          cases hs
          refine zk_mono (zk_mq hJ rfl) (W.zret hexec hb (hr.trans hrt) ?_ (zk_qc (v := some (.int x)) hJ) hJ.2.2.1 hd hlocks)
          show narrow .boolean (.int x) = .int x
          have h9 : narrow .boolean (.int x) = .int (vp_nar .boolean x) := rfl
          rw [h9, hx]
        · cases hs
      · cases hs
    · cases hs
  | lreturn =>
    simp only [zk_end] at hs
    split at hs
    · rename_i x
      split at hs
      · rename_i hrt
        cases hs
        exact zk_mono (zk_mq hJ rfl) (W.lret hexec hb (hr.trans hrt) (zk_qc (v := some (.long x)) hJ) hJ.2.2.1 hd hlocks)
      · cases hs
    · cases hs
  | areturn =>
    simp only [zk_end] at hs
    split at hs
    · rename_i x
      split at hs
      · rename_i ty hrt
        cases hs
        exact zk_mono (zk_mq hJ rfl) (W.aret hexec hb (hr.trans hrt) (Or.inr ⟨ty, rfl⟩) (Or.inr ⟨_, rfl⟩) (zk_qc (v := some (.ref x)) hJ) hJ.2.2.1 hd hlocks)
      · cases hs
    · cases hs
  | return_ =>
    simp only [zk_end] at hs
    split at hs
    · split at hs
      · rename_i hrt
        cases hs
        exact zk_mono (zk_mq hJ rfl) (W.vret hexec hb (hr.trans hrt) (zk_qc (v := none) hJ) hJ.2.2.1 hd hlocks)
      · cases hs
    · cases hs
  | _ => simp only [zk_end] at hs; cases hs
/-- throw new -/
theorem zk_s_thr (hexec : p.tables.exec = Jvm.exec) (hb : c.code = zk_by M) (hml : c.maxLocals = ls.size) (hl : l.stackTraces = false) (hown : s.vm.findClass (zk_own M) = some m.cls) (hlocks : meth.locks = false) (hts : ∀ w ∈ zkT, w.before args s = true) (htb : c.exceptionTable.toList.map (fun h => (h.startPc, h.endPc, h.handlerPc, h.catchType)) = zk_hd M) (hCl : zk_Cl sc b X s)
    (hi : zk_ins M pc = some (i, nx, tg)) (hbd : zk_bud d M i = true) (hJ : zk_J D aC sc b s h0 h H locs cells slots) (hs : zk_thr M i nx (pc, lv, st, h) = some o) (hrf : d ≤ R.frames) (hrl : 33 * d + 60 ≤ R.locals) (hrc : o.2.2.length - h0.2.length ≤ R.cells) (hrs : o.2.1 - h0.1 ≤ R.slots) : W p l e R s m args below meth c H locs cells slots (zk_ZQ D aC sc b below h0 o s) (F0 m pc ls (st.map (zk_v sc b))) := by
  unfold zk_thr at hs
  split at hs
  · rename_i k
    split at hs
    · rename_i x hx
      split at hs
      · rename_i n2 t2 h2
        split at hs
        · rename_i j n3 t3 h3
          split at hs
          · rename_i ic n4 t4 h4
            split at hs
            · rename_i n5 t5 h5
              cases hq : ((zk_hd M).isEmpty && zk_xok M x j ic && Nat.ble ((st.map Value.category).sum) 8) with
              | false => simp only [hq] at hs; cases hs
              | true =>
                simp only [hq] at hs
                cases hs
                simp only [Bool.and_eq_true] at hq
                obtain ⟨⟨q1, q2⟩, q3⟩ := hq
                have hsum := Nat.le_of_ble_eq_true q3
                obtain ⟨-, d0, e0, -⟩ := zk_f_ins hi
                obtain ⟨-, d2, e2, -⟩ := zk_f_ins h2
                obtain ⟨-, d3, e3, -⟩ := zk_f_ins h3
                obtain ⟨-, d4, e4, -⟩ := zk_f_ins h4
                obtain ⟨-, d5, e5, -⟩ := zk_f_ins h5
                have e0 : nx = pc + 3 := e0
                have e2 : n2 = nx + 1 := e2
                have e3 : n3 = n2 + 2 := e3
                have e4 : n4 = n3 + 3 := e4
                subst e0; subst e2; subst e3; subst e4
                have hd6 : 6 ≤ d := by
                  simp only [zk_bud, hx] at hbd
                  exact Nat.le_of_ble_eq_true hbd
                obtain ⟨-, hk, hx2⟩ := zk_f_xc hx
                obtain ⟨w1, w4, ⟨tx, w3⟩, w5⟩ := zk_f_thr q2
                obtain ⟨hX, hsc, hU, hN, hstr, -⟩ := hCl.now
                obtain ⟨sa, hsa⟩ := hstr _ w3
                have hout : ∀ y ∈ c.exceptionTable.toList, covers y (pc + 3 + 1 + 2 + 3) = false := by
                  have h9 : zk_hd M = [] := List.isEmpty_iff.mp q1
                  rw [h9, List.map_eq_nil_iff] at htb
                  rw [htb]
                  exact fun y hy => absurd hy List.not_mem_nil
                have hlen : (zk_push h 6 none).2.length = h.2.length + 1 := by simp [zk_push]
                have hsl : (zk_push h 6 none).1 = h.1 + 6 := rfl
                have hrc' : h.2.length + 1 - h0.2.length ≤ R.cells := by rw [← hlen]; exact hrc
                have hrs' : h.1 + 6 - h0.1 ≤ R.slots := by rw [← hsl]; exact hrs
                have j4 := hJ.2.2.2.1
                have j5 := hJ.2.2.2.2.1
                refine zk_mono (fun t z => ?_) (zk_throwS (names := zk_nm) (A := fun q => b < q) (mc := cells + 1) (ms := slots + 6) (Qc := fun _ _ _ _ => False) (XC := fun E _ t => E = zk_xn x ∧ t.heap.size = H.size + 1 ∧ ∀ q : Nat, q < H.size → t.heap[q]? = H[q]?) (free := fun q => b < q) hexec hb hl hown w4 (by decide) (hts _ hk) (hts _ (w5 _ (List.mem_cons_self)).2) (by rw [w1]; exact hsa) (fun w hw => hts _ (w5 _ (List.mem_cons_of_mem _ hw)).2) (fun w hw => by
                  rcases List.mem_cons.mp hw with z | z
                  · rw [z]; rfl
                  · exact (w5 w z).1) hU hN ⟨hJ.grown, fun q z1 z2 => hJ.2.1 q (Nat.not_lt.mp z2), hJ.2.2.1⟩ hml.symm d0 d2 d3 d4 d5 hout (by show 2 + 3 < R.frames; omega) (by
                  rw [zk_catsum]
                  show _ + (13 * (2 + 1) + 43) ≤ R.locals
                  omega) (by omega) (by omega) hlocks (fun t _ z1 z2 => ⟨rfl, z1, z2⟩) hJ.2.2.1 (Nat.le_refl _) (Nat.le_refl _))
                obtain ⟨oc, z1, z2, z3⟩ := z
                rcases z3 with ⟨z3, -⟩ | ⟨a, rfl, E, ce, L, ⟨rfl, z4, z5⟩, z6, z7, z8, z9, z10, z11⟩
                · exact z3.elim
                · refine ⟨_, z1, z2, ⟨⟨a, ce, rfl, z6, z7, z8, hx2⟩, hJ.1.push z4 z5 (fun e1 he => by cases he), fun q hq2 => (z5 q (by rw [hJ.1.1]; have := (List.getElem?_eq_some_iff.mp hJ.1.2.1).1; omega)).trans (hJ.2.1 q hq2)⟩, L, z9, ?_, z11⟩
                  show s.sameButNew _ L ((zk_push h 6 none).2.length - h0.2.length) ((zk_push h 6 none).1 - h0.1)
                  rw [hlen, hsl, show h.2.length + 1 - h0.2.length = cells + 1 by omega, show h.1 + 6 - h0.1 = slots + 6 by omega]
                  exact z10
            · cases hs
          · cases hs
        · cases hs
      · cases hs
    · cases hs
  · cases hs
end ZS8

section ZSA
variable {tb : Tables} {e : Env} {s target : State} {g : JFrame} {c : Code} {below : List Frame} {a : Addr}
/-- out of a frame whose handlers are not for the exception -/
theorem zk_left (h : At s g.method c below) {meth : Method} {vm2 : Vm} (hm : vm2.method? g.method = some meth) (hl : meth.locks = false) (hlocked : g.locked = none) (hentered : g.entered = [])
    (hfind : ∀ (Q : Handler → Pre) (E : CtlPost) (d : Bool) (acts : List Action), wp (findHandler g a) Q E e d acts ((s.setTop g).pushFrame (.throwing a)) ↔ Q .none d acts (((s.setTop g).pushFrame (.throwing a)).setVm vm2))
    (hrest : Steps tb e below ((s.setVm vm2).setFrames (.throwing a :: s.frames.tail)) target) : Steps tb e below ((s.setTop g).pushFrame (.throwing a)) target := by
  obtain ⟨hgo, hw⟩ := h.throwing a
  refine Steps.head hgo hw ?_
  rw [stepThread_throwing (frames_entered h.top _)]
  have key : (stepThrowing e ((s.setTop g).pushFrame (.throwing a)) a (.java g :: s.frames.tail)).1 = (((s.setTop g).pushFrame (.throwing a)).setVm vm2).setFrames (.throwing a :: s.frames.tail) := by
    simp only [stepThrowing, searchFrame, vmDo]
    generalize hr : Sem.go _ e false [] _ = res
    have hm2 : (((s.setTop g).pushFrame (.throwing a)).setVm vm2).vm.method? g.method = some meth := hm
    obtain ⟨as, rfl, ha⟩ := Sem.eq_ok_of hr (a := Handler.none) (s' := ((s.setTop g).pushFrame (.throwing a)).setVm vm2) (acts' := [])
      (by cases hp : e.platform.frameOwnsMonitors <;> simp [hfind _ _ _ _, hm, hl, hlocked, hentered, hp, leaveIfLocked])
    rfl
  rw [key]
  obtain ⟨g₀, hg⟩ := Option.isSome_iff_exists.mp h.top
  obtain ⟨r, hr⟩ := State.topJava?_eq_some.mp hg
  have cm : ∀ F : List Frame, (s.setFrames F).setVm vm2 = (s.setVm vm2).setFrames F := fun _ => rfl
  rw [State.pushFrame, State.setTop_of_frames _ hr, State.setFrames_setFrames, cm, State.setFrames_setFrames]
  exact hrest
end ZSA
section ZSB
variable {p : Program} {l : Launch} {e : Env} {R : Room} {s : State} {m : MethodId} {args : Array Value} {below : List Frame} {meth : Method} {c : Code}
variable {D : va_G} {aC : FieldType → ClassId} {sc b d M : Nat} {X : zkX} {h0 : zkH} {o : zkO}
/-- a callee comes back: what stands then -/
theorem zk_s_call (hF : zk_Fx p l R s m args meth c D aC sc b X d M h0 o) {T : State} {locs : List Loc} {cells slots : Nat} (X0 : Stand p l e R s m args below meth c T locs cells slots) {d2 M2 pc nx : Nat} {i : Instr} {ls : Array Slot} {st as rest : List Value} {h : zkH} {o2 : zkO}
    (hJ : zk_J D aC sc b s h0 h T.heap locs cells slots) (hls : ls.size = zk_mxl M) (hi : zk_inv M i st h = some (M2, as, rest)) (hd : decode c.code pc = .ok (i, zk_il i pc nx)) (hd2 : d = d2 + 1) (hMet : M2 < 162 → zk_Met l D aC sc b X d2 M2 as h o2) (hle : zk_le h o2.2) (hle2 : zk_le o2.2 o.2) :
    ∃ (T2 : State) (L : List Loc) (cells2 slots2 : Nat), zk_il i pc nx = 3 ∧ Stand p l e R s m args below meth c T2 L cells2 slots2 ∧ zk_J D aC sc b s h0 o2.2 T2.heap L cells2 slots2 ∧
      (∀ v, o2.1 = .inl v → Steps p.tables e below (T.setTop (F0 m pc ls (st.map (zk_v sc b)))) (T2.setTop (F0 m (pc + 3) ls ((v.toList ++ rest).map (zk_v sc b))))) ∧
      (∀ x, o2.1 = .inr x → ∃ (a : Nat) (cell : Cell), T2.heap[a]? = some cell ∧ cell.vm = .none ∧ s.vm.findClass (zk_xn x) = some cell.cls ∧ x < 2 ∧ Steps p.tables e below (T.setTop (F0 m pc ls (st.map (zk_v sc b)))) ((T2.setTop (F0 m pc ls (rest.map (zk_v sc b)))).pushFrame (.throwing a))) := by
  obtain ⟨hexec, hb, hml, hrt, hlocks, hname, hown, hts, htb, hK, hCl, hst, hrf, hrl, hrc, hrs⟩ := hF
  obtain ⟨mk, vm1, hM2, hil, hsum, hnamed, X1, hstep⟩ := zk_into X0 hexec hts hown hK hJ.1 hi hd (ls := ls) (nx := nx)
  have hW : s.WarmedH vm1 := X1.warmed
  obtain ⟨v1, v2, v3, v4, v5, v6⟩ := zk_f_cw hM2
  have hts1 : ∀ w ∈ zkT, w.before (as.map (zk_v sc b)).toArray (T.setVm vm1) = true := zkT_warm (U := T.setVm vm1) hW hts
  obtain ⟨mk2, methY, cY, n1, n2, n3, -, n5, -, -, -, -⟩ := zk_cwn (hts1 _ v1)
  have hn1 : (T.setVm vm1).methodNamed? (zk_yn M2) = s.methodNamed? (zk_yn M2) := named_alike (U := s) (U' := T.setVm vm1) hW.alike _
  rw [hnamed] at hn1
  cases hn1.symm.trans n1
  obtain ⟨kY, hkY, -⟩ := className_of_methodNamed hn1
  have hini : kY.init = .initialized := Cond.initialized_spec (findClass_of_methodNamed hn1) hkY (hts1 _ v2)
  have j4 := hJ.2.2.2.1
  have j5 := hJ.2.2.2.2.1
  obtain ⟨le1, le2⟩ := hle
  obtain ⟨le3, le4⟩ := hle2
  obtain ⟨oc, t, T2, L, X2, hheap, hvm, hQ, hL, hret, hthr⟩ := zk_cb X1 (y := zk_yn M2) (S := headSpec (zk_ws M2) (zk_rm d2 h o2)) (Lp := fun _ L => ∀ q ∈ L, b < q.base) (k := o2.2.2.length - h.2.length) (n := o2.2.1 - h.1) (len := 3) (hMet hM2)
    (fun a first oc t hq => by
      obtain ⟨-, L, z1, z2, z3⟩ := hq
      exact ⟨L, z1, z2, z3⟩)
    (g := F0 m pc ls (rest.map (zk_v sc b))) (ig := i) (mk := mk) (a := (as.map (zk_v sc b)).toArray) (wt := 8) rfl (hls.trans hml.symm) (by rw [← hil]; exact hd)
    (by
      show 2 * 0 + ((rest.map (zk_v sc b)).map fun v => v.category).sum ≤ 8
      rw [zk_catsum]; omega) hn1 n2 n3 hkY hini (by show d2 + 1 ≤ R.frames; omega) (by
      show 8 + (cY.maxLocals + 11) + (33 * d2 + 60) ≤ R.locals
      rw [n5]; omega) (by show cells + (o2.2.2.length - h.2.length) ≤ R.cells; omega) (by show slots + (o2.2.1 - h.1) ≤ R.slots; omega)
    (atoms_intro (fun w hw => by
      rcases List.mem_cons.mp hw with z | z
      · rw [z]; exact hts1 _ v1
      · exact hts1 _ z))
    (by
      have hvmC : ((T.setVm vm1).calling (F0 m pc ls (rest.map (zk_v sc b))) mk (as.map (zk_v sc b)).toArray).vm = vm1 := rfl
      refine ⟨rfl, hJ.1, va_K.moved (U := (T.setVm vm1).calling (F0 m pc ls (rest.map (zk_v sc b))) mk (as.map (zk_v sc b)).toArray) (u := s) hW.alike hK, ?_⟩
      exact hCl.to (t := (T.setVm vm1).calling (F0 m pc ls (rest.map (zk_v sc b))) mk (as.map (zk_v sc b)).toArray) hW (fun q hq => hJ.2.1 q hq))
  obtain ⟨⟨hoc, hR2, hlow⟩, -⟩ := hQ
  have hJ2 : zk_J D aC sc b s h0 o2.2 T2.heap (locs ++ L) (cells + (o2.2.2.length - h.2.length)) (slots + (o2.2.1 - h.1)) := by
    refine ⟨by rw [hheap]; exact hR2, fun q hq => by rw [hheap]; exact (hlow q hq).trans (hJ.2.1 q hq), fun q hq => ?_, by omega, by omega, hJ.2.2.2.2.2⟩
    rcases List.mem_append.mp hq with z | z
    · exact hJ.2.2.1 q z
    · exact hL q z
  refine ⟨T2, locs ++ L, _, _, hil, X2, hJ2, fun v hv => ?_, fun x hx => ?_⟩
  · unfold zk_oc at hoc
    rw [hv] at hoc
    have h1 := hret _ hoc
    refine hstep _ (fun acts => ?_)
    have h2 : ((v.toList ++ rest).map (zk_v sc b)) = (v.map (zk_v sc b)).toList ++ rest.map (zk_v sc b) := by
      rw [List.map_append]
      cases v <;> rfl
    rw [h2]
    rw [doInvoke_state]
    exact h1
  · unfold zk_oc at hoc
    rw [hx] at hoc
    obtain ⟨a, cell, h1, h2, h3, h4, h5⟩ := hoc
    refine ⟨a, cell, by rw [hheap]; exact h2, h3, ?_, h5, ?_⟩
    · have h6 : vm1.findClass (zk_xn x) = some cell.cls := h4
      rw [hW.alike.findClass] at h6
      exact h6
    · refine hstep _ (fun acts => ?_)
      rw [doInvoke_state]
      exact hthr _ h1
end ZSB
section ZSC
variable {p : Program} {l : Launch} {e : Env} {R : Room} {s : State} {m : MethodId} {args : Array Value} {below : List Frame} {meth : Method} {c : Code}
variable {D : va_G} {aC : FieldType → ClassId} {sc b d M : Nat} {X : zkX} {h0 : zkH} {o : zkO}
/-- a handler's place: the exception goes into a local -/
theorem zk_s_hnd (hF : zk_Fx p l R s m args meth c D aC sc b X d M h0 o) {hp n2 a : Nat} {lv lv2 : zkL} {ls : Array Slot} {H : Heap} {locs : List Loc} {cells slots : Nat} {Q : State → Prop} (hlv : lv_has ls (zk_mxl M) (zk_lv sc b lv)) (hh : zk_hnd M hp lv = some (n2, lv2))
    (kk : ∀ ls2, lv_has ls2 (zk_mxl M) (zk_lv sc b lv2) → W p l e R s m args below meth c H locs cells slots Q (F0 m n2 ls2 [])) : W p l e R s m args below meth c H locs cells slots Q (F0 m hp ls [.ref a]) := by
  obtain ⟨hexec, hb, -⟩ := hF
  unfold zk_hnd at hh
  split at hh
  · rename_i k nx tg hi
    cases hq : Nat.blt k (zk_mxl M) with
    | false => rw [hq] at hh; cases hh
    | true =>
      rw [hq] at hh
      cases hh
      obtain ⟨-, d0, e0, -⟩ := zk_f_ins hi
      have e0 : n2 = hp + 2 := e0
      subst e0
      refine lv_astore hexec hb d0 hlv (Nat.le_of_ble_eq_true hq) rfl (fun ls' h9 => kk ls' ⟨h9.1, h9.2.1, fun q hq2 => h9.2.2 q ?_⟩)
      rw [zk_lv_del]
      exact List.mem_cons_of_mem _ hq2
  · rename_i k nx tg hi
    cases hq : Nat.blt k.val (zk_mxl M) with
    | false => rw [hq] at hh; cases hh
    | true =>
      rw [hq] at hh
      cases hh
      obtain ⟨-, d0, e0, -⟩ := zk_f_ins hi
      have e0 : n2 = hp + 1 := e0
      subst e0
      refine lv_astore_n hexec hb d0 rfl hlv (Nat.le_of_ble_eq_true hq) rfl (fun ls' h9 => kk ls' ⟨h9.1, h9.2.1, fun q hq2 => h9.2.2 q ?_⟩)
      rw [zk_lv_del]
      exact List.mem_cons_of_mem _ hq2
  · cases hh
theorem zk_s_run {call : Nat → List Value → zkH → Option zkO} (hF : zk_Fx p l R s m args meth c D aC sc b X d M h0 o) (hcle : ∀ M as h o, call M as h = some o → zk_le h o.2)
    (hcall : ∀ M2 as h o2, call M2 as h = some o2 → ∃ d2, d = d2 + 1 ∧ (M2 < 162 → zk_Met l D aC sc b X d2 M2 as h o2)) :
    ∀ (n pc : Nat) (lv : zkL) (st : List Value) (h : zkH) (ls : Array Slot) (H : Heap) (locs : List Loc) (cells slots : Nat), zk_run X call d M n (pc, lv, st, h) = some o → lv_has ls (zk_mxl M) (zk_lv sc b lv) → zk_J D aC sc b s h0 h H locs cells slots →
      W p l e R s m args below meth c H locs cells slots (zk_ZQ D aC sc b below h0 o s) (F0 m pc ls (st.map (zk_v sc b))) := by
  intro n
  induction n with
  | zero => intro pc lv st h ls H locs cells slots hr; cases hr
  | succ n ih =>
    intro pc lv st h ls H locs cells slots hr hlv hJ
    have hF0 := hF
    obtain ⟨hexec, hb, hml, hrt, hlocks, hname, hown, hts, htb, hK, hCl, hst, hrf, hrl, hrc, hrs⟩ := hF
    have hF := hF0
    obtain ⟨hX, hsc, -, -, -, hxno⟩ := hCl.now
    have hmls : c.maxLocals = ls.size := hml.trans hlv.1.symm
    unfold zk_run at hr
    split at hr
    · cases hr
    · rename_i i nx tg hi
      have hi : zk_ins M pc = some (i, nx, tg) := hi
      obtain ⟨-, hd, hnx, htg⟩ := zk_f_ins hi
      cases hbd : zk_bud d M i with
      | false => rw [hbd] at hr; cases hr
      | true =>
      rw [hbd, cond_true] at hr
      split at hr
      · rename_i s2 h2
        unfold zk_loc at h2
        split at h2
        · rename_i pc2 lv2 st2 g
          cases h2
          exact zk_s1 hexec hb hown hts hd hnx rfl hlv g (fun ls2 hl2 => ih pc2 lv2 st2 h ls2 H locs cells slots hr hl2 hJ)
        · split at h2
          · rename_i pc2 st2 g
            cases h2
            exact zk_s2 hexec hb hd hnx g (ih pc2 lv st2 h ls H locs cells slots hr hlv hJ)
          · split at h2
            · rename_i pc2 st2 g
              cases h2
              exact zk_s3 hexec hb hd hnx htg g (ih pc2 lv st2 h ls H locs cells slots hr hlv hJ)
            · split at h2
              · rename_i pc2 st2 hp2 g
                cases h2
                obtain ⟨le1, le2⟩ := zk_run_le hcle d M n _ _ hr
                have le1 : hp2.2.length ≤ o.2.2.length := le1
                have le2 : hp2.1 ≤ o.2.1 := le2
                exact zk_s4 hexec hb hown hname hts hd hnx hK hX hsc hJ g (by omega) (by omega) (fun H2 locs2 cells2 slots2 hJ2 => ih pc2 lv st2 hp2 ls H2 locs2 cells2 slots2 hr hlv hJ2)
              · split at h2
                · rename_i pc2 st2 hp2 g
                  cases h2
                  have hd1 : 1 ≤ d := by
                    clear hr
                    have g : zk_loc5 M i nx st h = some (pc2, st2, hp2) := g
                    cases i with
                    | invokespecial k =>
                      simp only [zk_loc5] at g
                      split at g
                      · rename_i hm
                        simp only [zk_bud, hm] at hbd
                        exact Nat.le_of_ble_eq_true hbd
                      · cases g
                    | invokestatic k =>
                      simp only [zk_loc5] at g
                      split at g
                      · rename_i hm
                        simp only [zk_bud, hm] at hbd
                        exact Nat.le_of_ble_eq_true hbd
                      · cases g
                    | _ => simp only [zk_loc5] at g; cases g
                  exact zk_s5 hexec hb hmls hown hts hd hnx hK hJ g (by omega) (by omega) (fun H2 locs2 cells2 slots2 hJ2 => ih pc2 lv st2 hp2 ls H2 locs2 cells2 slots2 hr hlv hJ2)
                · cases h2
      · split at hr
        · rename_i o2 h3
          cases hr
          exact zk_s_end hexec hb hrt hlocks hd hJ h3
        · split at hr
          · rename_i o2 h4
            cases hr
            exact zk_s_thr hexec hb hmls hst hown hlocks hts htb hCl hi hbd hJ h4 hrf hrl hrc hrs
          · split at hr
            · cases hr
            · rename_i M2 as rest h5
              split at hr
              · cases hr
              · rename_i o2 h6
                have h5 : zk_inv M i st h = some (M2, as, rest) := h5
                have h6 : call M2 as h = some o2 := h6
                have hr : zk_back (zk_run X call d M n) M pc nx lv rest o2 = some o := hr
                obtain ⟨d2, hd2, hMet⟩ := hcall _ _ _ _ h6
                have le1 := hcle _ _ _ _ h6
                have le2 : zk_le o2.2 o.2 := by
                  unfold zk_back at hr
                  split at hr
                  · exact zk_run_le hcle d M n _ _ hr
                  · split at hr
                    · cases hr
                    · cases hr; exact zk_le.rf _
                    · split at hr
                      · cases hr
                      · exact zk_run_le hcle d M n _ _ hr
                intro T hT X0
                rw [← hT] at hJ
                obtain ⟨T2, L, cells2, slots2, hil, X2, hJ2, hret, hthr⟩ := zk_s_call hF X0 hJ hlv.1 h5 (by rw [hb]; exact hd) hd2 hMet le1 le2 (ls := ls)
                have hnx : nx = pc + 3 := by rw [hnx, hil]
                unfold zk_back at hr
                split at hr
                · rename_i v hv
                  have g1 := hret v hv
                  rw [← hnx] at g1
                  obtain ⟨t, g2, g3⟩ := ih nx lv (v.toList ++ rest) o2.2 ls T2.heap L cells2 slots2 hr hlv hJ2 T2 rfl X2
                  exact ⟨t, g1.trans g2, g3⟩
                · rename_i x hx
                  obtain ⟨a, cell, c1, c2, c3, c4, g1⟩ := hthr x hx
                  have hpl : e.platform.magicAccessors = ({} : Platform).magicAccessors := by rw [X0.admits.platform]
                  have hAt : At T2 (F0 m pc ls (rest.map (zk_v sc b))).method c below := X2.here
                  have hfind : ∀ r, zk_catch M pc x (zk_hd M) = some r → ∃ vm2, s.WarmedH vm2 ∧ ∀ (Q : Handler → Pre) (E : CtlPost) (d : Bool) (acts : List Action), wp (findHandler (F0 m pc ls (rest.map (zk_v sc b))) a) Q E e d acts ((T2.setTop (F0 m pc ls (rest.map (zk_v sc b)))).pushFrame (.throwing a)) ↔ Q (match r with | none => .none | some hp => .found hp) d acts (((T2.setTop (F0 m pc ls (rest.map (zk_v sc b)))).pushFrame (.throwing a)).setVm vm2) := by
                    intro r hrr
                    rw [← htb] at hrr
                    obtain ⟨vm2, z1, z2⟩ := zk_find (e := e) (M := M) (x := x) (s0 := s) (args := args) (f := F0 m pc ls (rest.map (zk_v sc b))) (a := a) (cell := cell) hpl hown hts (by rw [c2]; rfl) c3 (fun z c9 q1 q2 q3 => hxno x z _ _ c4 q1 (Ne.symm q2) c3 q3) c.exceptionTable.toList ((T2.setTop (F0 m pc ls (rest.map (zk_v sc b)))).pushFrame (.throwing a)) r X2.warmed c1 hrr
                    refine ⟨vm2, z1, fun Q E d acts => ?_⟩
                    rw [W.findHandler_eq (meth := meth) (code := c) X2.method' X2.code]
                    exact z2 Q E d acts
                  split at hr
                  · cases hr
                  · rename_i hc
                    cases hr
                    obtain ⟨vm2, z1, z2⟩ := hfind _ hc
                    have X3 := X2.noted z1
                    obtain ⟨g₀, hfr⟩ := X3.frames_eq
                    refine ⟨_, g1.trans (zk_left hAt (meth := meth) X3.method' hlocks rfl rfl z2 (Steps.refl _)), .threw a, X3.here.running, ?_, ⟨?_, ?_, ?_⟩, L, ?_⟩
                    · show ((T2.setVm vm2).setFrames (.throwing a :: T2.frames.tail)).frames = .throwing a :: below
                      rw [X2.tail]
                      exact State.frames_setFrames _ (State.cur_lt_of_frames hfr)
                    · exact ⟨a, cell, rfl, c1, c2, c3, c4⟩
                    · exact hJ2.1
                    · exact hJ2.2.1
                    · refine ⟨(X3.ends _).1, ?_, hJ2.2.2.1⟩
                      have q4 : o2.2.2.length - h0.2.length = cells2 := by rw [hJ2.2.2.2.1, Nat.add_sub_cancel_left]
                      have q5 : o2.2.1 - h0.1 = slots2 := by rw [hJ2.2.2.2.2.1, Nat.add_sub_cancel_left]
                      show s.sameButNew _ L (o2.2.2.length - h0.2.length) (o2.2.1 - h0.1)
                      rw [q4, q5]
                      exact (X3.ends _).2
                  · rename_i hp hc
                    split at hr
                    · cases hr
                    · rename_i n2 lv2 hh
                      obtain ⟨vm2, z1, z2⟩ := hfind _ hc
                      have X3 := X2.noted z1
                      obtain ⟨t, g2, g3⟩ := zk_s_hnd hF (a := a) (H := (T2.setVm vm2).heap) hlv hh (fun ls2 hl2 => ih n2 lv2 [] o2.2 ls2 T2.heap L cells2 slots2 hr hl2 hJ2) (T2.setVm vm2) rfl X3
                      exact ⟨t, g1.trans (zk_caught hAt z2 g2), g3⟩
end ZSC

section ZS6
variable {p : Program} {l : Launch} {e : Env} {R : Room} {s : State} {m : MethodId} {args : Array Value} {below : List Frame} {meth : Method} {c : Code} {T : State} {locs : List Loc} {cells slots : Nat}
/-- a callee by its free contract, whatever its end: the caller stands again -/
theorem zk_cb (X : Stand p l e R s m args below meth c T locs cells slots) {y : MethodName} {S : Spec} {P : Array Value → State → Prop} {Qf : Array Value → State → Outcome → State → Prop} {Lp : Outcome → List Loc → Prop} {k n len : Nat}
    (hM : MetFree l y S P (fun _ _ _ _ _ => True) Qf) (hQ : ∀ a first o t, Qf a first o t → ∃ L, first.WarmedH t.vm ∧ first.sameButNew ({ t with vm := first.vm } : State) L k n ∧ Lp o L)
    {g : JFrame} {ig : Instr} {mk : MethodId} {a : Array Value} {methY : Method} {cY : Code} {kY : Class} {wt : Nat} (hg : g.method = m) (hsize : g.locals.size = c.maxLocals) (hdg : decode c.code g.pc = .ok (ig, len)) (hwt : 2 * g.monitorRoom + (g.stack.map fun v => v.category).sum ≤ wt)
    (hn : T.methodNamed? y = some mk) (hmY : T.vm.method? mk = some methY) (hcY : methY.code = some cY) (hkY : T.vm.classes[mk.cls]? = some kY) (hini : kY.init = .initialized)
    (hfr : S.room.frames + 1 ≤ R.frames) (hlo : wt + (cY.maxLocals + 11) + S.room.locals ≤ R.locals) (hce : cells + S.room.cells ≤ R.cells) (hsl : slots + S.room.slots ≤ R.slots) (hpre : S.pre.before a T = true) (hP : P a (T.calling g mk a)) :
    ∃ (o : Outcome) (t T2 : State) (L : List Loc), Stand p l e R s m args below meth c T2 (locs ++ L) (cells + k) (slots + n) ∧ T2.heap = t.heap ∧ T2.vm = t.vm ∧ Qf a (T.calling g mk a) o t ∧ Lp o L ∧
      (∀ v, o = .returned v → Steps p.tables e below (doInvoke e (T.setTop g) [] mk a).1 (T2.setTop { g with pc := g.pc + len, stack := v.toList ++ g.stack })) ∧
      (∀ x, o = .threw x → Steps p.tables e below (doInvoke e (T.setTop g) [] mk a).1 ((T2.setTop g).pushFrame (.throwing x))) := by
  have hAt : At T g.method c below := by rw [hg]; exact X.here
  have happ : S.appliesLoose y e.platform (T.calling g mk a) = true :=
    Spec.appliesLoose_calling (g := g) hAt hdg hn hkY hini (X.room_calling (g := g) (R' := S.room) hsize hmY hcY hfr (by omega) hce hsl) hpre
  obtain ⟨mid, hmid⟩ := hAt.above
  have hframes : (T.setTop g).frames = (.java g :: mid) ++ below := by rw [State.frames_setTop' g hAt.top, hmid]; rfl
  obtain ⟨o, t, hsteps, -, hend, hq⟩ := Steps.callFree hM p X.admits X.cas X.clock (acts := []) hframes happ hP trivial
  have hq' : Qf a (T.calling g mk a) o t := hq
  rw [State.frames_setTop' g hAt.top] at hend
  obtain ⟨L, hW0, hsame0, hLp⟩ := hQ _ _ _ _ hq'
  obtain ⟨e2, q2, q3, q4, q5, q6⟩ := hsame0
  have hW : T.WarmedH t.vm := hW0
  obtain ⟨g₀, hg0⟩ := Option.isSome_iff_exists.mp hAt.top
  obtain ⟨r, hr⟩ := State.topJava?_eq_some.mp hg0
  have e3 : t = ({ (T.calling g mk a).setFrames t.frames with heap := t.heap, slotsUsed := t.slotsUsed } : State).setVm t.vm := by
    have h9 : t = ({ t with vm := (T.calling g mk a).vm } : State).setVm t.vm := rfl
    rw [e2] at h9
    exact h9
  have hr' : (({ T with heap := t.heap, slotsUsed := t.slotsUsed } : State).setVm t.vm).frames = .java g₀ :: r := hr
  have hsame : T.sameButNew ({ T with heap := t.heap, slotsUsed := t.slotsUsed } : State) L k n := by
    refine ⟨?_, q2, q3, q4, q5, q6⟩
    obtain ⟨th, hth, -⟩ := State.frames_cons hr
    show ({ T with heap := t.heap, slotsUsed := t.slotsUsed } : State) = { T.setFrames T.frames with heap := t.heap, slotsUsed := t.slotsUsed }
    rw [State.setFrames_self hth]
  subst hg
  refine ⟨o, t, (({ T with heap := t.heap, slotsUsed := t.slotsUsed } : State).setVm t.vm), L,
    ⟨X.admits, X.cas, X.clock, X.frames, X.room, X.hears, X.method, X.code, (X.here.setHeapUsed t.heap t.slotsUsed).setVm hW.alike, X.tail, State.WarmedH.trans X.warmed hW, X.limits, X.bytes, X.same.trans (hsame.setVm s.vm)⟩, rfl, rfl, hq', hLp, ?_, ?_⟩
  · intro v hv
    subst hv
    obtain ⟨c₂, i₂, len₂, hc₂, hd₂, hf₂⟩ := hend
    have hcc : c₂ = c := by
      have h1 : t.code? g.method = T.code? g.method := by rw [State.code?_eq, State.code?_eq, hW.alike.method?]
      exact Option.some.inj (hc₂.symm.trans (h1.trans hAt.code))
    subst hcc
    have hlen : len₂ = len := by rw [hdg] at hd₂; cases hd₂; rfl
    subst hlen
    have hs₂ : t = (({ T with heap := t.heap, slotsUsed := t.slotsUsed } : State).setVm t.vm).setTop { g with pc := g.pc + len₂, stack := v.toList ++ g.stack } := by
      refine e3.trans ?_
      rw [hf₂, State.calling_eq hAt.top, State.setFrames_setFrames, State.setTop_of_frames _ hr', hr]
      rfl
    rw [← hs₂]
    exact hsteps
  · intro x hx
    subst hx
    have hf₂ : t.frames = .throwing x :: .java g :: T.frames.tail := hend
    have hs₂ : t = ((({ T with heap := t.heap, slotsUsed := t.slotsUsed } : State).setVm t.vm).setTop g).pushFrame (.throwing x) := by
      refine e3.trans ?_
      rw [hf₂, State.calling_eq hAt.top, State.setFrames_setFrames, State.pushFrame, State.frames_setTop _ hr', State.setTop_of_frames _ hr', State.setFrames_setFrames, hr]
      rfl
    rw [← hs₂]
    exact hsteps
end ZS6
/-- a heap only grows -/
def zk_le (h h2 : zkH) : Prop := h.2.length ≤ h2.2.length ∧ h.1 ≤ h2.1
theorem zk_le.rf (h : zkH) : zk_le h h := ⟨Nat.le_refl _, Nat.le_refl _⟩
theorem zk_le.tr {a b c : zkH} (h1 : zk_le a b) (h2 : zk_le b c) : zk_le a c := ⟨Nat.le_trans h1.1 h2.1, Nat.le_trans h1.2 h2.2⟩
theorem zk_le_set (h : zkH) (a : Nat) (e : zkE) : zk_le h (zk_set h a e) := ⟨by simp [zk_set], Nat.le_refl _⟩
theorem zk_le_push (h : zkH) (n : Nat) (e : Option zkE) : zk_le h (zk_push h n e) := ⟨by simp [zk_push], by simp [zk_push]⟩
theorem zk_loc4_le {X : zkX} {M : Nat} {i : Instr} {nx pc2 : Nat} {st st2 : List Value} {h h2 : zkH} (hs : zk_loc4 X M i nx st h = some (pc2, st2, h2)) : zk_le h h2 := by
  unfold zk_loc4 at hs
  split at hs <;> (repeat' split at hs) <;> first
    | cases hs; done
    | (cases hs; exact zk_le.rf _)
    | (cases hs; exact zk_le_set _ _ _)
    | (cases hs; exact zk_le_push _ _ _)
    | (revert hs; cases (Nat.beq _ _) <;> intro hs <;> (repeat' split at hs) <;> first | cases hs; done | (cases hs; exact zk_le.rf _))
    | (revert hs; cases (Nat.beq _ _ && _ && _ && _) <;> intro hs <;> first | cases hs; done | (cases hs; exact zk_le_set _ _ _))
theorem zk_loc5_le {M : Nat} {i : Instr} {nx pc2 : Nat} {st st2 : List Value} {h h2 : zkH} (hs : zk_loc5 M i nx st h = some (pc2, st2, h2)) : zk_le h h2 := by
  unfold zk_loc5 at hs
  split at hs <;> (repeat' split at hs) <;> first
    | cases hs; done
    | (cases hs; exact zk_le_set _ _ _)
    | (revert hs; cases (Nat.ble _ _) <;> intro hs <;> first | cases hs; done | (cases hs; exact zk_le.rf _))
theorem zk_loc_le {X : zkX} {M : Nat} {i : Instr} {nx tg : Nat} {s s2 : zkS} (hs : zk_loc X M i nx tg s = some s2) : zk_le s.2.2.2 s2.2.2.2 := by
  unfold zk_loc at hs
  split at hs
  · cases hs; exact zk_le.rf _
  · split at hs
    · cases hs; exact zk_le.rf _
    · split at hs
      · cases hs; exact zk_le.rf _
      · split at hs
        · rename_i h4
          cases hs; exact zk_loc4_le h4
        · split at hs
          · rename_i h5
            cases hs; exact zk_loc5_le h5
          · cases hs
theorem zk_run_le {X : zkX} {call : Nat → List Value → zkH → Option zkO} (hc : ∀ M as h o, call M as h = some o → zk_le h o.2) (d M : Nat) : ∀ (n : Nat) (s : zkS) (o : zkO), zk_run X call d M n s = some o → zk_le s.2.2.2 o.2 := by
  intro n
  induction n with
  | zero => intro s o h; cases h
  | succ n ih =>
    intro s o h
    unfold zk_run at h
    split at h
    · cases h
    · rename_i i nx tg hi
      cases hbd : zk_bud d M i with
      | false => rw [hbd] at h; cases h
      | true =>
      rw [hbd, cond_true] at h
      split at h
      · rename_i s2 h2
        exact (zk_loc_le h2).tr (ih _ _ h)
      · split at h
        · rename_i o2 h3
          cases h
          unfold zk_end at h3
          (repeat' split at h3) <;> first | cases h3; done | (cases h3; exact zk_le.rf _)
        · split at h
          · rename_i o2 h4
            cases h
            unfold zk_thr at h4
            (repeat' split at h4) <;> first
              | cases h4; done
              | (revert h4; cases (_ && _ && _) <;> intro h4 <;> first | cases h4; done | (cases h4; exact zk_le_push _ _ _))
          · split at h
            · cases h
            · rename_i M2 as rest h5
              split at h
              · cases h
              · rename_i o2 h6
                have g1 := hc _ _ _ _ h6
                unfold zk_back at h
                split at h
                · exact g1.tr (ih _ _ h)
                · split at h
                  · cases h
                  · cases h; exact g1
                  · split at h
                    · cases h
                    · exact g1.tr (ih _ _ h)
theorem zk_call_le {X : zkX} {n : Nat} : ∀ (d M : Nat) (as : List Value) (h : zkH) (o : zkO), zk_call X n d M as h = some o → zk_le h o.2 := by
  intro d
  induction d with
  | zero => intro M as h o q; cases q
  | succ d ih =>
    intro M as h o q
    unfold zk_call at q
    cases hb : Nat.ble (lg_sl as).length (zk_mxl M) with
    | false => rw [hb] at q; cases q
    | true =>
      rw [hb] at q
      exact zk_run_le ih d M n _ _ q
section ZS7
/-- the search for a handler, where the rows' classes may be looked at for the first time -/
theorem zk_go_yes {Q : Handler → Pre} {E : CtlPost} {e : Env} {d : Bool} {acts : List Action} {s : State} {f : JFrame} {a : Addr} {x : ExceptionTableEntry} {t : List ExceptionTableEntry} {c : ClassId} {cell : Cell} (hx : covers x f.pc = true) (h0 : x.catchType ≠ 0)
    (hl : s.vm.ClassLinks e.platform f.method.cls x.catchType c) (hcell : s.heap[a]? = some cell) (hobj : ∀ k, cell.vm ≠ .statics k) (hk : ∃ k, s.vm.classes[cell.cls]? = some k) (hc : ∃ k, s.vm.classes[c]? = some k) :
    wp (findHandler.go f a (x :: t)) Q E e d acts s ↔ if s.vm.assignable cell.cls c = true then Q (.found x.handlerPc) d acts (s.setVm (s.vm.noted f.method.cls x.catchType (.cls c))) else wp (findHandler.go f a t) Q E e d acts (s.setVm (s.vm.noted f.method.cls x.catchType (.cls c))) := by
  simp only [covers] at hx
  have hal : s.vm.Alike (s.vm.noted f.method.cls x.catchType (.cls c)) := (Vm.Alike.refl s.vm).noted _ _ _
  obtain ⟨k1, hk1⟩ := hk
  obtain ⟨k2, hk2⟩ := hc
  obtain ⟨y1, hy1, -⟩ := hal.2.2 _ _ hk1
  obtain ⟨y2, hy2, -⟩ := hal.2.2 _ _ hk2
  have hasg : (s.vm.noted f.method.cls x.catchType (.cls c)).assignable cell.cls c = s.vm.assignable cell.cls c := hal.assignable _ _
  obtain ⟨ha, ht⟩ := (resolveClass_links e.toSetting hl).op (op := VmOp.resolveClass f.method.cls x.catchType) rfl
  cases hfit : s.vm.assignable cell.cls c <;> rw [hfit] at hasg <;>
    simp [findHandler.go, hx, h0, ha, ht, hcell, hobj, hy1, hy2, hasg, VmOp.dirties, VmOp.acts]
theorem zk_find {e : Env} {M x : Nat} {s0 : State} {args : Array Value} {f : JFrame} {a : Addr} {cell : Cell} (hpl : e.platform.magicAccessors = ({} : Platform).magicAccessors) (hown : s0.vm.findClass (zk_own M) = some f.method.cls) (hts : ∀ w ∈ zkT, w.before args s0 = true) (hobj : cell.vm.isStatics = false) (hcls : s0.vm.findClass (zk_xn x) = some cell.cls) (hxno : ∀ (z : Nat) (c9 : ClassId), z < 2 → z ≠ x → s0.vm.findClass (zk_xn z) = some c9 → s0.vm.assignable cell.cls c9 = false) :
    ∀ (tb : List ExceptionTableEntry) (S : State) (r : Option Nat), s0.WarmedH S.vm → S.heap[a]? = some cell → zk_catch M f.pc x (tb.map (fun h => (h.startPc, h.endPc, h.handlerPc, h.catchType))) = some r →
      ∃ vm2, s0.WarmedH vm2 ∧ ∀ (Q : Handler → Pre) (E : CtlPost) (d : Bool) (acts : List Action), wp (findHandler.go f a tb) Q E e d acts S ↔ Q (match r with | none => .none | some hp => .found hp) d acts (S.setVm vm2) := by
  intro tb
  induction tb with
  | nil =>
    intro S r hW hcell hr
    cases hr
    exact ⟨S.vm, hW, fun Q E d acts => by rw [W.findHandler_go_nil, State.setVm_self]⟩
  | cons y ys ih =>
    intro S r hW hcell hr
    rw [List.map_cons] at hr
    unfold zk_catch at hr
    cases hcov : (Nat.ble y.startPc f.pc && Nat.blt f.pc y.endPc) with
    | false =>
      rw [hcov] at hr
      obtain ⟨vm2, h1, h2⟩ := ih S r hW hcell hr
      have hcv : covers y f.pc = false := by
        simp only [covers]
        rw [Bool.and_eq_false_iff] at hcov ⊢
        rcases hcov with z | z
        · exact Or.inl (decide_eq_false (fun q => by rw [Nat.ble_eq_true_of_le q] at z; cases z))
        · exact Or.inr (decide_eq_false (fun q => by rw [show Nat.blt f.pc y.endPc = true from Nat.ble_eq_true_of_le q] at z; cases z))
      exact ⟨vm2, h1, fun Q E d acts => by rw [W.findHandler_go_skip hcv]; exact h2 Q E d acts⟩
    | true =>
      rw [hcov] at hr
      simp only [cond_true] at hr
      rw [Bool.and_eq_true] at hcov
      have hcv : covers y f.pc = true := by
        simp only [covers]
        rw [Bool.and_eq_true]
        exact ⟨decide_eq_true (Nat.le_of_ble_eq_true hcov.1), decide_eq_true (Nat.le_of_ble_eq_true hcov.2)⟩
      split at hr
      · cases hr
      · rename_i z hz
        obtain ⟨w1, w2⟩ := zk_f_xk hz
        obtain ⟨c9, hc9, hlk⟩ := Cond.classLink_spec hown (hts _ w2) e.platform hpl
        obtain ⟨dk, _, _, kt, hd0, _, _, _, _, hkt, _, hopen⟩ := hlk.here
        obtain ⟨k0, hk0⟩ := Vm.classAt_of_findClass hcls
        obtain ⟨k0', hk0', -⟩ := hW.alike.2.2 _ _ hk0
        obtain ⟨kt', hkt', -⟩ := hW.alike.2.2 _ _ hkt
        have hW2 := hW.noted hd0 hopen (State.rightAt_cls hlk)
        have hgo := fun (Q : Handler → Pre) (E : CtlPost) (d : Bool) (acts : List Action) => zk_go_yes (Q := Q) (E := E) (e := e) (d := d) (acts := acts) (s := S) (f := f) (a := a) (x := y) (t := ys) hcv w1 (hW.classLinks hlk) hcell (VmData.ne_statics_of hobj) ⟨k0', hk0'⟩ ⟨kt', hkt'⟩
        have hasg : S.vm.assignable cell.cls c9 = s0.vm.assignable cell.cls c9 := hW.alike.assignable _ _
        cases hbq : Nat.beq z x with
        | true =>
          rw [hbq] at hr
          cases hr
          have e1 : z = x := Nat.eq_of_beq_eq_true hbq
          subst e1
          cases Option.some.inj (hc9.symm.trans hcls)
          exact ⟨_, hW2, fun Q E d acts => by rw [hgo, hasg, if_pos (va_asg _ _)]⟩
        | false =>
          rw [hbq] at hr
          have hne : z ≠ x := fun q => by rw [q, Nat.beq_refl] at hbq; cases hbq
          have hno : s0.vm.assignable cell.cls c9 = false := hxno z c9 (zk_f_xc hz).2.2 hne hc9
          obtain ⟨vm2, h1, h2⟩ := ih (S.setVm (S.vm.noted f.method.cls y.catchType (.cls c9))) r hW2 hcell hr
          exact ⟨vm2, h1, fun Q E d acts => by rw [hgo, hasg, if_neg (by rw [hno]; decide)]; exact h2 Q E d acts⟩
variable {tb : Tables} {e : Env} {s target : State} {g : JFrame} {c : Code} {below : List Frame} {a : Addr}
theorem zk_caught (h : At s g.method c below) {pc : Nat} {vm2 : Vm} (hfind : ∀ (Q : Handler → Pre) (E : CtlPost) (d : Bool) (acts : List Action), wp (findHandler g a) Q E e d acts ((s.setTop g).pushFrame (.throwing a)) ↔ Q (.found pc) d acts (((s.setTop g).pushFrame (.throwing a)).setVm vm2))
    (hrest : Steps tb e below ((s.setVm vm2).setTop { g with pc := pc, stack := [.ref a] }) target) : Steps tb e below ((s.setTop g).pushFrame (.throwing a)) target := by
  obtain ⟨hgo, hw⟩ := h.throwing a
  refine Steps.head hgo hw ?_
  rw [stepThread_throwing (frames_entered h.top _)]
  have key : (stepThrowing e ((s.setTop g).pushFrame (.throwing a)) a (.java g :: s.frames.tail)).1 = (((s.setTop g).pushFrame (.throwing a)).setVm vm2).setFrames (.java { g with pc := pc, stack := [.ref a] } :: s.frames.tail) := by
    simp only [stepThrowing, searchFrame, vmDo]
    generalize hr : Sem.go _ e false [] _ = res
    obtain ⟨as, rfl, ha⟩ := Sem.eq_ok_of hr (a := Handler.found pc) (s' := ((s.setTop g).pushFrame (.throwing a)).setVm vm2) (acts' := []) (by simp [hfind _ _ _ _])
    rfl
  rw [key]
  obtain ⟨g₀, hg⟩ := Option.isSome_iff_exists.mp h.top
  obtain ⟨r, hr⟩ := State.topJava?_eq_some.mp hg
  have hr2 : (s.setVm vm2).frames = .java g₀ :: r := hr
  rw [State.setTop_of_frames _ hr2] at hrest
  have cm : ∀ F : List Frame, (s.setFrames F).setVm vm2 = (s.setVm vm2).setFrames F := fun _ => rfl
  rw [State.pushFrame, State.setTop_of_frames _ hr, State.setFrames_setFrames, hr, cm, State.setFrames_setFrames]
  exact hrest
end ZS7

/-- what the word of a method's code says -/
theorem zk_cwn {M : Nat} {args : Array Value} {s : State} (h : (zk_cw M).before args s = true) : ∃ mk meth c, s.methodNamed? (zk_yn M) = some mk ∧ s.vm.method? mk = some meth ∧ meth.code = some c ∧ c.code = zk_by M ∧ c.maxLocals = zk_mxl M ∧ c.exceptionTable.toList.map (fun h => (h.startPc, h.endPc, h.handlerPc, h.catchType)) = zk_hd M ∧ meth.sig.returnType = zk_rt M ∧ meth.locks = false ∧ parseMethodDescriptor (zk_yn M).desc = some meth.sig := by
  unfold zk_cw at h
  split at h
  · rename_i hh
    cases hn : s.methodNamed? (zk_yn M) with
    | none => simp [Cond.before, Cond.holds, Cond.value, hn] at h
    | some mk =>
      obtain ⟨meth, c, h1, h2, h3, h4, h5, h6, h7, h8⟩ := Cond.code_spec hn h
      refine ⟨mk, meth, c, rfl, h1, h2, h3, h4, ?_, h5, h6, h8⟩
      rw [hh]
      simp only [Array.isEmpty_iff] at h7
      rw [h7]
      rfl
  · rename_i q r hh
    obtain ⟨mk, meth, c, hn, h1, h2, h3, h4, h5, h6, h7, h8⟩ := Cond.codeWith_spec h
    exact ⟨mk, meth, c, hn, h1, h2, h3, h4, h5.trans hh.symm, h6, h7, h8⟩
theorem zk_sig {M : Nat} {args : Array Value} {s : State} {mk : MethodId} {meth : Method} (hn : s.methodNamed? (zk_yn M) = some mk) (hm : s.vm.method? mk = some meth) (h : (zk_cw M).before args s = true) : parseMethodDescriptor (zk_yn M).desc = some meth.sig := by
  obtain ⟨mk2, meth2, c, h1, h2, -, -, -, -, -, -, h8⟩ := zk_cwn h
  cases h1.symm.trans hn
  cases h2.symm.trans hm
  exact h8
section ZS9
variable {p : Program} {l : Launch} {e : Env} {R : Room} {s : State} {m : MethodId} {args : Array Value} {below : List Frame} {meth : Method} {c : Code}
/-- what is fixed in a frame -/
def zk_Fx (p : Program) (l : Launch) (R : Room) (s : State) (m : MethodId) (args : Array Value) (meth : Method) (c : Code) (D : va_G) (aC : FieldType → ClassId) (sc b : Nat) (X : zkX) (d M : Nat) (h0 : zkH) (o : zkO) : Prop :=
  p.tables.exec = Jvm.exec ∧ c.code = zk_by M ∧ c.maxLocals = zk_mxl M ∧ meth.sig.returnType = zk_rt M ∧ meth.locks = false ∧ meth.name = (zk_yn M).name ∧ s.vm.findClass (zk_own M) = some m.cls ∧ (∀ w ∈ zkT, w.before args s = true) ∧
  c.exceptionTable.toList.map (fun h => (h.startPc, h.endPc, h.handlerPc, h.catchType)) = zk_hd M ∧ va_K D zkCl (zkTy aC) s ∧ zk_Cl sc b X s ∧ l.stackTraces = false ∧ d ≤ R.frames ∧ 33 * d + 60 ≤ R.locals ∧ o.2.2.length - h0.2.length ≤ R.cells ∧ o.2.1 - h0.1 ≤ R.slots
/-- the step into a method -/
theorem zk_into {T : State} {locs : List Loc} {cells slots : Nat} (X0 : Stand p l e R s m args below meth c T locs cells slots) (hexec : p.tables.exec = Jvm.exec) (hts : ∀ w ∈ zkT, w.before args s = true) {M M2 : Nat} {i : Instr} {st as rest : List Value} {h : zkH} {D : va_G} {aC : FieldType → ClassId} {sc b pc nx : Nat} {ls : Array Slot} (hown : s.vm.findClass (zk_own M) = some m.cls) (hK : va_K D zkCl (zkTy aC) s) (hR : zk_R D aC sc b h T.heap) (hi : zk_inv M i st h = some (M2, as, rest)) (hd : decode c.code pc = .ok (i, zk_il i pc nx)) :
    ∃ (mk : MethodId) (vm1 : Vm), M2 < 162 ∧ zk_il i pc nx = 3 ∧ (rest.map Value.category).sum ≤ 8 ∧ s.methodNamed? (zk_yn M2) = some mk ∧ Stand p l e R s m args below meth c (T.setVm vm1) locs cells slots ∧
      ∀ target, (∀ acts, Steps p.tables e below (doInvoke e ((T.setVm vm1).setTop (F0 m pc ls (rest.map (zk_v sc b)))) acts mk (as.map (zk_v sc b)).toArray).1 target) → Steps p.tables e below (T.setTop (F0 m pc ls (st.map (zk_v sc b)))) target := by
  have pops : ∀ (n : Nat) (acc st as r : List Value), zk_pop n acc st = some (as, r) → as.length = n + acc.length ∧ acc.reverse ++ st = as.reverse ++ r := by
    intro n
    induction n with
    | zero => intro acc st as r h; cases h; exact ⟨by omega, rfl⟩
    | succ n ih =>
      intro acc st as r h
      cases st with
      | nil => cases h
      | cons v st =>
        obtain ⟨h1, h2⟩ := ih (v :: acc) st as r h
        refine ⟨by rw [h1, List.length_cons]; omega, ?_⟩
        rw [← h2, List.reverse_cons, List.append_assoc]
        rfl
  have nps : ∀ {y : MethodName} {n : Nat}, zk_nps y = some n → ∀ sig, parseMethodDescriptor y.desc = some sig → n = sig.parameters.length := by
    intro y n h sig hs
    unfold zk_nps at h
    rw [hs] at h
    exact (Option.some.inj h).symm
  cases i with
  | invokevirtual k =>
    simp only [zk_inv] at hi
    split at hi
    · rename_i M3 n ci hm
      split at hi
      · rename_i as2 bb r hp
        split at hi
        · rename_i c2 fs hc
          cases hq : (Nat.beq ci c2 && Nat.ble ((r.map Value.category).sum) 8) with
          | false => rw [hq] at hi; cases hi
          | true =>
            rw [hq] at hi
            cases hi
            rw [Bool.and_eq_true] at hq
            have e1 : ci = c2 := Nat.eq_of_beq_eq_true hq.1
            subst e1
            obtain ⟨ps, hps⟩ := zk_f_mt hm
            simp only [zk_mtB, Bool.and_eq_true, decide_eq_true_eq] at hps
            obtain ⟨⟨⟨⟨⟨w1, w2⟩, w3⟩, w4⟩, w5⟩, w6⟩ := hps
            obtain ⟨v1, v2, v3, v4, v5, v6⟩ := zk_f_cw w4
            split at w6
            · rename_i w hw
              rw [zk_nth_get] at hw
              have w6 : w.1 = zk_own M2 := of_decide_eq_true w6
              obtain ⟨mk, methM, hnamed, hmethM, hstM, habM⟩ := Cond.instanceMethod_spec (hts _ (zk_chk_mem w2))
              obtain ⟨g1, g2, g3⟩ := hR.at hc
              obtain ⟨w9, y1, cellB, y2, y3, y4, -⟩ := g1
              cases Option.some.inj (y1.symm.trans hw)
              have hcls : s.vm.findClass (zk_own M2) = some cellB.cls := by
                rw [← w6, y3]
                exact (hK.1 ci _ hw).2.1
              obtain ⟨c3, r2, m2, q1, q2, q3, q4, kP, hkP, hkPi⟩ := Cond.selects_spec (hts _ (zk_chk_mem w3))
              cases hcls.symm.trans q1
              cases (State.methodFound?_of_named hnamed ⟨v4, v5⟩).symm.trans q2
              cases hnamed.symm.trans q3
              have hselP : selectMethod e.platform s.vm cellB.cls mk = .method mk := by rw [Launch.admits_selectMethod X0.admits]; exact q4
              obtain ⟨p1, p2⟩ := pops _ _ _ _ _ hp
              have hsig : parseMethodDescriptor (zk_yn M2).desc = some methM.sig := zk_sig hnamed hmethM (hts _ v1)
              obtain ⟨vm1, X1, hstep⟩ := X0.invokevirtual hexec hown (hts _ (zk_chk_mem w1)) hnamed hmethM hstM hkP hkPi ⟨v4, v5⟩ (a := zk_ad sc b bb) (cell := cellB) y2
                (fun z hz => by rw [y4] at hz; cases hz) hselP hmethM habM hkP hkPi (g := F0 m pc ls (st.map (zk_v sc b))) rfl (argsL := as2.map (zk_v sc b)) (rest := rest.map (zk_v sc b))
                (by rw [List.length_map, p1]; exact nps w5 _ hsig) (by
                  have p3 : st = as2.reverse ++ .ref bb :: rest := p2
                  show st.map (zk_v sc b) = (as2.map (zk_v sc b)).reverse ++ Value.ref (zk_ad sc b bb) :: rest.map (zk_v sc b)
                  rw [p3, List.map_append, List.map_reverse, List.map_cons]
                  rfl) hd
              exact ⟨mk, vm1, w4, rfl, Nat.le_of_ble_eq_true hq.2, hnamed, X1, hstep⟩
            · cases w6
        · cases hi
      · cases hi
    · cases hi
  | invokestatic k =>
    simp only [zk_inv] at hi
    split at hi
    · rename_i M3 n ci hm
      split at hi
      · rename_i as2 r hp
        cases hq : Nat.ble ((r.map Value.category).sum) 8 with
        | false => rw [hq] at hi; cases hi
        | true =>
          rw [hq] at hi
          cases hi
          obtain ⟨ps, hps⟩ := zk_f_mt hm
          simp only [zk_mtB, Bool.and_eq_true, decide_eq_true_eq] at hps
          obtain ⟨⟨⟨w1, w2⟩, w4⟩, w5⟩ := hps
          obtain ⟨v1, v2, v3, v4, v5, v6⟩ := zk_f_cw w4
          obtain ⟨mk, methM, -, hnamed, hmethM, -, -, -, -, -, -, hsig⟩ := zk_cwn (hts _ v1)
          have hstatic : methM.isStatic = true := Cond.static_spec hnamed hmethM (hts _ (zk_chk_mem w2))
          obtain ⟨kP, hkP, -⟩ := className_of_methodNamed hnamed
          have hinitP : kP.init = .initialized := Cond.initialized_spec (findClass_of_methodNamed hnamed) hkP (hts _ v2)
          obtain ⟨p1, p2⟩ := pops _ _ _ _ _ hp
          obtain ⟨vm1, X1, hstep⟩ := X0.invokestatic hexec hown (hts _ (zk_chk_mem w1)) hnamed hmethM hstatic hkP hinitP ⟨v4, v5⟩ (g := F0 m pc ls (st.map (zk_v sc b))) rfl (argsL := as.map (zk_v sc b)) (rest := rest.map (zk_v sc b))
            (by rw [List.length_map, p1]; exact nps w5 _ hsig) (by
              have p3 : st = as.reverse ++ rest := p2
              show st.map (zk_v sc b) = (as.map (zk_v sc b)).reverse ++ rest.map (zk_v sc b)
              rw [p3, List.map_append, List.map_reverse]) hd
          exact ⟨mk, vm1, w4, rfl, Nat.le_of_ble_eq_true hq, hnamed, X1, hstep⟩
      · cases hi
    · cases hi
  | invokespecial k =>
    simp only [zk_inv] at hi
    split at hi
    · rename_i M3 n ci hm
      split at hi
      · rename_i as2 bb r hp
        cases hq : Nat.ble ((r.map Value.category).sum) 8 with
        | false => rw [hq] at hi; cases hi
        | true =>
          rw [hq] at hi
          cases hi
          obtain ⟨ps, hps⟩ := zk_f_mt hm
          simp only [zk_mtB, Bool.and_eq_true, decide_eq_true_eq] at hps
          obtain ⟨⟨⟨⟨⟨⟨w1, w2⟩, w3⟩, w6⟩, w7⟩, w4⟩, w5⟩ := hps
          obtain ⟨v1, v2, v3, v4, v5, v6⟩ := zk_f_cw w4
          obtain ⟨p1, p2⟩ := pops _ _ _ _ _ hp
          have hpl : e.platform.magicAccessors = ({} : Platform).magicAccessors := by rw [X0.admits.platform]
          have hcode : (Cond.code (zk_yn M2) (zk_by M2) (zk_mxl M2) none).before args s = true := by
            have h9 := hts _ v1
            unfold zk_cw at h9
            rw [w7, w6] at h9
            exact h9
          obtain ⟨mk, methM, cM, kP, vm1, hnamed, hmethM, hcodeM, -, hlocalsM, -, hkP, -, hW1, hstep⟩ := Steps.initColdArgs (e := e) (f := F0 m pc ls (st.map (zk_v sc b))) (argsL := as2.map (zk_v sc b)) (rest := rest.map (zk_v sc b)) (a := zk_ad sc b bb) X0.here hexec X0.warmed hpl hown w3 ⟨v4, v5⟩ (hts _ (zk_chk_mem w1)) (hts _ (zk_chk_mem w2)) hcode rfl
            (fun sig hs => by rw [List.length_map, p1]; exact nps w5 _ hs) (by
                  have p3 : st = as2.reverse ++ .ref bb :: rest := p2
                  show st.map (zk_v sc b) = (as2.map (zk_v sc b)).reverse ++ Value.ref (zk_ad sc b bb) :: rest.map (zk_v sc b)
                  rw [p3, List.map_append, List.map_reverse, List.map_cons]
                  rfl) hd
          exact ⟨mk, vm1, w4, rfl, Nat.le_of_ble_eq_true hq, hnamed, X0.noted hW1, hstep⟩
      · cases hi
    · cases hi
  | _ => simp only [zk_inv] at hi; cases hi
end ZS9

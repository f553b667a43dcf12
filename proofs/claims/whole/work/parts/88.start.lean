def R_law : String := "PropertyStoreLaw"
def lw_P (b : Addr) (xs : List Int32) (args : Array Value) (s : State) : Prop := args = #[.ref b] ∧ s.IntsAt b xs ∧ xs.length ≤ 4096 ∧ (Jvm.Cond.and given_1 narrow_1).before args s = true
def lw_Q (_ : Array Value) (s : State) (o : Outcome) (t : State) : Prop := o = .returned (some (.int 1)) ∧ Framed s o t [] 601024 7293034
def lw_Z (below : List Frame) (a : Array Value) (s : State) : State → Prop := fun t => ∃ o, t.status = .running ∧ Ended t below o ∧ lw_Q a s o t
/-- the law's end in the abstract machine: true, within the room -/
def zk_Lq (o : zkO) : Prop := o.1 = .inl (some (.int 1)) ∧ o.2.2.length ≤ 601025 ∧ o.2.1 ≤ 7293034
def lw_At (p : Program) (s : State) (m : MethodId) (meth : Method) (c : Code) (b L : Nat) (xs : Nat → Int32) : Prop :=
  p.tables.exec = Jvm.exec ∧ c.code = code ∧ meth.sig.returnType = ret ∧ c.maxLocals = 8 ∧ s.vm.findClass R_law = some m.cls ∧ (∀ w ∈ lw_tbl, w.before #[Value.ref b] s = true) ∧ va_X b L xs s s.heap ∧ b < s.heap.size ∧ meth.locks = false ∧ (Jvm.Cond.and given_1 narrow_1).before #[Value.ref b] s = true ∧ meth.name = "law" ∧ c.exceptionTable.isEmpty = true
theorem zk_by162 : zk_by 162 = code := rfl
theorem whole_from {p : Program} {e : Env} {s : State} {m : MethodId} {below : List Frame} {meth : Method} {c : Code} (l : Launch) (hst : l.stackTraces = false) {b L : Nat} {xs : Nat → Int32} (hp : zk_W (L, xs) 13 162 (0, [(0, .ref 0)], [], (0, [none])) zk_Lq) (C0 : lw_At p s m meth c b L xs) : W p l e room_1 s m #[Value.ref b] below meth c s.heap [] 0 0 (lw_Z below #[Value.ref b] s) (entryFrame m ([Value.ref b] : List Value).toArray 8) := by
  obtain ⟨hexec, hb, hret, hml, hown, htbl, hX, hbl, hlocks, hgv, hname, hempty⟩ := C0
  obtain ⟨n, o, hrun, hq1, hq2, hq3⟩ := hp
  have hts : ∀ w ∈ zkT, w.before #[Value.ref b] s = true := fun w hw => htbl w (List.mem_filter.mp hw).1
  obtain ⟨D, aC, hK⟩ := zk_K0 hts
  have hCl := zk_Cl0 htbl hgv hX hbl
  have hR : zk_R D aC b (s.heap.size - 1) (0, [none]) s.heap := by
    refine ⟨by show s.heap.size = s.heap.size - 1 + 1; omega, rfl, fun k e hk => ?_⟩
    cases k with
    | zero => cases hk
    | succ k => cases hk
  have hJ : zk_J D aC b (s.heap.size - 1) s (0, [none]) (0, [none]) s.heap [] 0 0 := ⟨hR, fun _ _ => rfl, fun _ z => absurd z List.not_mem_nil, rfl, rfl, hR.1⟩
  have htb : c.exceptionTable.toList.map (fun h => (h.startPc, h.endPc, h.handlerPc, h.catchType)) = zk_hd 162 := by
    rw [Array.isEmpty_iff] at hempty
    rw [hempty]
    rfl
  have hF : zk_Fx p l room_1 s m #[Value.ref b] meth c D aC b (s.heap.size - 1) (L, xs) 13 162 (0, [none]) o :=
    ⟨hexec, hb.trans zk_by162.symm, hml, hret, hlocks, hname, hown, hts, htb, hK, hCl, hst, Nat.le_refl 13, by decide, by show o.2.2.length - 1 ≤ 601024; omega, by show o.2.1 - 0 ≤ 7293034; omega⟩
  have hl := lv_entry [Value.ref b] (n := 8) (by show 1 ≤ 8; decide)
  have hv : lv_args 0 [Value.ref b] = zk_lv b (s.heap.size - 1) [(0, .ref 0)] := rfl
  rw [hv] at hl
  have key := zk_s_run (e := e) (below := below) hF (fun M as h o q => zk_call_le 13 M as h o q) (fun M2 as h o2 q => zk_s_met hst D aC b (s.heap.size - 1) (L, xs) n 13 M2 as h o2 q) n 0 [(0, .ref 0)] [] (0, [none]) _ s.heap [] 0 0 hrun hl hJ
  rw [lg_entry_eq]
  refine zk_mono (fun t z => ?_) key
  obtain ⟨oc, z1, z2, ⟨z3, z4, z5⟩, Ls, z6, z7, z8⟩ := z
  unfold zk_oc at z3
  rw [hq1] at z3
  have z3 : oc = .returned (some (.int 1)) := z3
  refine ⟨oc, z1, z2, z3, ⟨_, z3⟩, z6, ?_⟩
  obtain ⟨y1, y2, y3, y4, y5, y6⟩ := z7
  refine ⟨y1, y2, Nat.le_trans y3 ?_, y4, Nat.le_trans y5 ?_, fun a c0 ha => ?_⟩
  · show s.heap.size + (o.2.2.length - 1) ≤ s.heap.size + 601024
    omega
  · show o.2.1 - 0 ≤ 7293034
    omega
  · obtain ⟨c1, g1, g2, g3, g4⟩ := y6 a c0 ha
    refine ⟨c1, g1, g2, g3, fun i _ => g4 i (fun hin => ?_)⟩
    have h1 := z8 _ hin
    have h2 : a < s.heap.size := (Array.getElem?_eq_some_iff.mp ha).1
    have h3 : s.heap.size - 1 < a := h1
    exact absurd h3 (Nat.not_lt.mpr (Nat.le_sub_one_of_lt h2))

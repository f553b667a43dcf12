/-! from the law's entry: the abstract machine's end is the real one's -/
theorem zk_ncast {a b : String} {args : Array Value} {s : State} (h : (Cond.not (Cond.castable a b)).before args s = true) {c1 c2 : ClassId} (h1 : s.vm.findClass a = some c1) (h2 : s.vm.findClass b = some c2) : s.vm.assignable c1 c2 = false := by
  simpa [Cond.before, Cond.holds, Cond.value, h1, h2] using h
theorem zk_arrC {ty : FieldType} {args : Array Value} {s : State} (h : (Cond.arrayClass ty).before args s = true) : ∃ cA, ArrOfT s cA ty ∧ s.vm.findClass ("[" ++ ty.toString) = some cA := by
  obtain ⟨c, k, comp, h1, h2, h3⟩ := Cond.arrayClass_spec h
  exact ⟨c, fun n z => ⟨fun k h => (by cases h), k, h2, comp, h3⟩, h1⟩
theorem zk_inst_ok : ((List.range 5).all fun ci => match zk_nth zkCl ci, zk_nth zk_ciP ci with
  | some w, some q => zk_chk q.1 (.instantiable w.1 w.2.2)
  | _, _ => false) = true := by decide +kernel
theorem zk_f_inst {ci : Nat} {w : vw_C} (hw : zkCl[ci]? = some w) : Cond.instantiable w.1 w.2.2 ∈ zkT := by
  have hlt : ci < 5 := (List.getElem?_eq_some_iff.mp hw).1
  have h1 := List.all_eq_true.mp zk_inst_ok ci (List.mem_range.mpr hlt)
  have hwn : zk_nth zkCl ci = some w := by rw [zk_nth_get]; exact hw
  simp only [hwn] at h1
  split at h1
  · rename_i a b e1 e2
    cases e1
    exact zk_chk_mem h1
  · cases h1
/-- the words of the classes and of the arrays -/
theorem zk_K0 {args : Array Value} {s : State} (hts : ∀ w ∈ zkT, w.before args s = true) : ∃ (D : va_G) (aC : FieldType → ClassId), va_K D zkCl (zkTy aC) s := by
  have key : ∀ ci : Nat, ∃ q : ClassId × (Nat → Nat), ∀ w, zkCl[ci]? = some w → u_Kn s w.1 w.2.1 w.2.2 q.1 q.2 := by
    intro ci
    cases hc : zkCl[ci]? with
    | none => exact ⟨(0, fun _ => 0), fun w hw => by cases hw⟩
    | some w =>
      obtain ⟨cC, iS, h⟩ := u_known (n := w.2.2) hts (zk_f_lay hc) (hts _ (zk_f_inst hc))
      exact ⟨(cC, iS), fun w2 hw2 => by cases hw2; exact h⟩
  obtain ⟨f, hf⟩ := Classical.axiomOfChoice key
  obtain ⟨a1, g1, g2⟩ := zk_arrC (hts _ zk_f_aI)
  obtain ⟨a2, g3, g4⟩ := zk_arrC (hts _ zk_f_aL)
  obtain ⟨a3, g5, g6⟩ := zk_arrC (hts _ zk_f_aB)
  refine ⟨(fun c => (f c).1, fun c => (f c).2), fun t => match t with | .int => a1 | .long => a2 | _ => a3, fun c w hw => hf c w hw, fun k q hq => ?_⟩
  match k, hq with
  | 0, hq => cases hq; exact ⟨g1, g2⟩
  | 1, hq => cases hq; exact ⟨g3, g4⟩
  | 2, hq => cases hq; exact ⟨g5, g6⟩
  | k + 3, hq => cases hq
/-- the words of the start -/
def zk_str1 : Bool := zk_xs.all fun q => lw_tbl.contains (Cond.stringRef "PropertyStore" q.1 q.2)
theorem zk_str1_ok : zk_str1 = true := by decide +kernel
def zk_str2 : Bool := zk_xs.all fun q => (flatC (Jvm.Cond.and given_1 narrow_1)).contains (Cond.exactly (.string "PropertyStore" q.1) "java/lang/String")
theorem zk_str2_ok : zk_str2 = true := by decide +kernel
theorem zk_gv1 : Cond.isRef (.static Bundle.tN "UNASSIGNED_STACK" Bundle.steD) ∈ flatC (Jvm.Cond.and given_1 narrow_1) := by decide +kernel
theorem zk_gv2 : Cond.isRef (.static Bundle.tN "SUPPRESSED_SENTINEL" Bundle.listD) ∈ flatC (Jvm.Cond.and given_1 narrow_1) := by decide +kernel
theorem zk_gv3 : Cond.not (Cond.castable (zk_xn 0) (zk_xn 1)) ∈ flatC (Jvm.Cond.and given_1 narrow_1) := by decide +kernel
theorem zk_gv4 : Cond.not (Cond.castable (zk_xn 1) (zk_xn 0)) ∈ flatC (Jvm.Cond.and given_1 narrow_1) := by decide +kernel
theorem zk_gv5 : Cond.laysStatic Bundle.tN "UNASSIGNED_STACK" Bundle.steD ∈ lw_tbl := by decide +kernel
theorem zk_gv6 : Cond.laysStatic Bundle.tN "SUPPRESSED_SENTINEL" Bundle.listD ∈ lw_tbl := by decide +kernel
theorem zk_gv7 : Cond.initialized Bundle.tN ∈ lw_tbl := by decide +kernel
theorem zk_Cl0 {args : Array Value} {s : State} {sc L : Nat} {xs : Nat → Int32} (hts : ∀ w ∈ lw_tbl, w.before args s = true) (hgv : (Jvm.Cond.and given_1 narrow_1).before args s = true) (hX : va_X sc L xs s s.heap) (hsc : sc < s.heap.size) : zk_Cl sc (s.heap.size - 1) (L, xs) s := by
  have hg := flat_of_before _ hgv
  have hA : ∀ a : Nat, a < s.heap.size → ¬ s.heap.size - 1 < a := fun a ha => by omega
  have hU := vx_Zqof (A := fun q => s.heap.size - 1 < q) (hts _ zk_gv5) (hts _ zk_gv7) (hg _ zk_gv1) hA
  have hN := vx_Zqof (A := fun q => s.heap.size - 1 < q) (hts _ zk_gv6) (hts _ zk_gv7) (hg _ zk_gv2) hA
  intro t hW hlow
  have hlow2 : ∀ a : Nat, a < s.heap.size → ¬ s.heap.size - 1 < a → t.heap[a]? = s.heap[a]? := fun a _ h2 => hlow a (by omega)
  refine ⟨va_X.moved hW.alike (hX.kept (hlow sc (by omega))), by omega, vx_Zq.moved hW.alike (hU.kept hlow2), vx_Zq.moved hW.alike (hN.kept hlow2), fun q hq => ?_, fun x y c1 c2 hx hy hne h1 h2 => ?_⟩
  · have w1 : Cond.stringRef "PropertyStore" q.1 q.2 ∈ lw_tbl := List.contains_iff_mem.mp (List.all_eq_true.mp zk_str1_ok q hq)
    have w2 : Cond.exactly (.string "PropertyStore" q.1) "java/lang/String" ∈ flatC (Jvm.Cond.and given_1 narrow_1) := List.contains_iff_mem.mp (List.all_eq_true.mp zk_str2_ok q hq)
    obtain ⟨a, -, -, -, h1, -⟩ := Cond.exactly_spec (hg _ w2)
    exact ⟨a, (vk_R.of (hts _ w1) h1).warm hW⟩
  · rw [hW.alike.findClass] at h1 h2
    rw [hW.alike.assignable]
    match x, y, hx, hy, hne, h1, h2 with
    | 0, 0, _, _, hne, _, _ => exact absurd rfl hne
    | 0, 1, _, _, _, h1, h2 => exact zk_ncast (hg _ zk_gv3) h1 h2
    | 1, 0, _, _, _, h1, h2 => exact zk_ncast (hg _ zk_gv4) h1 h2
    | 1, 1, _, _, hne, _, _ => exact absurd rfl hne

theorem zk_sl_len (sc b : Nat) (as : List Value) : (lg_sl (as.map (zk_v sc b))).length = (lg_sl as).length := by
  induction as with
  | nil => rfl
  | cons v r ih =>
    simp only [lg_sl, List.map_cons, List.flatMap_cons, List.length_append, zk_v_cat] at ih ⊢
    rw [ih]
    split <;> rfl
theorem zk_args_v (sc b : Nat) (as : List Value) : ∀ i : Nat, lv_args i (as.map (zk_v sc b)) = zk_lv sc b (lv_args i as) := by
  induction as with
  | nil => intro i; rfl
  | cons v r ih =>
    intro i
    simp only [List.map_cons, lv_args, zk_v_cat, zk_lv]
    congr 1
    exact ih _
/-- every call that the abstract machine does, the real one does -/
theorem zk_s_met {l : Launch} (hst : l.stackTraces = false) (D : va_G) (aC : FieldType → ClassId) (sc b : Nat) (X : zkX) (n : Nat) : ∀ (d M : Nat) (as : List Value) (h : zkH) (o : zkO), zk_call X n d M as h = some o → ∃ d2, d = d2 + 1 ∧ (M < 162 → zk_Met l D aC sc b X d2 M as h o) := by
  intro d
  induction d with
  | zero => intro M as h o q; cases q
  | succ d ih =>
    intro M as h o q
    refine ⟨d, rfl, fun hM => ?_⟩
    unfold zk_call at q
    cases hb : Nat.ble (lg_sl as).length (zk_mxl M) with
    | false => rw [hb] at q; cases q
    | true =>
      rw [hb, cond_true] at q
      obtain ⟨v1, v2, v3, v4, v5, v6⟩ := zk_f_cw hM
      refine MetFree.of_bodySF (code := zk_by M) (maxLocals := zk_mxl M) (ret := zk_rt M) v3 ?_ ?_
      · intro args s m hpre hn
        have hw := atoms_spec (ws := zk_ws M) hpre
        obtain ⟨mk, meth, c, n1, n2, n3, n4, n5, n6, n7, n8, n9⟩ := zk_cwn (hw _ List.mem_cons_self)
        cases n1.symm.trans hn
        exact ⟨meth, c, n2, n3, n4, n5, n7, n8⟩
      · intro p e s m args below meth c s₁ B hml hP _
        obtain ⟨hargs, hR, hK, hCl⟩ := hP
        have hw := atoms_spec (ws := zk_ws M) B.pre
        have hts : ∀ w ∈ zkT, w.before args s = true := fun w z => hw w (List.mem_cons_of_mem _ z)
        obtain ⟨mk, meth2, c2, n1, n2, n3, n4, n5, n6, n7, n8, n9⟩ := zk_cwn (hw _ List.mem_cons_self)
        cases n1.symm.trans B.named
        cases n2.symm.trans B.method
        have X0 := Stand.of_body B
        cases n3.symm.trans X0.code
        have hown : s.vm.findClass (zk_own M) = some m.cls := findClass_of_methodNamed B.named
        have hF : zk_Fx p l (zk_rm d h o) s m args meth c D aC sc b X d M h o := ⟨B.exec, n4, n5, n7, n8, (name_of_methodNamed B.named B.method).1, hown, hts, n6, hK, hCl, hst, Nat.le_refl _, Nat.le_refl _, Nat.le_refl _, Nat.le_refl _⟩
        have hh0 : s₁.heap = s.heap := by rw [B.state]; rfl
        have hJ : zk_J D aC sc b s h h s.heap [] 0 0 := ⟨hR, fun _ _ => rfl, fun _ z => absurd z List.not_mem_nil, rfl, rfl, hR.1⟩
        have hl := lv_entry (as.map (zk_v sc b)) (n := zk_mxl M) (by rw [zk_sl_len]; exact Nat.le_of_ble_eq_true hb)
        rw [zk_args_v] at hl
        obtain ⟨t, a1, oc, b1, b2, b3, b4⟩ := zk_s_run (e := e) (below := below) hF (fun M as h o q => zk_call_le d M as h o q) (fun M2 as h o2 q => ih M2 as h o2 q) n 0 (lv_args 0 as) [] h _ s.heap [] 0 0 q hl hJ s₁ hh0 X0
        refine ⟨t, oc, ?_, b1, b2, b3, b4⟩
        rw [hargs, lg_entry_eq]
        exact a1

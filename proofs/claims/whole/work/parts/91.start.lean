/-! the constructors: store, model, the law's start -/
def zHO (t : zSt) : zkH := (554, [none, some (.inr (3, zdf3)), some (.inr (2, [.ref 3])), some (.inr (1, zfM t 5)), some (zcA .int 27 (gA t 0)), some (zcB (gN t) (gB t 0))])
theorem z_Oinit {X : zkX} : zk_C X 4 m_O_init [.ref 2] (8, [none, some (.inr (3, zdf3)), some (.inr (2, zdf2))]) (fun o => ∃ t FL2, o = (.inl none, zHO t) ∧ zI5 zs0 0 FL2 t) := by
  refine zk_enter (lv := [(0, .ref 2)]) rfl rfl ?_
  refine zi_aload_n rfl rfl ?_
  refine zi_objinit rfl rfl rfl rfl ?_
  refine zi_aload_n rfl rfl ?_
  refine zi_new (fs := zdf1) rfl rfl rfl rfl ?_
  refine zi_dupa rfl ?_
  refine zi_callI rfl rfl rfl rfl (zk_C.to z_Minit (fun o ho => ?_))
  obtain ⟨t, FL2, e, hI⟩ := ho
  refine zk_K.okn e ?_
  refine zi_putfield (fs := zdf2) (fs2 := [.ref 3]) (h2 := zHO t) rfl rfl rfl rfl rfl rfl ?_
  exact zi_return rfl rfl ⟨t, FL2, rfl, hI⟩
theorem z_Dinit {X : zkX} {h : zkH} {b : Nat} : zk_C X 2 m_D_init [.ref b] h (fun o => o = (.inl none, h)) := by
  refine zk_enter (lv := [(0, .ref b)]) rfl rfl ?_
  refine zi_aload_n rfl rfl ?_
  refine zi_objinit rfl rfl rfl rfl ?_
  exact zi_return rfl rfl rfl
def zHX (t : zSt) : zkH := (561, [none, some (.inr (3, [.ref 2, .ref 3, .ref 6, .int 0, .long 0, .int 0, .long 0])), some (.inr (2, [.ref 3])), some (.inr (1, zfM t 5)), some (zcA .int 27 (gA t 0)), some (zcB (gN t) (gB t 0)), some (.inr (0, zdf0))])
def zHX1 (t : zSt) : zkH := (554, [none, some (.inr (3, [.ref 2, .null, .null, .int 0, .long 0, .int 0, .long 0])), some (.inr (2, [.ref 3])), some (.inr (1, zfM t 5)), some (zcA .int 27 (gA t 0)), some (zcB (gN t) (gB t 0))])
def zHX2 (t : zSt) : zkH := (554, [none, some (.inr (3, [.ref 2, .ref 3, .null, .int 0, .long 0, .int 0, .long 0])), some (.inr (2, [.ref 3])), some (.inr (1, zfM t 5)), some (zcA .int 27 (gA t 0)), some (zcB (gN t) (gB t 0))])
theorem z_Xinit {X : zkX} : zk_C X 5 m_X_init [.ref 1] (7, [none, some (.inr (3, zdf3))]) (fun o => ∃ t FL2, o = (.inl none, zHX t) ∧ zI5 zs0 0 FL2 t) := by
  refine zk_enter (lv := [(0, .ref 1)]) rfl rfl ?_
  refine zi_aload_n rfl rfl ?_
  refine zi_objinit rfl rfl rfl rfl ?_
  refine zi_aload_n rfl rfl ?_
  refine zi_new (fs := zdf2) rfl rfl rfl rfl ?_
  refine zi_dupa rfl ?_
  refine zi_callI rfl rfl rfl rfl (zk_C.to z_Oinit (fun o ho => ?_))
  obtain ⟨t, FL2, e, hI⟩ := ho
  refine zk_K.okn e ?_
  refine zi_putfield (fs := zdf3) (fs2 := [.ref 2, .null, .null, .int 0, .long 0, .int 0, .long 0]) (h2 := zHX1 t) rfl rfl rfl rfl rfl rfl ?_
  refine zi_aload_n rfl rfl ?_
  refine zi_aload_n rfl rfl ?_
  refine zi_getfield (fs := [.ref 2, .null, .null, .int 0, .long 0, .int 0, .long 0]) (v := .ref 2) rfl rfl rfl rfl ?_
  refine zi_getfield (fs := [.ref 3]) (v := .ref 3) rfl rfl rfl rfl ?_
  refine zi_putfield (fs := [.ref 2, .null, .null, .int 0, .long 0, .int 0, .long 0]) (fs2 := [.ref 2, .ref 3, .null, .int 0, .long 0, .int 0, .long 0]) (h2 := zHX2 t) rfl rfl rfl rfl rfl rfl ?_
  refine zi_aload_n rfl rfl ?_
  refine zi_new (fs := zdf0) rfl rfl rfl rfl ?_
  refine zi_dupa rfl ?_
  refine zi_callI rfl rfl rfl rfl (zk_C.to (zk_C.up (by decide) z_Dinit) (fun o ho => zk_K.okn ho ?_))
  refine zi_putfield (fs := [.ref 2, .ref 3, .null, .int 0, .long 0, .int 0, .long 0]) (fs2 := [.ref 2, .ref 3, .ref 6, .int 0, .long 0, .int 0, .long 0]) (h2 := zHX t) rfl rfl rfl rfl rfl rfl ?_
  exact zi_return rfl rfl ⟨t, FL2, rfl, hI⟩

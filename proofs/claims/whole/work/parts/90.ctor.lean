/-! the constructors: the store's memory -/
theorem zk_W.up {X : zkX} {d d2 M : Nat} {s : zkS} {Q : zkO → Prop} (hd : d ≤ d2) (k : zk_W X d M s Q) : zk_W X d2 M s Q := by
  obtain ⟨n, o, h1, h2⟩ := k
  exact ⟨n, o, zk_run_mono (fun M as h o q => zk_call_mono (Nat.le_refl n) d d2 hd M as h o q) hd M n n (Nat.le_refl n) s o h1, h2⟩
def zH5 (s : zSt) : zkH := (554, [none, some (.inr (3, zdf3)), some (.inr (2, zdf2)), some (.inr (1, zfM s 5)), some (zcA .int 27 (gA s 0)), some (zcB (gN s) (gB s 0))])
theorem h5_M (s : zSt) : zk_cell (zH5 s) 3 = some (.inr (1, zfM s 5)) := rfl
theorem h5_W (s : zSt) : zk_cell (zH5 s) 5 = some (zcB (gN s) (gB s 0)) := rfl
theorem r5_W (X : zkX) (s : zSt) : zk_arr X (zH5 s) 5 = some (zcB (gN s) (gB s 0)) := rfl
theorem s5_W (s : zSt) (f : Nat → Int64) : zk_set (zH5 s) 5 (zcB (gN s) f) = zH5 (sB s 0 f) := rfl
theorem s5_I3 (s : zSt) (v : Int32) : zk_set (zH5 s) 3 (.inr (1, (zfM s 5).set 3 (.int v))) = zH5 (sI s 3 v) := rfl
theorem s5_I4 (s : zSt) (v : Int32) : zk_set (zH5 s) 3 (.inr (1, (zfM s 5).set 4 (.int v))) = zH5 (sI s 4 v) := rfl
theorem z5_setWord_33 {X : zkX} (s : zSt) (r) (hF : F_M_setWord_33 s = some r) : zk_W X 0 m_M_setWord (33, [], [], zH5 s) (fun o => o = (.inl none, zH5 r.2)) := by
  unfold F_M_setWord_33 at hF
  cases hF
  exact zi_return rfl rfl rfl
theorem z5_setWord {X : zkX} {p1 : Int32} {p2 : Int32} {p3 : Int64} {s : zSt} {r} (hF : F_M_setWord p1 p2 p3 s = some r) : zk_C X 1 m_M_setWord [.ref 3, .int p1, .int p2, .long p3] (zH5 s) (fun o => o = (.inl none, zH5 r.2)) := by
  unfold F_M_setWord at hF
  refine zk_enter (lv := [(0, .ref 3), (1, .int p1), (2, .int p2), (3, .long p3)]) rfl rfl ?_
  refine zi_iload_n rfl rfl ?_
  refine zi_iconst (v := (1 : Int32)) rfl rfl ?_
  refine zi_isub rfl ?_
  refine zi_bipush (v := (8 : Int32)) rfl rfl ?_
  refine zi_imul rfl ?_
  refine zi_iload_n rfl rfl ?_
  refine zi_iadd rfl ?_
  refine zi_istore rfl rfl rfl ?_
  refine zi_iload rfl rfl ?_
  refine zi_iflt rfl (fun hc => ?_) (fun hc => ?_)
  · have hF := zf_p hc hF
    exact zk_sb (z5_setWord_33 _ _ hF) rfl trivial
  · have hF := zf_n hc hF
    refine zi_iload rfl rfl ?_
    refine zi_aload_n rfl rfl ?_
    refine zi_getfield rfl rfl (h5_M _) rfl ?_
    refine zi_alen_l (v := _) rfl (r5_W _ _) rfl ?_
    refine zi_icge rfl (fun hc => ?_) (fun hc => ?_)
    · have hF := zf_p hc hF
      exact zk_sb (z5_setWord_33 _ _ hF) rfl trivial
    · have hF := zf_n hc hF
      refine zi_aload_n rfl rfl ?_
      refine zi_getfield rfl rfl (h5_M _) rfl ?_
      refine zi_iload rfl rfl ?_
      refine zi_lload_n rfl rfl ?_
      obtain ⟨hb, hF⟩ := zf_g hF
      refine zi_lastore rfl (h5_W _) (zin_ok hb) (s5_W _ _) ?_
      exact zk_sb (z5_setWord_33 _ _ hF) rfl trivial
theorem z5_release {X : zkX} {p1 : Int32} {s : zSt} {r} (hF : F_M_release p1 s = some r) : zk_C X 2 m_M_release [.ref 3, .int p1] (zH5 s) (fun o => o = (.inl none, zH5 r.2)) := by
  unfold F_M_release at hF
  refine zk_enter (lv := [(0, .ref 3), (1, .int p1)]) rfl rfl ?_
  refine zi_aload_n rfl rfl ?_
  refine zi_iload_n rfl rfl ?_
  refine zi_iconst (v := (1 : Int32)) rfl rfl ?_
  refine zi_aload_n rfl rfl ?_
  refine zi_getfield rfl rfl (h5_M _) rfl ?_
  refine zi_i2l rfl ?_
  obtain ⟨v1, s2, hm, hF⟩ := zf_b hF
  refine zi_callV rfl rfl rfl (h5_M _) rfl (zk_C.to (zk_C.up (by decide) (z5_setWord hm)) (fun o ho => zk_K.okn ho ?_))
  refine zi_aload_n rfl rfl ?_
  refine zi_iload_n rfl rfl ?_
  refine zi_putfield rfl rfl (h5_M _) rfl rfl (s5_I3 _ _) ?_
  refine zi_aload_n rfl rfl ?_
  refine zi_dupa rfl ?_
  refine zi_getfield rfl rfl (h5_M _) rfl ?_
  refine zi_iconst (v := (1 : Int32)) rfl rfl ?_
  refine zi_iadd rfl ?_
  refine zi_putfield rfl rfl (h5_M _) rfl rfl (s5_I4 _ _) ?_
  cases hF
  exact zi_return rfl rfl rfl
/-- what the memory is, blocks above k being free -/
def zI5 (s0 : zSt) (k : Nat) (FL : List Nat) (s : zSt) : Prop := zOk 64 s ∧ zSame s0 s ∧ gE s = gE s0 ∧ gI s 2 = gI s0 2 ∧ zFr 64 FL s ∧ (∀ c ∈ FL, k < c) ∧ FL.length + k = 64 ∧ ∀ c, Wd s c 0 = 0
theorem z5_loop {X : zkX} {s0 : zSt} : ∀ (k : Nat) (FL : List Nat) (s : zSt), k ≤ 64 → zI5 s0 k FL s → zk_W X 2 m_M_init (32, [(0, .ref 3), (1, .int (nI k))], [], zH5 s) (fun o => ∃ t FL2, o = (.inl none, zH5 t) ∧ zI5 s0 0 FL2 t) := by
  intro k
  induction k with
  | zero =>
    intro FL s hk h
    refine zi_iload_n rfl rfl ?_
    refine zi_ifleT rfl (by decide) ?_
    exact zi_return rfl rfl ⟨s, FL, rfl, h⟩
  | succ k ih =>
    intro FL s hk h
    obtain ⟨h1, h2, h3, h4, h5, h6, h7, h8⟩ := h
    obtain ⟨s2, r1, r2, r3, r4, r5, r6, r7⟩ := z_release h1 h5 (b := k + 1) (by omega) hk (fun q => by have := h6 _ q; omega)
    refine zi_iload_n rfl rfl ?_
    refine zi_ifleF rfl (fun q => by have := (qI_le0 (a := k + 1) (by omega)).mp q; omega) ?_
    refine zi_aload_n rfl rfl ?_
    refine zi_iload_n rfl rfl ?_
    refine zi_callV rfl rfl rfl (h5_M _) rfl (zk_C.to (zk_C.up (by decide) (z5_release r1)) (fun o ho => zk_K.okn ho ?_))
    have hdec : nI (k + 1) + (-1 : Int32) = nI k := by
      have e : nI (k + 1) + (-1) = nI (k + 1) - nI 1 := by rw [Int32.sub_eq_add_neg]; rfl
      rw [e, qI_sub (by omega)]; rfl
    refine zi_iinc (y := nI k) rfl rfl rfl hdec rfl ?_
    refine zi_goto rfl ?_
    refine zk_sb (ih ((k + 1) :: FL) s2 (by omega) ⟨r2, h2.tr r3, r4.trans h3, r5.trans h4, r6, fun c hc => ?_, by rw [List.length_cons]; omega, fun c => ?_⟩) rfl ⟨rfl, rfl, trivial⟩
    · rcases List.mem_cons.mp hc with e | e
      · omega
      · have := h6 c e; omega
    · rw [r7 c 0 (by decide) (by omega)]; exact h8 c
def zs0 : zSt := (fun k => bif Nat.beq k 2 then 64 else (bif Nat.beq k 14 then 1 else 0), fun _ => 0, fun _ _ => 0, fun _ _ => 0, 512, (80406, .inl []))
theorem zI5_0 : zI5 zs0 64 [] zs0 := by
  refine ⟨⟨rfl, by decide⟩, zSame.rf _, rfl, rfl, ⟨rfl, rfl, trivial, List.nodup_nil, fun b hb => (by cases hb)⟩, fun c hc => (by cases hc), rfl, fun c => ?_⟩
  unfold Wd
  split <;> rfl
theorem z_Minit {X : zkX} : zk_C X 3 m_M_init [.ref 3] (15, [none, some (.inr (3, zdf3)), some (.inr (2, zdf2)), some (.inr (1, zdf1))]) (fun o => ∃ t FL2, o = (.inl none, zH5 t) ∧ zI5 zs0 0 FL2 t) := by
  refine zk_enter (lv := [(0, .ref 3)]) rfl rfl ?_
  refine zi_aload_n rfl rfl ?_
  refine zi_objinit rfl rfl rfl rfl ?_
  refine zi_aload_n rfl rfl ?_
  refine zi_bipush (v := (27 : Int32)) rfl rfl ?_
  refine zi_newarray (n := 27) (e := zcA .int 27 (fun _ => 0)) rfl rfl (by decide) rfl ?_
  refine zi_putfield (fs := zdf1) (fs2 := [.ref 4, .null, .int 0, .int 0, .int 0, .int 0, .int 0]) (h2 := (42, [none, some (.inr (3, zdf3)), some (.inr (2, zdf2)), some (.inr (1, [.ref 4, .null, .int 0, .int 0, .int 0, .int 0, .int 0])), some (zcA .int 27 (fun _ => 0))])) rfl rfl rfl rfl rfl rfl ?_
  refine zi_aload_n rfl rfl ?_
  refine zi_sipush (v := (512 : Int32)) rfl rfl ?_
  refine zi_newarray (n := 512) (e := zcB 512 (fun _ => 0)) rfl rfl (by decide) rfl ?_
  refine zi_putfield (fs := [.ref 4, .null, .int 0, .int 0, .int 0, .int 0, .int 0]) (fs2 := [.ref 4, .ref 5, .int 0, .int 0, .int 0, .int 0, .int 0]) (h2 := (554, [none, some (.inr (3, zdf3)), some (.inr (2, zdf2)), some (.inr (1, [.ref 4, .ref 5, .int 0, .int 0, .int 0, .int 0, .int 0])), some (zcA .int 27 (fun _ => 0)), some (zcB 512 (fun _ => 0))])) rfl rfl rfl rfl rfl rfl ?_
  refine zi_aload_n rfl rfl ?_
  refine zi_bipush (v := (64 : Int32)) rfl rfl ?_
  refine zi_putfield (fs := [.ref 4, .ref 5, .int 0, .int 0, .int 0, .int 0, .int 0]) (fs2 := [.ref 4, .ref 5, .int 64, .int 0, .int 0, .int 0, .int 0]) (h2 := zH5 zs0) rfl rfl rfl rfl rfl rfl ?_
  refine zi_aload_n rfl rfl ?_
  refine zi_getfield rfl rfl (h5_M _) rfl ?_
  refine zi_istore_n rfl rfl rfl ?_
  exact zk_sb (z5_loop 64 [] zs0 (Nat.le_refl _) zI5_0) rfl ⟨rfl, rfl, trivial⟩

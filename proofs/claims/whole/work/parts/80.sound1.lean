/-! THE REAL MACHINE DOES WHAT THE ABSTRACT ONE SAYS -/
def zk_ad (sc b k : Nat) : Nat := if k = 0 then sc else b + k
def zk_v (sc b : Nat) (v : Value) : Value := match v with
  | .ref k => .ref (zk_ad sc b k)
  | .int x => .int x
  | .long x => .long x
  | .float x => .float x
  | .double x => .double x
  | .null => .null
  | .retAddr x => .retAddr x
theorem zk_v_cat (sc b : Nat) (v : Value) : (zk_v sc b v).category = v.category := by cases v <;> rfl
def zk_e (aC : FieldType → ClassId) (sc b : Nat) (e : zkE) : va_E := match e with
  | .inl (ty, a) => .inl (aC ty, a)
  | .inr (ci, fs) => .inr (ci, fs.map (zk_v sc b))
def zk_lv (sc b : Nat) (lv : zkL) : zkL := lv.map (fun q => (q.1, zk_v sc b q.2))
theorem zk_lv_get {sc b : Nat} {ls : Array Slot} {nL : Nat} {lv : zkL} (h : lv_has ls nL (zk_lv sc b lv)) {k : Nat} {v : Value} (hk : zk_get lv k = some v) : ls[k]? = some (.val (zk_v sc b v)) := by
  have hm : (k, v) ∈ lv := by
    clear h
    induction lv with
    | nil => cases hk
    | cons q r ih =>
      unfold zk_get at hk
      cases hq : Nat.beq q.1 k with
      | true =>
        rw [hq] at hk
        have e1 : q.1 = k := Nat.eq_of_beq_eq_true hq
        have e2 : q.2 = v := Option.some.inj hk
        rw [← e1, ← e2]
        exact List.mem_cons_self
      | false =>
        rw [hq] at hk
        exact List.mem_cons_of_mem _ (ih hk)
  exact h.2.2 (k, zk_v sc b v) (List.mem_map.mpr ⟨(k, v), hm, rfl⟩)
theorem zk_lv_put1 (sc b : Nat) (lv : zkL) (i : Nat) (v : Value) : (i, zk_v sc b v) :: (zk_lv sc b lv).filter (fun q => !(q.1 == i) && !(q.1 + 1 == i && q.2.category == 2)) = zk_lv sc b (zk_put1 lv i v) := by
  simp only [zk_lv, zk_put1, List.map_cons, List.filter_map, List.cons.injEq, true_and]
  congr 1
  apply List.filter_congr
  intro q _
  simp only [Function.comp, zk_v_cat]
theorem zk_lv_put2 (sc b : Nat) (lv : zkL) (i : Nat) (v : Value) : (i, zk_v sc b v) :: (zk_lv sc b lv).filter (fun q => !(q.1 == i) && (!(q.1 == i + 1) && !(q.1 + 1 == i && q.2.category == 2))) = zk_lv sc b (zk_put2 lv i v) := by
  simp only [zk_lv, zk_put2, List.map_cons, List.filter_map, List.cons.injEq, true_and]
  congr 1
  apply List.filter_congr
  intro q _
  simp only [Function.comp, zk_v_cat]
theorem zk_lv_del (sc b : Nat) (lv : zkL) (i : Nat) : (zk_lv sc b lv).filter (fun q => !(q.1 == i) && !(q.1 + 1 == i && q.2.category == 2)) = zk_lv sc b (zk_del lv i) := by
  simp only [zk_lv, zk_del, List.filter_map]
  congr 1
  apply List.filter_congr
  intro q _
  simp only [Function.comp, zk_v_cat]
section ZS1
variable {p : Program} {l : Launch} {e : Env} {R : Room} {s : State} {m : MethodId} {args : Array Value} {below : List Frame} {meth : Method} {c : Code} {H : Heap} {locs : List Loc} {cells slots : Nat} {Q : State → Prop}
variable {cc : ByteArray} {pc nx tg : Nat} {ls : Array Slot} {sc b nL M : Nat} {lv lv2 : zkL} {st st2 : List Value} {pc2 : Nat} {i : Instr}
theorem zk_s1 (hexec : p.tables.exec = Jvm.exec) (hb : c.code = cc) (hown : s.vm.findClass (zk_own M) = some m.cls) (hts : ∀ w ∈ zkT, w.before args s = true) (hd : decode cc pc = .ok (i, zk_il i pc nx)) (hnx : nx = pc + zk_il i pc nx) (hn : zk_mxl M = nL) (hlv : lv_has ls nL (zk_lv sc b lv)) (hs : zk_loc1 M i nx tg lv st = some (pc2, lv2, st2))
    (kk : ∀ ls2 : Array Slot, lv_has ls2 nL (zk_lv sc b lv2) → W p l e R s m args below meth c H locs cells slots Q (F0 m pc2 ls2 (st2.map (zk_v sc b)))) : W p l e R s m args below meth c H locs cells slots Q (F0 m pc ls (st.map (zk_v sc b))) := by
  have hlt : ∀ k : Nat, Nat.blt k (zk_mxl M) = true → k < nL := fun k h => by rw [hn] at h; exact Nat.le_of_ble_eq_true h
  cases i with
  | aload k =>
    simp only [zk_loc1] at hs
    split at hs
    · rename_i a hq
      cases hs
      simp only [zk_il] at hnx hd
      subst hnx
      exact lv_aload hexec hb hd (zk_lv_get hlv hq) (kk ls hlv)
    · cases hs
  | aload_n k =>
    simp only [zk_loc1] at hs
    split at hs
    · rename_i a hq
      cases hs
      simp only [zk_il] at hnx hd
      subst hnx
      exact lv_aload_n hexec hb hd rfl (zk_lv_get hlv hq) (kk ls hlv)
    · cases hs
  | iload k =>
    simp only [zk_loc1] at hs
    split at hs
    · rename_i a hq
      cases hs
      simp only [zk_il] at hnx hd
      subst hnx
      exact lv_iload hexec hb hd (zk_lv_get hlv hq) (kk ls hlv)
    · cases hs
  | iload_n k =>
    simp only [zk_loc1] at hs
    split at hs
    · rename_i a hq
      cases hs
      simp only [zk_il] at hnx hd
      subst hnx
      exact lv_iload_n hexec hb hd rfl (zk_lv_get hlv hq) (kk ls hlv)
    · cases hs
  | lload k =>
    simp only [zk_loc1] at hs
    split at hs
    · rename_i a hq
      cases hs
      simp only [zk_il] at hnx hd
      subst hnx
      exact lv_lload hexec hb hd (zk_lv_get hlv hq) (kk ls hlv)
    · cases hs
  | lload_n k =>
    simp only [zk_loc1] at hs
    split at hs
    · rename_i a hq
      cases hs
      simp only [zk_il] at hnx hd
      subst hnx
      exact lv_lload_n hexec hb hd rfl (zk_lv_get hlv hq) (kk ls hlv)
    · cases hs
  | istore k =>
    simp only [zk_loc1] at hs
    split at hs
    · rename_i x r
      cases hq : Nat.blt k (zk_mxl M) with
      | false => rw [hq] at hs; cases hs
      | true =>
        rw [hq] at hs
        cases hs
        simp only [zk_il] at hnx hd
        subst hnx
        exact lv_istore hexec hb hd hlv (hlt _ hq) (zk_lv_put1 sc b lv k (.int x)) kk
    · cases hs
  | istore_n k =>
    simp only [zk_loc1] at hs
    split at hs
    · rename_i x r
      cases hq : Nat.blt k.val (zk_mxl M) with
      | false => rw [hq] at hs; cases hs
      | true =>
        rw [hq] at hs
        cases hs
        simp only [zk_il] at hnx hd
        subst hnx
        exact lv_istore_n hexec hb hd rfl hlv (hlt _ hq) (zk_lv_put1 sc b lv k.val (.int x)) kk
    · cases hs
  | lstore k =>
    simp only [zk_loc1] at hs
    split at hs
    · rename_i x r
      cases hq : Nat.blt (k + 1) (zk_mxl M) with
      | false => rw [hq] at hs; cases hs
      | true =>
        rw [hq] at hs
        cases hs
        simp only [zk_il] at hnx hd
        subst hnx
        exact lv_lstore hexec hb hd hlv (hlt _ hq) (zk_lv_put2 sc b lv k (.long x)) kk
    · cases hs
  | lstore_n k =>
    simp only [zk_loc1] at hs
    split at hs
    · rename_i x r
      cases hq : Nat.blt (k.val + 1) (zk_mxl M) with
      | false => rw [hq] at hs; cases hs
      | true =>
        rw [hq] at hs
        cases hs
        simp only [zk_il] at hnx hd
        subst hnx
        exact lv_lstore_n hexec hb hd rfl hlv (hlt _ hq) (zk_lv_put2 sc b lv k.val (.long x)) kk
    · cases hs
  | astore k =>
    simp only [zk_loc1] at hs
    split at hs
    · rename_i x r
      cases hq : Nat.blt k (zk_mxl M) with
      | false => rw [hq] at hs; cases hs
      | true =>
        rw [hq] at hs
        cases hs
        simp only [zk_il] at hnx hd
        subst hnx
        exact lv_astore hexec hb hd hlv (hlt _ hq) (zk_lv_put1 sc b lv k (.ref x)) kk
    · cases hs
  | astore_n k =>
    simp only [zk_loc1] at hs
    split at hs
    · rename_i x r
      cases hq : Nat.blt k.val (zk_mxl M) with
      | false => rw [hq] at hs; cases hs
      | true =>
        rw [hq] at hs
        cases hs
        simp only [zk_il] at hnx hd
        subst hnx
        exact lv_astore_n hexec hb hd rfl hlv (hlt _ hq) (zk_lv_put1 sc b lv k.val (.ref x)) kk
    · cases hs
  | iinc k n =>
    simp only [zk_loc1] at hs
    split at hs
    · rename_i x hx
      cases hq : Nat.blt k (zk_mxl M) with
      | false => rw [hq] at hs; cases hs
      | true =>
        rw [hq] at hs
        cases hs
        simp only [zk_il] at hnx hd
        subst hnx
        obtain ⟨j, hj⟩ : ∃ j : Nat, (zk_lv sc b lv)[j]? = some (k, .int x) := by
          have hm : (k, Value.int x) ∈ zk_lv sc b lv := by
            clear hlv kk
            induction lv with
            | nil => cases hx
            | cons q r ih =>
              unfold zk_get at hx
              cases hz : Nat.beq q.1 k with
              | true =>
                rw [hz] at hx
                have e1 : q.1 = k := Nat.eq_of_beq_eq_true hz
                have e2 : q.2 = .int x := Option.some.inj hx
                exact List.mem_map.mpr ⟨q, List.mem_cons_self, by rw [e1, e2]; rfl⟩
              | false =>
                rw [hz] at hx
                obtain ⟨z, h1, h2⟩ := List.mem_map.mp (ih hx)
                exact List.mem_map.mpr ⟨z, List.mem_cons_of_mem _ h1, h2⟩
          exact List.getElem?_of_mem hm
        exact lv_iinc hexec hb hd hlv hj rfl (hlt _ hq) (zk_lv_put1 sc b lv k (.int (x + Int32.ofInt n))) kk
    · cases hs
  | iconst n =>
    simp only [zk_loc1] at hs
    cases hs
    simp only [zk_il] at hnx hd
    subst hnx
    exact lv_iconst hexec hb hd rfl (kk ls hlv)
  | lconst n =>
    simp only [zk_loc1] at hs
    cases hs
    simp only [zk_il] at hnx hd
    subst hnx
    exact lv_lconst hexec hb hd rfl (kk ls hlv)
  | bipush n =>
    simp only [zk_loc1] at hs
    cases hs
    simp only [zk_il] at hnx hd
    subst hnx
    exact lv_bipush hexec hb hd rfl (kk ls hlv)
  | sipush n =>
    simp only [zk_loc1] at hs
    cases hs
    simp only [zk_il] at hnx hd
    subst hnx
    exact lv_sipush hexec hb hd rfl (kk ls hlv)
  | ldc k =>
    simp only [zk_loc1] at hs
    split at hs
    · rename_i v hq
      cases hs
      simp only [zk_il] at hnx hd
      subst hnx
      exact lv_ldc hexec hb hown (hts _ (zk_f_ki hq)) hd (kk ls hlv)
    · cases hs
  | ldc_w k =>
    simp only [zk_loc1] at hs
    split at hs
    · rename_i v hq
      cases hs
      simp only [zk_il] at hnx hd
      subst hnx
      exact lv_ldcw hexec hb hown (hts _ (zk_f_ki hq)) hd (kk ls hlv)
    · cases hs
  | ldc2_w k =>
    simp only [zk_loc1] at hs
    split at hs
    · rename_i v hq
      cases hs
      simp only [zk_il] at hnx hd
      subst hnx
      exact lv_ldc2 hexec hb hown (hts _ (zk_f_kl hq)) hd (kk ls hlv)
    · cases hs
  | dup =>
    simp only [zk_loc1] at hs
    split at hs
    · cases hs
      simp only [zk_il] at hnx hd
      subst hnx
      exact lv_dup hexec hb hd rfl (kk ls hlv)
    · cases hs
      simp only [zk_il] at hnx hd
      subst hnx
      exact lv_dup hexec hb hd rfl (kk ls hlv)
    · cases hs
  | pop =>
    simp only [zk_loc1] at hs
    split at hs
    · cases hs
      simp only [zk_il] at hnx hd
      subst hnx
      exact lv_pop hexec hb hd rfl (kk ls hlv)
    · cases hs
      simp only [zk_il] at hnx hd
      subst hnx
      exact lv_pop hexec hb hd rfl (kk ls hlv)
    · cases hs
  | _ => simp only [zk_loc1] at hs; cases hs
theorem zk_s2 (hexec : p.tables.exec = Jvm.exec) (hb : c.code = cc) (hd : decode cc pc = .ok (i, zk_il i pc nx)) (hnx : nx = pc + zk_il i pc nx) (hs : zk_loc2 i nx st = some (pc2, st2))
    (kk : W p l e R s m args below meth c H locs cells slots Q (F0 m pc2 ls (st2.map (zk_v sc b)))) : W p l e R s m args below meth c H locs cells slots Q (F0 m pc ls (st.map (zk_v sc b))) := by
  cases i with
  | iadd =>
    simp only [zk_loc2] at hs
    split at hs
    · cases hs
      simp only [zk_il] at hnx hd
      subst hnx
      exact lv_iadd hexec hb hd kk
    · cases hs
  | isub =>
    simp only [zk_loc2] at hs
    split at hs
    · cases hs
      simp only [zk_il] at hnx hd
      subst hnx
      exact lv_isub hexec hb hd kk
    · cases hs
  | imul =>
    simp only [zk_loc2] at hs
    split at hs
    · cases hs
      simp only [zk_il] at hnx hd
      subst hnx
      exact lv_imul hexec hb hd kk
    · cases hs
  | iand =>
    simp only [zk_loc2] at hs
    split at hs
    · cases hs
      simp only [zk_il] at hnx hd
      subst hnx
      exact lv_iand hexec hb hd kk
    · cases hs
  | ior =>
    simp only [zk_loc2] at hs
    split at hs
    · cases hs
      simp only [zk_il] at hnx hd
      subst hnx
      exact lv_ior hexec hb hd kk
    · cases hs
  | ixor =>
    simp only [zk_loc2] at hs
    split at hs
    · cases hs
      simp only [zk_il] at hnx hd
      subst hnx
      exact lv_ixor hexec hb hd kk
    · cases hs
  | ishl =>
    simp only [zk_loc2] at hs
    split at hs
    · cases hs
      simp only [zk_il] at hnx hd
      subst hnx
      exact lv_ishl hexec hb hd kk
    · cases hs
  | ladd =>
    simp only [zk_loc2] at hs
    split at hs
    · cases hs
      simp only [zk_il] at hnx hd
      subst hnx
      exact lv_ladd hexec hb hd kk
    · cases hs
  | lsub =>
    simp only [zk_loc2] at hs
    split at hs
    · cases hs
      simp only [zk_il] at hnx hd
      subst hnx
      exact lv_lsub hexec hb hd kk
    · cases hs
  | land =>
    simp only [zk_loc2] at hs
    split at hs
    · cases hs
      simp only [zk_il] at hnx hd
      subst hnx
      exact lv_land hexec hb hd kk
    · cases hs
  | lor =>
    simp only [zk_loc2] at hs
    split at hs
    · cases hs
      simp only [zk_il] at hnx hd
      subst hnx
      exact lv_lor hexec hb hd kk
    · cases hs
  | iushr =>
    simp only [zk_loc2] at hs
    split at hs
    · cases hs
      simp only [zk_il] at hnx hd
      subst hnx
      exact lv_iushr hexec hb hd rfl kk
    · cases hs
  | lshl =>
    simp only [zk_loc2] at hs
    split at hs
    · cases hs
      simp only [zk_il] at hnx hd
      subst hnx
      exact lv_lshl hexec hb hd rfl kk
    · cases hs
  | lshr =>
    simp only [zk_loc2] at hs
    split at hs
    · cases hs
      simp only [zk_il] at hnx hd
      subst hnx
      exact lv_lshr hexec hb hd rfl kk
    · cases hs
  | lushr =>
    simp only [zk_loc2] at hs
    split at hs
    · cases hs
      simp only [zk_il] at hnx hd
      subst hnx
      exact lv_lushr hexec hb hd rfl kk
    · cases hs
  | i2l =>
    simp only [zk_loc2] at hs
    split at hs
    · cases hs
      simp only [zk_il] at hnx hd
      subst hnx
      exact lv_i2l hexec hb hd rfl kk
    · cases hs
  | l2i =>
    simp only [zk_loc2] at hs
    split at hs
    · cases hs
      simp only [zk_il] at hnx hd
      subst hnx
      exact lv_l2i hexec hb hd rfl kk
    · cases hs
  | idiv =>
    simp only [zk_loc2] at hs
    split at hs
    · split at hs
      · cases hs
      · rename_i hne
        cases hs
        simp only [zk_il] at hnx hd
        subst hnx
        exact lv_idiv hexec hb hd hne kk
    · cases hs
  | irem =>
    simp only [zk_loc2] at hs
    split at hs
    · split at hs
      · cases hs
      · rename_i hne
        cases hs
        simp only [zk_il] at hnx hd
        subst hnx
        exact lv_irem hexec hb hd hne kk
    · cases hs
  | lcmp =>
    simp only [zk_loc2] at hs
    split at hs
    · cases hs
      simp only [zk_il] at hnx hd
      subst hnx
      exact W.lcmp hexec hb hd kk
    · cases hs
  | _ => simp only [zk_loc2] at hs; cases hs
theorem zk_s3 (hexec : p.tables.exec = Jvm.exec) (hb : c.code = cc) (hd : decode cc pc = .ok (i, zk_il i pc nx)) (hnx : nx = pc + zk_il i pc nx) (htg : zk_tgb i pc tg = true) (hs : zk_loc3 i pc nx tg st = some (pc2, st2))
    (kk : W p l e R s m args below meth c H locs cells slots Q (F0 m pc2 ls (st2.map (zk_v sc b)))) : W p l e R s m args below meth c H locs cells slots Q (F0 m pc ls (st.map (zk_v sc b))) := by
  cases i with
  | goto off =>
    simp only [zk_loc3] at hs
    cases hs
    exact lv_goto hexec hb hd (of_decide_eq_true htg) kk
  | ifCond c9 off =>
    simp only [zk_loc3] at hs
    split at hs
    · rename_i x r
      cases hs
      simp only [zk_il] at hnx hd
      subst hnx
      have ht := of_decide_eq_true htg
      cases c9 with
      | eq =>
        refine lv_if_eq hexec hb hd ht (fun q => ?_) (fun q => ?_)
        · rw [show zk_if .eq x = true from decide_eq_true q] at kk; exact kk
        · rw [show zk_if .eq x = false from decide_eq_false q] at kk; exact kk
      | ne =>
        refine lv_if_ne hexec hb hd ht (fun q => ?_) (fun q => ?_)
        · rw [show zk_if .ne x = true from decide_eq_true q] at kk; exact kk
        · rw [show zk_if .ne x = false from decide_eq_false (fun z => z q)] at kk; exact kk
      | lt =>
        refine lv_if_lt hexec hb hd ht (fun q => ?_) (fun q => ?_)
        · rw [show zk_if .lt x = true from decide_eq_true q] at kk; exact kk
        · rw [show zk_if .lt x = false from decide_eq_false q] at kk; exact kk
      | ge =>
        refine lv_if_ge hexec hb hd ht (fun q => ?_) (fun q => ?_)
        · rw [show zk_if .ge x = true from decide_eq_true q] at kk; exact kk
        · rw [show zk_if .ge x = false from decide_eq_false q] at kk; exact kk
      | gt =>
        refine lv_if_gt hexec hb hd ht (fun q => ?_) (fun q => ?_)
        · rw [show zk_if .gt x = true from decide_eq_true q] at kk; exact kk
        · rw [show zk_if .gt x = false from decide_eq_false q] at kk; exact kk
      | le =>
        refine lv_if_le hexec hb hd ht (fun q => ?_) (fun q => ?_)
        · rw [show zk_if .le x = true from decide_eq_true q] at kk; exact kk
        · rw [show zk_if .le x = false from decide_eq_false q] at kk; exact kk
    · cases hs
  | if_icmp c9 off =>
    simp only [zk_loc3] at hs
    split at hs
    · rename_i y x r
      cases hs
      simp only [zk_il] at hnx hd
      subst hnx
      have ht := of_decide_eq_true htg
      cases c9 with
      | eq =>
        refine lv_icmp_eq hexec hb hd ht (fun q => ?_) (fun q => ?_)
        · rw [show zk_icmp .eq x y = true from decide_eq_true q] at kk; exact kk
        · rw [show zk_icmp .eq x y = false from decide_eq_false q] at kk; exact kk
      | ne =>
        refine lv_icmp_ne hexec hb hd ht (fun q => ?_) (fun q => ?_)
        · rw [show zk_icmp .ne x y = true from decide_eq_true q] at kk; exact kk
        · rw [show zk_icmp .ne x y = false from decide_eq_false (fun z => z q)] at kk; exact kk
      | lt =>
        refine lv_icmp_lt hexec hb hd ht (fun q => ?_) (fun q => ?_)
        · rw [show zk_icmp .lt x y = true from decide_eq_true q] at kk; exact kk
        · rw [show zk_icmp .lt x y = false from decide_eq_false q] at kk; exact kk
      | ge =>
        refine lv_icmp_ge hexec hb hd ht (fun q => ?_) (fun q => ?_)
        · rw [show zk_icmp .ge x y = true from decide_eq_true q] at kk; exact kk
        · rw [show zk_icmp .ge x y = false from decide_eq_false q] at kk; exact kk
      | gt =>
        refine lv_icmp_gt hexec hb hd ht (fun q => ?_) (fun q => ?_)
        · rw [show zk_icmp .gt x y = true from decide_eq_true q] at kk; exact kk
        · rw [show zk_icmp .gt x y = false from decide_eq_false q] at kk; exact kk
      | le =>
        refine lv_icmp_le hexec hb hd ht (fun q => ?_) (fun q => ?_)
        · rw [show zk_icmp .le x y = true from decide_eq_true q] at kk; exact kk
        · rw [show zk_icmp .le x y = false from decide_eq_false q] at kk; exact kk
    · cases hs
  | tableswitch dd lo hi offs =>
    simp only [zk_loc3] at hs
    simp only [zk_tgb, Bool.and_eq_true, decide_eq_true_eq, List.all_eq_true] at htg
    split at hs
    · rename_i x r
      split at hs
      · rename_i hq
        cases hs
        exact lv_tableOut hexec hb hd hq (by have := htg.1; omega) kk
      · rename_i hq
        split at hs
        · rename_i o ho
          cases hs
          have h0 : 0 ≤ o := htg.2 o (Array.mem_toList_iff.mpr (Array.mem_of_getElem? ho))
          exact lv_tableIn hexec hb hd (fun z => hq (Or.inl z)) (fun z => hq (Or.inr z)) ho (by omega) kk
        · cases hs
    · cases hs
  | _ => simp only [zk_loc3] at hs; cases hs
end ZS1

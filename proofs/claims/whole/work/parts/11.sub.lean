/-! fewer locals known: the same run -/
def zk_lle (a b : zkL) : Prop := (a.map Prod.fst).Nodup ∧ ∀ k v, zk_get a k = some v → zk_get b k = some v
theorem zk_get_mem {l : zkL} {k : Nat} {v : Value} (h : zk_get l k = some v) : (k, v) ∈ l := by
  induction l with
  | nil => cases h
  | cons q r ih =>
    unfold zk_get at h
    cases hq : Nat.beq q.1 k with
    | true =>
      rw [hq] at h
      have e1 : q.1 = k := Nat.eq_of_beq_eq_true hq
      have e2 : q.2 = v := Option.some.inj h
      rw [← e1, ← e2]
      exact List.mem_cons_self
    | false =>
      rw [hq] at h
      exact List.mem_cons_of_mem _ (ih h)
theorem zk_mem_get {l : zkL} {k : Nat} {v : Value} (hn : (l.map Prod.fst).Nodup) (h : (k, v) ∈ l) : zk_get l k = some v := by
  induction l with
  | nil => cases h
  | cons q r ih =>
    rw [List.map_cons, List.nodup_cons] at hn
    unfold zk_get
    rcases List.mem_cons.mp h with e | h
    · rw [← e]
      simp
    · have hne : q.1 ≠ k := fun e => hn.1 (e ▸ List.mem_map.mpr ⟨(k, v), h, rfl⟩)
      rw [show Nat.beq q.1 k = false from by
        cases hb : Nat.beq q.1 k with
        | false => rfl
        | true => exact absurd (Nat.eq_of_beq_eq_true hb) hne]
      exact ih hn.2 h
theorem zk_get_filter {l : zkL} {k : Nat} {v : Value} {p : Nat × Value → Bool} (h : zk_get l k = some v) (hp : p (k, v) = true) : zk_get (l.filter p) k = some v := by
  induction l with
  | nil => cases h
  | cons q r ih =>
    unfold zk_get at h
    cases hq : Nat.beq q.1 k with
    | true =>
      rw [hq] at h
      have e1 : q.1 = k := Nat.eq_of_beq_eq_true hq
      have e2 : q.2 = v := Option.some.inj h
      have e3 : q = (k, v) := by rw [← e1, ← e2]
      rw [List.filter_cons, e3, hp, if_pos rfl]
      unfold zk_get
      simp
    | false =>
      rw [hq] at h
      rw [List.filter_cons]
      split
      · unfold zk_get
        rw [hq]
        exact ih h
      · exact ih h
theorem zk_lle_filter {a b : zkL} (h : zk_lle a b) (p : Nat × Value → Bool) : zk_lle (a.filter p) (b.filter p) := by
  refine ⟨List.Nodup.sublist (List.Sublist.map _ List.filter_sublist) h.1, fun k v hk => ?_⟩
  have h1 := zk_get_mem hk
  rw [List.mem_filter] at h1
  exact zk_get_filter (h.2 k v (zk_mem_get h.1 h1.1)) h1.2
theorem zk_lle_cons {a b : zkL} (h : zk_lle a b) {i : Nat} {v : Value} (hi : ∀ q ∈ a, q.1 ≠ i) : zk_lle ((i, v) :: a) ((i, v) :: b) := by
  refine ⟨?_, fun k w hk => ?_⟩
  · rw [List.map_cons, List.nodup_cons]
    refine ⟨fun hm => ?_, h.1⟩
    obtain ⟨q, hq, e⟩ := List.mem_map.mp hm
    exact hi q hq e
  · unfold zk_get at hk ⊢
    cases hq : Nat.beq i k with
    | true => rw [hq] at hk; exact hk
    | false => rw [hq] at hk; exact h.2 k w hk
theorem zk_lle_put1 {a b : zkL} (h : zk_lle a b) (i : Nat) (v : Value) : zk_lle (zk_put1 a i v) (zk_put1 b i v) := by
  refine zk_lle_cons (zk_lle_filter h _) (fun q hq e => ?_)
  rw [List.mem_filter] at hq
  simp [e] at hq
theorem zk_lle_put2 {a b : zkL} (h : zk_lle a b) (i : Nat) (v : Value) : zk_lle (zk_put2 a i v) (zk_put2 b i v) := by
  refine zk_lle_cons (zk_lle_filter h _) (fun q hq e => ?_)
  rw [List.mem_filter] at hq
  simp [e] at hq
theorem zk_lle_del {a b : zkL} (h : zk_lle a b) (i : Nat) : zk_lle (zk_del a i) (zk_del b i) := zk_lle_filter h _
theorem zk_loc1_lv {M nx tg pc2 : Nat} {i : Instr} {a b a2 : zkL} {st st2 : List Value} (h : zk_lle a b) (hs : zk_loc1 M i nx tg a st = some (pc2, a2, st2)) : ∃ b2, zk_loc1 M i nx tg b st = some (pc2, b2, st2) ∧ zk_lle a2 b2 := by
  unfold zk_loc1 at hs
  split at hs <;> (try (cases hs; done))
  all_goals simp only [zk_loc1]
  all_goals (try (split at hs <;> (try (cases hs; done)) <;> rename_i hq <;> (try (rw [h.2 _ _ hq]))))
  all_goals (try (cases hs; exact ⟨b, rfl, h⟩))
  all_goals (try (cases hc : (Nat.blt _ (zk_mxl M)) <;> rw [hc] at hs <;> (try (cases hs; done)) <;> cases hs))
  all_goals (try (first | exact ⟨_, rfl, zk_lle_put1 h _ _⟩ | exact ⟨_, rfl, zk_lle_put2 h _ _⟩))
theorem zk_loc1_no {M nx tg : Nat} {i : Instr} {b : zkL} {st : List Value} {r : Nat × zkL × List Value} (hs : zk_loc1 M i nx tg b st = some r) (X : zkX) (pc : Nat) (h : zkH) (lv : zkL) : zk_loc2 i nx st = none ∧ zk_loc3 i pc nx tg st = none ∧ zk_loc4 X M i nx st h = none ∧ zk_loc5 M i nx st h = none ∧ zk_end M i (pc, lv, st, h) = none ∧ zk_thr M i nx (pc, lv, st, h) = none ∧ zk_inv M i st h = none := by
  unfold zk_loc1 at hs
  split at hs <;> first | exact ⟨rfl, rfl, rfl, rfl, rfl, rfl, rfl⟩ | cases hs
theorem zk_run_lv {X : zkX} {call : Nat → List Value → zkH → Option zkO} {d M : Nat} : ∀ (n pc : Nat) (a b : zkL) (st : List Value) (h : zkH) (o : zkO), zk_lle a b → zk_run X call d M n (pc, a, st, h) = some o → zk_run X call d M n (pc, b, st, h) = some o := by
  intro n
  induction n with
  | zero => intro pc a b st h o _ hr; cases hr
  | succ n ih =>
    intro pc a b st h o hab hr
    unfold zk_run at hr ⊢
    have e1 : ∀ x : zkL, zk_ins M ((pc, x, st, h) : zkS).1 = zk_ins M pc := fun _ => rfl
    rw [e1] at hr ⊢
    cases hi : zk_ins M pc with
    | none => rw [hi] at hr; cases hr
    | some q =>
      obtain ⟨i, nx, tg⟩ := q
      rw [hi] at hr
      simp only [] at hr ⊢
      cases hbd : zk_bud d M i with
      | false => rw [hbd] at hr; cases hr
      | true =>
        rw [hbd, cond_true] at hr
        rw [cond_true]
        have ea : ∀ x : zkL, zk_loc X M i nx tg (pc, x, st, h) = match zk_loc1 M i nx tg x st with
            | some (pc', lv', st') => some (pc', lv', st', h)
            | none => match zk_loc2 i nx st with
              | some (pc', st') => some (pc', x, st', h)
              | none => match zk_loc3 i pc nx tg st with
                | some (pc', st') => some (pc', x, st', h)
                | none => match zk_loc4 X M i nx st h with
                  | some (pc', st', h') => some (pc', x, st', h')
                  | none => match zk_loc5 M i nx st h with
                    | some (pc', st', h') => some (pc', x, st', h')
                    | none => none := fun _ => rfl
        have ee : ∀ x : zkL, zk_end M i (pc, x, st, h) = zk_end M i (pc, a, st, h) := fun _ => rfl
        have et : ∀ x : zkL, zk_thr M i nx (pc, x, st, h) = zk_thr M i nx (pc, a, st, h) := fun _ => rfl
        rw [ea, ee, et] at hr
        rw [ea, ee, et]
        cases hl : zk_loc1 M i nx tg a st with
        | some r =>
          obtain ⟨pc2, a2, st2⟩ := r
          obtain ⟨b2, h1, h2⟩ := zk_loc1_lv hab hl
          rw [hl] at hr
          rw [h1]
          exact ih _ _ _ _ _ _ h2 hr
        | none =>
          rw [hl] at hr
          cases hlb : zk_loc1 M i nx tg b st with
          | some r =>
            obtain ⟨n1, n2, n3, n4, n5, n6, n7⟩ := zk_loc1_no hlb X pc h a
            simp only [n1, n2, n3, n4, n5, n6] at hr
            have n7' : zk_inv M i ((pc, a, st, h) : zkS).2.2.1 ((pc, a, st, h) : zkS).2.2.2 = none := n7
            rw [n7'] at hr
            cases hr
          | none =>
            simp only [] at hr ⊢
            cases h2 : zk_loc2 i nx st with
            | some r =>
              obtain ⟨pc2, st2⟩ := r
              simp only [h2] at hr ⊢
              exact ih _ _ _ _ _ _ hab hr
            | none =>
            simp only [h2] at hr ⊢
            cases h3 : zk_loc3 i pc nx tg st with
            | some r =>
              obtain ⟨pc2, st2⟩ := r
              simp only [h3] at hr ⊢
              exact ih _ _ _ _ _ _ hab hr
            | none =>
            simp only [h3] at hr ⊢
            cases h4 : zk_loc4 X M i nx st h with
            | some r =>
              obtain ⟨pc2, st2, hh2⟩ := r
              simp only [h4] at hr ⊢
              exact ih _ _ _ _ _ _ hab hr
            | none =>
            simp only [h4] at hr ⊢
            cases h5 : zk_loc5 M i nx st h with
            | some r =>
              obtain ⟨pc2, st2, hh2⟩ := r
              simp only [h5] at hr ⊢
              exact ih _ _ _ _ _ _ hab hr
            | none =>
            simp only [h5] at hr ⊢
            cases he : zk_end M i (pc, a, st, h) with
            | some r => simp only [he] at hr ⊢; exact hr
            | none =>
            simp only [he] at hr ⊢
            cases ht : zk_thr M i nx (pc, a, st, h) with
            | some r => simp only [ht] at hr ⊢; exact hr
            | none =>
            simp only [ht] at hr ⊢
            cases hv : zk_inv M i st h with
            | none => simp only [hv] at hr; cases hr
            | some r =>
              obtain ⟨M2, as, rest⟩ := r
              simp only [hv] at hr ⊢
              cases hcl : call M2 as h with
              | none => simp only [hcl] at hr; cases hr
              | some o2 =>
                simp only [hcl] at hr ⊢
                unfold zk_back at hr ⊢
                split at hr
                · rename_i v hv2
                  exact ih _ _ _ _ _ _ hab hr
                · rename_i x hx
                  cases hct : zk_catch M pc x (zk_hd M) with
                  | none => simp only [hct] at hr; cases hr
                  | some cc =>
                    cases cc with
                    | none => simp only [hct] at hr ⊢; exact hr
                    | some hp =>
                      simp only [hct] at hr ⊢
                      cases hh : zk_hnd M hp a with
                      | none => simp only [hh] at hr; cases hr
                      | some r =>
                        obtain ⟨n2, a2⟩ := r
                        have key : ∃ b2, zk_hnd M hp b = some (n2, b2) ∧ zk_lle a2 b2 := by
                          unfold zk_hnd at hh ⊢
                          split at hh
                          · rename_i k nx9 tg9 hi9
                            cases hc : Nat.blt k (zk_mxl M) with
                            | false => rw [hc] at hh; cases hh
                            | true =>
                              rw [hc] at hh
                              cases hh
                              exact ⟨_, rfl, zk_lle_del hab _⟩
                          · rename_i k nx9 tg9 hi9
                            cases hc : Nat.blt k.val (zk_mxl M) with
                            | false => rw [hc] at hh; cases hh
                            | true =>
                              rw [hc] at hh
                              cases hh
                              exact ⟨_, rfl, zk_lle_del hab _⟩
                          · cases hh
                        obtain ⟨b2, k1, k2⟩ := key
                        simp only [hh] at hr
                        simp only [k1]
                        exact ih _ _ _ _ _ _ k2 hr
def zk_subP : zkL → zkL → Prop
  | [], _ => True
  | q :: r, lv => zk_get lv q.1 = some q.2 ∧ zk_subP r lv
theorem zk_subP.mem {a b : zkL} (h : zk_subP a b) : ∀ q ∈ a, zk_get b q.1 = some q.2 := by
  induction a with
  | nil => intro q hq; cases hq
  | cons p r ih =>
    intro q hq
    rcases List.mem_cons.mp hq with e | hq
    · rw [e]; exact h.1
    · exact ih h.2 q hq
def zk_ndb : zkL → Bool
  | [] => true
  | q :: r => r.all (fun p => !Nat.beq p.1 q.1) && zk_ndb r
theorem zk_ndb_ok {a : zkL} (h : zk_ndb a = true) : (a.map Prod.fst).Nodup := by
  induction a with
  | nil => exact List.nodup_nil
  | cons q r ih =>
    unfold zk_ndb at h
    rw [Bool.and_eq_true, List.all_eq_true] at h
    rw [List.map_cons, List.nodup_cons]
    refine ⟨fun hm => ?_, ih h.2⟩
    obtain ⟨p, hp, e⟩ := List.mem_map.mp hm
    have h1 := h.1 p hp
    rw [e, Nat.beq_refl] at h1
    cases h1
/-- into a place where less is known -/
theorem zk_W.sub {X : zkX} {d M pc : Nat} {a b : zkL} {st : List Value} {h : zkH} {Q : zkO → Prop} (hn : zk_ndb a = true) (hs : zk_subP a b) (k : zk_W X d M (pc, a, st, h) Q) : zk_W X d M (pc, b, st, h) Q := by
  obtain ⟨n, o, h1, h2⟩ := k
  exact ⟨n, o, zk_run_lv n pc a b st h o ⟨zk_ndb_ok hn, fun k v hk => hs.mem _ (zk_get_mem hk)⟩ h1, h2⟩
theorem zk_sb {X : zkX} {d M pc : Nat} {a b : zkL} {st : List Value} {h : zkH} {Q : zkO → Prop} (k : zk_W X d M (pc, a, st, h) Q) (hn : zk_ndb a = true) (hs : zk_subP a b) : zk_W X d M (pc, b, st, h) Q := zk_W.sub hn hs k

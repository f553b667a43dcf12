/-- how long an instruction is -/
def zk_il (i : Instr) (pc nx : Nat) : Nat := match i with
  | .aload _ | .iload _ | .lload _ | .istore _ | .lstore _ | .astore _ | .bipush _ | .ldc _ | .newarray _ => 2
  | .iinc _ _ | .sipush _ | .ldc_w _ | .ldc2_w _ | .goto _ | .ifCond _ _ | .if_icmp _ _ | .getfield _ | .putfield _ | .new _ | .invokevirtual _ | .invokestatic _ | .invokespecial _ | .checkcast _ => 3
  | .tableswitch .. => nx - pc
  | _ => 1
/-- the target of a branch -/
def zk_tgb (i : Instr) (pc tg : Nat) : Bool := match i with
  | .goto off | .ifCond _ off | .if_icmp _ off => decide ((pc : Int) + off = (tg : Int))
  | .tableswitch d _ _ offs => decide (0 ≤ d) && offs.toList.all (fun o => decide (0 ≤ o))
  | _ => true
/-- constructors write their final fields -/
theorem zk_isf_ok : ((List.range 5).all fun ci => match zk_nth zkCl ci with
  | some w => (List.range w.2.2).all fun j => decide (zk_isf ci j = (w.2.1 j).2.2.2)
  | none => false) = true := by decide +kernel
theorem zk_ini_ok : (zk_ini.all fun q => match zk_nth zkCl q.2 with
  | some w => decide ((zk_yn q.1).name = "<init>") && decide (w.1 = zk_own q.1)
  | none => false) = true := by decide +kernel
theorem zk_flN_ok : zk_each zk_flL (fun o _ q => !q.2.2.2 || (match zk_nth zkCl q.1 with
  | some w => decide (o ≠ w.1)
  | none => false)) = true := by decide +kernel
theorem zk_f_fin {M k ci j : Nat} {w : vw_C} (hw : zkCl[ci]? = some w) (hq : zk_fin M ci j = true) (hfn : (w.2.1 j).2.2.2 = true) (hf : zk_fl M k = some (ci, j)) : (zk_yn M).name = "<init>" ∧ (w.2.1 j).1 = zk_own M ∧ Cond.fieldLink (zk_own M) k w.1 (w.2.1 j).2.1 (w.2.1 j).2.2.1 ∈ zkT := by
  have hlt : ci < 5 := (List.getElem?_eq_some_iff.mp hw).1
  obtain ⟨w2, hw2, hj, hdecl, -, -⟩ := zk_f_fl hf
  cases hw.symm.trans hw2
  have hwn : zk_nth zkCl ci = some w := by rw [zk_nth_get]; exact hw
  have h1 := List.all_eq_true.mp zk_isf_ok ci (List.mem_range.mpr hlt)
  simp only [hwn] at h1
  have h2 : zk_isf ci j = true := by rw [of_decide_eq_true (List.all_eq_true.mp h1 j (List.mem_range.mpr hj))]; exact hfn
  unfold zk_fin at hq
  rw [h2, cond_true] at hq
  split at hq
  · rename_i c hc
    have e1 : c = ci := Nat.eq_of_beq_eq_true hq
    subst e1
    have h3 := List.all_eq_true.mp zk_ini_ok (M, c) (zk_lk_mem hc)
    simp only [hwn, Bool.and_eq_true, decide_eq_true_eq] at h3
    refine ⟨h3.1, hdecl.trans h3.2, ?_⟩
    unfold zk_fl at hf
    split at hf
    · rename_i q hq2
      cases hf
      have h4 := zk_lk2_ok (by rfl) zk_flL_ok hq2
      have h5 := zk_lk2_ok (by rfl) zk_flN_ok hq2
      have h6 : q.2.2.2 = false := by
        rw [hwn] at h5
        cases hb : q.2.2.2 with
        | false => rfl
        | true =>
          rw [hb] at h5
          simp only [Bool.not_true, Bool.false_or, decide_eq_true_eq] at h5
          exact absurd h3.2.symm h5
      unfold zk_flB at h4
      rw [hwn] at h4
      simp only [h6, Bool.and_eq_true] at h4
      exact zk_chk_mem h4.2
    · cases hf
  · cases hq
theorem zk_clL_ok : zk_each zk_clL (fun o k q => match zk_nth zkCl q.1, zk_nth zk_ciP q.1 with
  | some w, some ps => zk_chk q.2 (.classLink o k w.1) && zk_chk ps.1 (.instantiable w.1 w.2.2) && zk_chk ps.2 (.initialized w.1) && decide ((zk_df q.1).length = w.2.2) && (List.range w.2.2).all (fun j => decide ((zk_df q.1)[j]? = some (defaultValue (zk_fty q.1 j))))
  | _, _ => false) = true := by decide +kernel
theorem zk_f_cl {M k ci : Nat} (h : zk_cl M k = some ci) : ∃ w : vw_C, zkCl[ci]? = some w ∧ Cond.classLink (zk_own M) k w.1 ∈ zkT ∧ Cond.instantiable w.1 w.2.2 ∈ zkT ∧ Cond.initialized w.1 ∈ zkT ∧ (zk_df ci).length = w.2.2 ∧ ∀ j, j < w.2.2 → (zk_df ci)[j]? = some (defaultValue (zk_fty ci j)) := by
  unfold zk_cl at h
  split at h
  · rename_i q hq
    cases h
    have h1 := zk_lk2_ok (by rfl) zk_clL_ok hq
    split at h1
    · rename_i w ps hw hps
      rw [zk_nth_get] at hw
      simp only [Bool.and_eq_true, decide_eq_true_eq, List.all_eq_true] at h1
      obtain ⟨⟨⟨⟨a1, a2⟩, a3⟩, a4⟩, a5⟩ := h1
      exact ⟨w, hw, zk_chk_mem a1, zk_chk_mem a2, zk_chk_mem a3, a4, fun j hj => a5 j (List.mem_range.mpr hj)⟩
    · cases h1
  · cases h
theorem zk_f_aI : Cond.arrayClass .int ∈ zkT := zk_chk_mem (p := 115) (by decide +kernel)
theorem zk_f_aL : Cond.arrayClass .long ∈ zkT := zk_chk_mem (p := 116) (by decide +kernel)
theorem zk_f_aB : Cond.arrayClass .boolean ∈ zkT := zk_chk_mem (p := 778) (by decide +kernel)
theorem zk_oi_ok : (zk_chk zk_oiP.1 (.instanceMethod Lib.objectInit) && zk_chk zk_oiP.2 (.code Lib.objectInit ⟨#[0xb1]⟩ 1 none)) = true := by decide +kernel
theorem zk_ac_ok : (zk_chk zk_acP.1 (.native arraycopyName) && zk_chk zk_acP.2.1 (.static arraycopyName) && zk_chk zk_acP.2.2 (.initialized "java/lang/System")) = true := by decide +kernel
def zk_nps (y : MethodName) : Option Nat := (parseMethodDescriptor y.desc).map (fun d => d.parameters.length)
def zk_mtB (o : String) (k : Nat) (q : Nat × Nat × Nat × Nat × Nat × Nat × Nat) : Bool := match q.2.1 with
  | 0 => zk_chk q.2.2.2.2.1 (.methodLink o k (zk_yn q.1)) && zk_chk q.2.2.2.2.2.1 (.instanceMethod (zk_yn q.1)) && zk_chk q.2.2.2.2.2.2 (.selects (zk_own q.1) (zk_yn q.1) (zk_yn q.1)) && decide (q.1 < 162) && decide (zk_nps (zk_yn q.1) = some q.2.2.1) && (match zk_nth zkCl q.2.2.2.1 with
    | some w => decide (w.1 = zk_own q.1)
    | none => false)
  | 1 => zk_chk q.2.2.2.2.1 (.methodLink o k (zk_yn q.1)) && zk_chk q.2.2.2.2.2.1 (.static (zk_yn q.1)) && decide (q.1 < 162) && decide (zk_nps (zk_yn q.1) = some q.2.2.1)
  | 2 => zk_chk q.2.2.2.2.1 (.methodLink o k (zk_yn q.1)) && zk_chk q.2.2.2.2.2.1 (.instanceMethod (zk_yn q.1)) && decide ((zk_yn q.1).name = "<init>") && decide (zk_rt q.1 = none) && decide (zk_hd q.1 = []) && decide (q.1 < 162) && decide (zk_nps (zk_yn q.1) = some q.2.2.1)
  | 3 => zk_chk q.2.2.2.2.1 (.methodLink o k Lib.objectInit)
  | 4 => zk_chk q.2.2.2.2.1 (.methodLink o k arraycopyName)
  | _ => false
theorem zk_mtL_ok : zk_each zk_mtL zk_mtB = true := by decide +kernel
theorem zk_f_mt {M k M2 kd n ci : Nat} (h : zk_mt M k = some (M2, kd, n, ci)) : ∃ p, zk_mtB (zk_own M) k (M2, kd, n, ci, p) = true := by
  unfold zk_mt at h
  split at h
  · rename_i q hq
    cases h
    exact ⟨q.2.2.2.2, zk_lk2_ok (by rfl) zk_mtL_ok hq⟩
  · cases h
theorem zk_f_oi {M k q1 q3 q4 : Nat} (h : zk_mt M k = some (q1, 3, q3, q4)) : Cond.methodLink (zk_own M) k Lib.objectInit ∈ zkT ∧ Cond.instanceMethod Lib.objectInit ∈ zkT ∧ Cond.code Lib.objectInit ⟨#[0xb1]⟩ 1 none ∈ zkT := by
  obtain ⟨p, hp⟩ := zk_f_mt h
  have h2 := zk_oi_ok
  rw [Bool.and_eq_true] at h2
  exact ⟨zk_chk_mem hp, zk_chk_mem h2.1, zk_chk_mem h2.2⟩
theorem zk_f_ac {M k q1 q3 q4 : Nat} (h : zk_mt M k = some (q1, 4, q3, q4)) : Cond.methodLink (zk_own M) k arraycopyName ∈ zkT ∧ Cond.native arraycopyName ∈ zkT ∧ Cond.static arraycopyName ∈ zkT ∧ Cond.initialized "java/lang/System" ∈ zkT := by
  obtain ⟨p, hp⟩ := zk_f_mt h
  have h2 := zk_ac_ok
  rw [Bool.and_eq_true, Bool.and_eq_true] at h2
  exact ⟨zk_chk_mem hp, zk_chk_mem h2.1.1, zk_chk_mem h2.1.2, zk_chk_mem h2.2⟩
-- a method's own words
set_option maxRecDepth 100000 in
theorem zk_cw_0 : zk_nth lw_tbl 69 = some (zk_cw 0) := rfl
set_option maxRecDepth 100000 in
theorem zk_cw_1 : zk_nth lw_tbl 77 = some (zk_cw 1) := rfl
set_option maxRecDepth 100000 in
theorem zk_cw_2 : zk_nth lw_tbl 83 = some (zk_cw 2) := rfl
set_option maxRecDepth 100000 in
theorem zk_cw_3 : zk_nth lw_tbl 88 = some (zk_cw 3) := rfl
set_option maxRecDepth 100000 in
theorem zk_cw_4 : zk_nth lw_tbl 92 = some (zk_cw 4) := rfl
set_option maxRecDepth 100000 in
theorem zk_cw_5 : zk_nth lw_tbl 126 = some (zk_cw 5) := rfl
set_option maxRecDepth 100000 in
theorem zk_cw_6 : zk_nth lw_tbl 182 = some (zk_cw 6) := rfl
set_option maxRecDepth 100000 in
theorem zk_cw_7 : zk_nth lw_tbl 185 = some (zk_cw 7) := rfl
set_option maxRecDepth 100000 in
theorem zk_cw_8 : zk_nth lw_tbl 190 = some (zk_cw 8) := rfl
set_option maxRecDepth 100000 in
theorem zk_cw_9 : zk_nth lw_tbl 193 = some (zk_cw 9) := rfl
set_option maxRecDepth 100000 in
theorem zk_cw_10 : zk_nth lw_tbl 264 = some (zk_cw 10) := rfl
set_option maxRecDepth 100000 in
theorem zk_cw_11 : zk_nth lw_tbl 268 = some (zk_cw 11) := rfl
set_option maxRecDepth 100000 in
theorem zk_cw_12 : zk_nth lw_tbl 272 = some (zk_cw 12) := rfl
set_option maxRecDepth 100000 in
theorem zk_cw_13 : zk_nth lw_tbl 277 = some (zk_cw 13) := rfl
set_option maxRecDepth 100000 in
theorem zk_cw_14 : zk_nth lw_tbl 281 = some (zk_cw 14) := rfl
set_option maxRecDepth 100000 in
theorem zk_cw_15 : zk_nth lw_tbl 285 = some (zk_cw 15) := rfl
set_option maxRecDepth 100000 in
theorem zk_cw_16 : zk_nth lw_tbl 289 = some (zk_cw 16) := rfl
set_option maxRecDepth 100000 in
theorem zk_cw_17 : zk_nth lw_tbl 293 = some (zk_cw 17) := rfl
set_option maxRecDepth 100000 in
theorem zk_cw_18 : zk_nth lw_tbl 297 = some (zk_cw 18) := rfl
set_option maxRecDepth 100000 in
theorem zk_cw_19 : zk_nth lw_tbl 301 = some (zk_cw 19) := rfl
set_option maxRecDepth 100000 in
theorem zk_cw_20 : zk_nth lw_tbl 305 = some (zk_cw 20) := rfl
set_option maxRecDepth 100000 in
theorem zk_cw_21 : zk_nth lw_tbl 308 = some (zk_cw 21) := rfl
set_option maxRecDepth 100000 in
theorem zk_cw_22 : zk_nth lw_tbl 311 = some (zk_cw 22) := rfl
set_option maxRecDepth 100000 in
theorem zk_cw_23 : zk_nth lw_tbl 327 = some (zk_cw 23) := rfl
set_option maxRecDepth 100000 in
theorem zk_cw_24 : zk_nth lw_tbl 333 = some (zk_cw 24) := rfl
set_option maxRecDepth 100000 in
theorem zk_cw_25 : zk_nth lw_tbl 336 = some (zk_cw 25) := rfl
set_option maxRecDepth 100000 in
theorem zk_cw_26 : zk_nth lw_tbl 339 = some (zk_cw 26) := rfl
set_option maxRecDepth 100000 in
theorem zk_cw_27 : zk_nth lw_tbl 342 = some (zk_cw 27) := rfl
set_option maxRecDepth 100000 in
theorem zk_cw_28 : zk_nth lw_tbl 348 = some (zk_cw 28) := rfl
set_option maxRecDepth 100000 in
theorem zk_cw_29 : zk_nth lw_tbl 353 = some (zk_cw 29) := rfl
set_option maxRecDepth 100000 in
theorem zk_cw_30 : zk_nth lw_tbl 357 = some (zk_cw 30) := rfl
set_option maxRecDepth 100000 in
theorem zk_cw_31 : zk_nth lw_tbl 360 = some (zk_cw 31) := rfl
set_option maxRecDepth 100000 in
theorem zk_cw_32 : zk_nth lw_tbl 364 = some (zk_cw 32) := rfl
set_option maxRecDepth 100000 in
theorem zk_cw_33 : zk_nth lw_tbl 367 = some (zk_cw 33) := rfl
set_option maxRecDepth 100000 in
theorem zk_cw_34 : zk_nth lw_tbl 371 = some (zk_cw 34) := rfl
set_option maxRecDepth 100000 in
theorem zk_cw_35 : zk_nth lw_tbl 376 = some (zk_cw 35) := rfl
set_option maxRecDepth 100000 in
theorem zk_cw_36 : zk_nth lw_tbl 381 = some (zk_cw 36) := rfl
set_option maxRecDepth 100000 in
theorem zk_cw_37 : zk_nth lw_tbl 386 = some (zk_cw 37) := rfl
set_option maxRecDepth 100000 in
theorem zk_cw_38 : zk_nth lw_tbl 405 = some (zk_cw 38) := rfl
set_option maxRecDepth 100000 in
theorem zk_cw_39 : zk_nth lw_tbl 409 = some (zk_cw 39) := rfl
set_option maxRecDepth 100000 in
theorem zk_cw_40 : zk_nth lw_tbl 413 = some (zk_cw 40) := rfl
set_option maxRecDepth 100000 in
theorem zk_cw_41 : zk_nth lw_tbl 417 = some (zk_cw 41) := rfl
set_option maxRecDepth 100000 in
theorem zk_cw_42 : zk_nth lw_tbl 421 = some (zk_cw 42) := rfl
set_option maxRecDepth 100000 in
theorem zk_cw_43 : zk_nth lw_tbl 428 = some (zk_cw 43) := rfl
set_option maxRecDepth 100000 in
theorem zk_cw_44 : zk_nth lw_tbl 432 = some (zk_cw 44) := rfl
set_option maxRecDepth 100000 in
theorem zk_cw_45 : zk_nth lw_tbl 436 = some (zk_cw 45) := rfl
set_option maxRecDepth 100000 in
theorem zk_cw_46 : zk_nth lw_tbl 441 = some (zk_cw 46) := rfl
set_option maxRecDepth 100000 in
theorem zk_cw_47 : zk_nth lw_tbl 445 = some (zk_cw 47) := rfl
set_option maxRecDepth 100000 in
theorem zk_cw_48 : zk_nth lw_tbl 449 = some (zk_cw 48) := rfl
set_option maxRecDepth 100000 in
theorem zk_cw_49 : zk_nth lw_tbl 453 = some (zk_cw 49) := rfl
set_option maxRecDepth 100000 in
theorem zk_cw_50 : zk_nth lw_tbl 457 = some (zk_cw 50) := rfl
set_option maxRecDepth 100000 in
theorem zk_cw_51 : zk_nth lw_tbl 461 = some (zk_cw 51) := rfl
set_option maxRecDepth 100000 in
theorem zk_cw_52 : zk_nth lw_tbl 465 = some (zk_cw 52) := rfl
set_option maxRecDepth 100000 in
theorem zk_cw_53 : zk_nth lw_tbl 469 = some (zk_cw 53) := rfl
set_option maxRecDepth 100000 in
theorem zk_cw_54 : zk_nth lw_tbl 473 = some (zk_cw 54) := rfl
set_option maxRecDepth 100000 in
theorem zk_cw_55 : zk_nth lw_tbl 477 = some (zk_cw 55) := rfl
set_option maxRecDepth 100000 in
theorem zk_cw_56 : zk_nth lw_tbl 481 = some (zk_cw 56) := rfl
set_option maxRecDepth 100000 in
theorem zk_cw_57 : zk_nth lw_tbl 485 = some (zk_cw 57) := rfl
set_option maxRecDepth 100000 in
theorem zk_cw_58 : zk_nth lw_tbl 490 = some (zk_cw 58) := rfl
set_option maxRecDepth 100000 in
theorem zk_cw_59 : zk_nth lw_tbl 494 = some (zk_cw 59) := rfl
set_option maxRecDepth 100000 in
theorem zk_cw_60 : zk_nth lw_tbl 498 = some (zk_cw 60) := rfl
set_option maxRecDepth 100000 in
theorem zk_cw_61 : zk_nth lw_tbl 502 = some (zk_cw 61) := rfl
set_option maxRecDepth 100000 in
theorem zk_cw_62 : zk_nth lw_tbl 506 = some (zk_cw 62) := rfl
set_option maxRecDepth 100000 in
theorem zk_cw_63 : zk_nth lw_tbl 510 = some (zk_cw 63) := rfl
set_option maxRecDepth 100000 in
theorem zk_cw_64 : zk_nth lw_tbl 514 = some (zk_cw 64) := rfl
set_option maxRecDepth 100000 in
theorem zk_cw_65 : zk_nth lw_tbl 519 = some (zk_cw 65) := rfl
set_option maxRecDepth 100000 in
theorem zk_cw_66 : zk_nth lw_tbl 523 = some (zk_cw 66) := rfl
set_option maxRecDepth 100000 in
theorem zk_cw_67 : zk_nth lw_tbl 527 = some (zk_cw 67) := rfl
set_option maxRecDepth 100000 in
theorem zk_cw_68 : zk_nth lw_tbl 534 = some (zk_cw 68) := rfl
set_option maxRecDepth 100000 in
theorem zk_cw_69 : zk_nth lw_tbl 540 = some (zk_cw 69) := rfl
set_option maxRecDepth 100000 in
theorem zk_cw_70 : zk_nth lw_tbl 544 = some (zk_cw 70) := rfl
set_option maxRecDepth 100000 in
theorem zk_cw_71 : zk_nth lw_tbl 548 = some (zk_cw 71) := rfl
set_option maxRecDepth 100000 in
theorem zk_cw_72 : zk_nth lw_tbl 553 = some (zk_cw 72) := rfl
set_option maxRecDepth 100000 in
theorem zk_cw_73 : zk_nth lw_tbl 556 = some (zk_cw 73) := rfl
set_option maxRecDepth 100000 in
theorem zk_cw_74 : zk_nth lw_tbl 560 = some (zk_cw 74) := rfl
set_option maxRecDepth 100000 in
theorem zk_cw_75 : zk_nth lw_tbl 564 = some (zk_cw 75) := rfl
set_option maxRecDepth 100000 in
theorem zk_cw_76 : zk_nth lw_tbl 567 = some (zk_cw 76) := rfl
set_option maxRecDepth 100000 in
theorem zk_cw_77 : zk_nth lw_tbl 570 = some (zk_cw 77) := rfl
set_option maxRecDepth 100000 in
theorem zk_cw_78 : zk_nth lw_tbl 578 = some (zk_cw 78) := rfl
set_option maxRecDepth 100000 in
theorem zk_cw_79 : zk_nth lw_tbl 582 = some (zk_cw 79) := rfl
set_option maxRecDepth 100000 in
theorem zk_cw_80 : zk_nth lw_tbl 588 = some (zk_cw 80) := rfl
set_option maxRecDepth 100000 in
theorem zk_cw_81 : zk_nth lw_tbl 591 = some (zk_cw 81) := rfl
set_option maxRecDepth 100000 in
theorem zk_cw_82 : zk_nth lw_tbl 594 = some (zk_cw 82) := rfl
set_option maxRecDepth 100000 in
theorem zk_cw_83 : zk_nth lw_tbl 598 = some (zk_cw 83) := rfl
set_option maxRecDepth 100000 in
theorem zk_cw_84 : zk_nth lw_tbl 603 = some (zk_cw 84) := rfl
set_option maxRecDepth 100000 in
theorem zk_cw_85 : zk_nth lw_tbl 606 = some (zk_cw 85) := rfl
set_option maxRecDepth 100000 in
theorem zk_cw_86 : zk_nth lw_tbl 610 = some (zk_cw 86) := rfl
set_option maxRecDepth 100000 in
theorem zk_cw_87 : zk_nth lw_tbl 614 = some (zk_cw 87) := rfl
set_option maxRecDepth 100000 in
theorem zk_cw_88 : zk_nth lw_tbl 618 = some (zk_cw 88) := rfl
set_option maxRecDepth 100000 in
theorem zk_cw_89 : zk_nth lw_tbl 621 = some (zk_cw 89) := rfl
set_option maxRecDepth 100000 in
theorem zk_cw_90 : zk_nth lw_tbl 625 = some (zk_cw 90) := rfl
set_option maxRecDepth 100000 in
theorem zk_cw_91 : zk_nth lw_tbl 628 = some (zk_cw 91) := rfl
set_option maxRecDepth 100000 in
theorem zk_cw_92 : zk_nth lw_tbl 632 = some (zk_cw 92) := rfl
set_option maxRecDepth 100000 in
theorem zk_cw_93 : zk_nth lw_tbl 636 = some (zk_cw 93) := rfl
set_option maxRecDepth 100000 in
theorem zk_cw_94 : zk_nth lw_tbl 639 = some (zk_cw 94) := rfl
set_option maxRecDepth 100000 in
theorem zk_cw_95 : zk_nth lw_tbl 643 = some (zk_cw 95) := rfl
set_option maxRecDepth 100000 in
theorem zk_cw_96 : zk_nth lw_tbl 647 = some (zk_cw 96) := rfl
set_option maxRecDepth 100000 in
theorem zk_cw_97 : zk_nth lw_tbl 650 = some (zk_cw 97) := rfl
set_option maxRecDepth 100000 in
theorem zk_cw_98 : zk_nth lw_tbl 654 = some (zk_cw 98) := rfl
set_option maxRecDepth 100000 in
theorem zk_cw_99 : zk_nth lw_tbl 658 = some (zk_cw 99) := rfl
set_option maxRecDepth 100000 in
theorem zk_cw_100 : zk_nth lw_tbl 663 = some (zk_cw 100) := rfl
set_option maxRecDepth 100000 in
theorem zk_cw_101 : zk_nth lw_tbl 667 = some (zk_cw 101) := rfl
set_option maxRecDepth 100000 in
theorem zk_cw_102 : zk_nth lw_tbl 671 = some (zk_cw 102) := rfl
set_option maxRecDepth 100000 in
theorem zk_cw_103 : zk_nth lw_tbl 675 = some (zk_cw 103) := rfl
set_option maxRecDepth 100000 in
theorem zk_cw_104 : zk_nth lw_tbl 679 = some (zk_cw 104) := rfl
set_option maxRecDepth 100000 in
theorem zk_cw_105 : zk_nth lw_tbl 682 = some (zk_cw 105) := rfl
set_option maxRecDepth 100000 in
theorem zk_cw_106 : zk_nth lw_tbl 686 = some (zk_cw 106) := rfl
set_option maxRecDepth 100000 in
theorem zk_cw_107 : zk_nth lw_tbl 690 = some (zk_cw 107) := rfl
set_option maxRecDepth 100000 in
theorem zk_cw_108 : zk_nth lw_tbl 693 = some (zk_cw 108) := rfl
set_option maxRecDepth 100000 in
theorem zk_cw_109 : zk_nth lw_tbl 697 = some (zk_cw 109) := rfl
set_option maxRecDepth 100000 in
theorem zk_cw_110 : zk_nth lw_tbl 701 = some (zk_cw 110) := rfl
set_option maxRecDepth 100000 in
theorem zk_cw_111 : zk_nth lw_tbl 705 = some (zk_cw 111) := rfl
set_option maxRecDepth 100000 in
theorem zk_cw_112 : zk_nth lw_tbl 710 = some (zk_cw 112) := rfl
set_option maxRecDepth 100000 in
theorem zk_cw_113 : zk_nth lw_tbl 715 = some (zk_cw 113) := rfl
set_option maxRecDepth 100000 in
theorem zk_cw_114 : zk_nth lw_tbl 782 = some (zk_cw 114) := rfl
set_option maxRecDepth 100000 in
theorem zk_cw_115 : zk_nth lw_tbl 786 = some (zk_cw 115) := rfl
set_option maxRecDepth 100000 in
theorem zk_cw_116 : zk_nth lw_tbl 789 = some (zk_cw 116) := rfl
set_option maxRecDepth 100000 in
theorem zk_cw_117 : zk_nth lw_tbl 793 = some (zk_cw 117) := rfl
set_option maxRecDepth 100000 in
theorem zk_cw_118 : zk_nth lw_tbl 797 = some (zk_cw 118) := rfl
set_option maxRecDepth 100000 in
theorem zk_cw_119 : zk_nth lw_tbl 801 = some (zk_cw 119) := rfl
set_option maxRecDepth 100000 in
theorem zk_cw_120 : zk_nth lw_tbl 805 = some (zk_cw 120) := rfl
set_option maxRecDepth 100000 in
theorem zk_cw_121 : zk_nth lw_tbl 810 = some (zk_cw 121) := rfl
set_option maxRecDepth 100000 in
theorem zk_cw_122 : zk_nth lw_tbl 814 = some (zk_cw 122) := rfl
set_option maxRecDepth 100000 in
theorem zk_cw_123 : zk_nth lw_tbl 818 = some (zk_cw 123) := rfl
set_option maxRecDepth 100000 in
theorem zk_cw_124 : zk_nth lw_tbl 822 = some (zk_cw 124) := rfl
set_option maxRecDepth 100000 in
theorem zk_cw_125 : zk_nth lw_tbl 829 = some (zk_cw 125) := rfl
set_option maxRecDepth 100000 in
theorem zk_cw_126 : zk_nth lw_tbl 833 = some (zk_cw 126) := rfl
set_option maxRecDepth 100000 in
theorem zk_cw_127 : zk_nth lw_tbl 837 = some (zk_cw 127) := rfl
set_option maxRecDepth 100000 in
theorem zk_cw_128 : zk_nth lw_tbl 841 = some (zk_cw 128) := rfl
set_option maxRecDepth 100000 in
theorem zk_cw_129 : zk_nth lw_tbl 844 = some (zk_cw 129) := rfl
set_option maxRecDepth 100000 in
theorem zk_cw_130 : zk_nth lw_tbl 850 = some (zk_cw 130) := rfl
set_option maxRecDepth 100000 in
theorem zk_cw_131 : zk_nth lw_tbl 854 = some (zk_cw 131) := rfl
set_option maxRecDepth 100000 in
theorem zk_cw_132 : zk_nth lw_tbl 858 = some (zk_cw 132) := rfl
set_option maxRecDepth 100000 in
theorem zk_cw_133 : zk_nth lw_tbl 862 = some (zk_cw 133) := rfl
set_option maxRecDepth 100000 in
theorem zk_cw_134 : zk_nth lw_tbl 865 = some (zk_cw 134) := rfl
set_option maxRecDepth 100000 in
theorem zk_cw_135 : zk_nth lw_tbl 868 = some (zk_cw 135) := rfl
set_option maxRecDepth 100000 in
theorem zk_cw_136 : zk_nth lw_tbl 875 = some (zk_cw 136) := rfl
set_option maxRecDepth 100000 in
theorem zk_cw_137 : zk_nth lw_tbl 879 = some (zk_cw 137) := rfl
set_option maxRecDepth 100000 in
theorem zk_cw_138 : zk_nth lw_tbl 882 = some (zk_cw 138) := rfl
set_option maxRecDepth 100000 in
theorem zk_cw_139 : zk_nth lw_tbl 886 = some (zk_cw 139) := rfl
set_option maxRecDepth 100000 in
theorem zk_cw_140 : zk_nth lw_tbl 890 = some (zk_cw 140) := rfl
set_option maxRecDepth 100000 in
theorem zk_cw_141 : zk_nth lw_tbl 894 = some (zk_cw 141) := rfl
set_option maxRecDepth 100000 in
theorem zk_cw_142 : zk_nth lw_tbl 898 = some (zk_cw 142) := rfl
set_option maxRecDepth 100000 in
theorem zk_cw_143 : zk_nth lw_tbl 902 = some (zk_cw 143) := rfl
set_option maxRecDepth 100000 in
theorem zk_cw_144 : zk_nth lw_tbl 906 = some (zk_cw 144) := rfl
set_option maxRecDepth 100000 in
theorem zk_cw_145 : zk_nth lw_tbl 910 = some (zk_cw 145) := rfl
set_option maxRecDepth 100000 in
theorem zk_cw_146 : zk_nth lw_tbl 914 = some (zk_cw 146) := rfl
set_option maxRecDepth 100000 in
theorem zk_cw_147 : zk_nth lw_tbl 918 = some (zk_cw 147) := rfl
set_option maxRecDepth 100000 in
theorem zk_cw_148 : zk_nth lw_tbl 922 = some (zk_cw 148) := rfl
set_option maxRecDepth 100000 in
theorem zk_cw_149 : zk_nth lw_tbl 926 = some (zk_cw 149) := rfl
set_option maxRecDepth 100000 in
theorem zk_cw_150 : zk_nth lw_tbl 930 = some (zk_cw 150) := rfl
set_option maxRecDepth 100000 in
theorem zk_cw_151 : zk_nth lw_tbl 934 = some (zk_cw 151) := rfl
set_option maxRecDepth 100000 in
theorem zk_cw_152 : zk_nth lw_tbl 938 = some (zk_cw 152) := rfl
set_option maxRecDepth 100000 in
theorem zk_cw_153 : zk_nth lw_tbl 942 = some (zk_cw 153) := rfl
set_option maxRecDepth 100000 in
theorem zk_cw_154 : zk_nth lw_tbl 946 = some (zk_cw 154) := rfl
set_option maxRecDepth 100000 in
theorem zk_cw_155 : zk_nth lw_tbl 950 = some (zk_cw 155) := rfl
set_option maxRecDepth 100000 in
theorem zk_cw_156 : zk_nth lw_tbl 954 = some (zk_cw 156) := rfl
set_option maxRecDepth 100000 in
theorem zk_cw_157 : zk_nth lw_tbl 958 = some (zk_cw 157) := rfl
set_option maxRecDepth 100000 in
theorem zk_cw_158 : zk_nth lw_tbl 962 = some (zk_cw 158) := rfl
set_option maxRecDepth 100000 in
theorem zk_cw_159 : zk_nth lw_tbl 967 = some (zk_cw 159) := rfl
set_option maxRecDepth 100000 in
theorem zk_cw_160 : zk_nth lw_tbl 971 = some (zk_cw 160) := rfl
set_option maxRecDepth 100000 in
theorem zk_cw_161 : zk_nth lw_tbl 975 = some (zk_cw 161) := rfl
def zk_AllP (f : Nat → Prop) : Nat → Prop
  | 0 => True
  | n + 1 => zk_AllP f n ∧ f n
theorem zk_AllP_at {f : Nat → Prop} {n : Nat} (h : zk_AllP f n) : ∀ M, M < n → f M := by
  induction n with
  | zero => intro M hM; cases hM
  | succ n ih =>
    intro M hM
    rcases Nat.lt_or_ge M n with q | q
    · exact ih h.1 M q
    · rw [show M = n by omega]; exact h.2
theorem zk_cw_all : zk_AllP (fun M => ∃ p, zk_nth lw_tbl p = some (zk_cw M)) 162 := ⟨⟨⟨⟨⟨⟨⟨⟨⟨⟨⟨⟨⟨⟨⟨⟨⟨⟨⟨⟨⟨⟨⟨⟨⟨⟨⟨⟨⟨⟨⟨⟨⟨⟨⟨⟨⟨⟨⟨⟨⟨⟨⟨⟨⟨⟨⟨⟨⟨⟨⟨⟨⟨⟨⟨⟨⟨⟨⟨⟨⟨⟨⟨⟨⟨⟨⟨⟨⟨⟨⟨⟨⟨⟨⟨⟨⟨⟨⟨⟨⟨⟨⟨⟨⟨⟨⟨⟨⟨⟨⟨⟨⟨⟨⟨⟨⟨⟨⟨⟨⟨⟨⟨⟨⟨⟨⟨⟨⟨⟨⟨⟨⟨⟨⟨⟨⟨⟨⟨⟨⟨⟨⟨⟨⟨⟨⟨⟨⟨⟨⟨⟨⟨⟨⟨⟨⟨⟨⟨⟨⟨⟨⟨⟨⟨⟨⟨⟨⟨⟨⟨⟨⟨⟨⟨⟨⟨⟨⟨⟨⟨⟨trivial, ⟨_, zk_cw_0⟩⟩, ⟨_, zk_cw_1⟩⟩, ⟨_, zk_cw_2⟩⟩, ⟨_, zk_cw_3⟩⟩, ⟨_, zk_cw_4⟩⟩, ⟨_, zk_cw_5⟩⟩, ⟨_, zk_cw_6⟩⟩, ⟨_, zk_cw_7⟩⟩, ⟨_, zk_cw_8⟩⟩, ⟨_, zk_cw_9⟩⟩, ⟨_, zk_cw_10⟩⟩, ⟨_, zk_cw_11⟩⟩, ⟨_, zk_cw_12⟩⟩, ⟨_, zk_cw_13⟩⟩, ⟨_, zk_cw_14⟩⟩, ⟨_, zk_cw_15⟩⟩, ⟨_, zk_cw_16⟩⟩, ⟨_, zk_cw_17⟩⟩, ⟨_, zk_cw_18⟩⟩, ⟨_, zk_cw_19⟩⟩, ⟨_, zk_cw_20⟩⟩, ⟨_, zk_cw_21⟩⟩, ⟨_, zk_cw_22⟩⟩, ⟨_, zk_cw_23⟩⟩, ⟨_, zk_cw_24⟩⟩, ⟨_, zk_cw_25⟩⟩, ⟨_, zk_cw_26⟩⟩, ⟨_, zk_cw_27⟩⟩, ⟨_, zk_cw_28⟩⟩, ⟨_, zk_cw_29⟩⟩, ⟨_, zk_cw_30⟩⟩, ⟨_, zk_cw_31⟩⟩, ⟨_, zk_cw_32⟩⟩, ⟨_, zk_cw_33⟩⟩, ⟨_, zk_cw_34⟩⟩, ⟨_, zk_cw_35⟩⟩, ⟨_, zk_cw_36⟩⟩, ⟨_, zk_cw_37⟩⟩, ⟨_, zk_cw_38⟩⟩, ⟨_, zk_cw_39⟩⟩, ⟨_, zk_cw_40⟩⟩, ⟨_, zk_cw_41⟩⟩, ⟨_, zk_cw_42⟩⟩, ⟨_, zk_cw_43⟩⟩, ⟨_, zk_cw_44⟩⟩, ⟨_, zk_cw_45⟩⟩, ⟨_, zk_cw_46⟩⟩, ⟨_, zk_cw_47⟩⟩, ⟨_, zk_cw_48⟩⟩, ⟨_, zk_cw_49⟩⟩, ⟨_, zk_cw_50⟩⟩, ⟨_, zk_cw_51⟩⟩, ⟨_, zk_cw_52⟩⟩, ⟨_, zk_cw_53⟩⟩, ⟨_, zk_cw_54⟩⟩, ⟨_, zk_cw_55⟩⟩, ⟨_, zk_cw_56⟩⟩, ⟨_, zk_cw_57⟩⟩, ⟨_, zk_cw_58⟩⟩, ⟨_, zk_cw_59⟩⟩, ⟨_, zk_cw_60⟩⟩, ⟨_, zk_cw_61⟩⟩, ⟨_, zk_cw_62⟩⟩, ⟨_, zk_cw_63⟩⟩, ⟨_, zk_cw_64⟩⟩, ⟨_, zk_cw_65⟩⟩, ⟨_, zk_cw_66⟩⟩, ⟨_, zk_cw_67⟩⟩, ⟨_, zk_cw_68⟩⟩, ⟨_, zk_cw_69⟩⟩, ⟨_, zk_cw_70⟩⟩, ⟨_, zk_cw_71⟩⟩, ⟨_, zk_cw_72⟩⟩, ⟨_, zk_cw_73⟩⟩, ⟨_, zk_cw_74⟩⟩, ⟨_, zk_cw_75⟩⟩, ⟨_, zk_cw_76⟩⟩, ⟨_, zk_cw_77⟩⟩, ⟨_, zk_cw_78⟩⟩, ⟨_, zk_cw_79⟩⟩, ⟨_, zk_cw_80⟩⟩, ⟨_, zk_cw_81⟩⟩, ⟨_, zk_cw_82⟩⟩, ⟨_, zk_cw_83⟩⟩, ⟨_, zk_cw_84⟩⟩, ⟨_, zk_cw_85⟩⟩, ⟨_, zk_cw_86⟩⟩, ⟨_, zk_cw_87⟩⟩, ⟨_, zk_cw_88⟩⟩, ⟨_, zk_cw_89⟩⟩, ⟨_, zk_cw_90⟩⟩, ⟨_, zk_cw_91⟩⟩, ⟨_, zk_cw_92⟩⟩, ⟨_, zk_cw_93⟩⟩, ⟨_, zk_cw_94⟩⟩, ⟨_, zk_cw_95⟩⟩, ⟨_, zk_cw_96⟩⟩, ⟨_, zk_cw_97⟩⟩, ⟨_, zk_cw_98⟩⟩, ⟨_, zk_cw_99⟩⟩, ⟨_, zk_cw_100⟩⟩, ⟨_, zk_cw_101⟩⟩, ⟨_, zk_cw_102⟩⟩, ⟨_, zk_cw_103⟩⟩, ⟨_, zk_cw_104⟩⟩, ⟨_, zk_cw_105⟩⟩, ⟨_, zk_cw_106⟩⟩, ⟨_, zk_cw_107⟩⟩, ⟨_, zk_cw_108⟩⟩, ⟨_, zk_cw_109⟩⟩, ⟨_, zk_cw_110⟩⟩, ⟨_, zk_cw_111⟩⟩, ⟨_, zk_cw_112⟩⟩, ⟨_, zk_cw_113⟩⟩, ⟨_, zk_cw_114⟩⟩, ⟨_, zk_cw_115⟩⟩, ⟨_, zk_cw_116⟩⟩, ⟨_, zk_cw_117⟩⟩, ⟨_, zk_cw_118⟩⟩, ⟨_, zk_cw_119⟩⟩, ⟨_, zk_cw_120⟩⟩, ⟨_, zk_cw_121⟩⟩, ⟨_, zk_cw_122⟩⟩, ⟨_, zk_cw_123⟩⟩, ⟨_, zk_cw_124⟩⟩, ⟨_, zk_cw_125⟩⟩, ⟨_, zk_cw_126⟩⟩, ⟨_, zk_cw_127⟩⟩, ⟨_, zk_cw_128⟩⟩, ⟨_, zk_cw_129⟩⟩, ⟨_, zk_cw_130⟩⟩, ⟨_, zk_cw_131⟩⟩, ⟨_, zk_cw_132⟩⟩, ⟨_, zk_cw_133⟩⟩, ⟨_, zk_cw_134⟩⟩, ⟨_, zk_cw_135⟩⟩, ⟨_, zk_cw_136⟩⟩, ⟨_, zk_cw_137⟩⟩, ⟨_, zk_cw_138⟩⟩, ⟨_, zk_cw_139⟩⟩, ⟨_, zk_cw_140⟩⟩, ⟨_, zk_cw_141⟩⟩, ⟨_, zk_cw_142⟩⟩, ⟨_, zk_cw_143⟩⟩, ⟨_, zk_cw_144⟩⟩, ⟨_, zk_cw_145⟩⟩, ⟨_, zk_cw_146⟩⟩, ⟨_, zk_cw_147⟩⟩, ⟨_, zk_cw_148⟩⟩, ⟨_, zk_cw_149⟩⟩, ⟨_, zk_cw_150⟩⟩, ⟨_, zk_cw_151⟩⟩, ⟨_, zk_cw_152⟩⟩, ⟨_, zk_cw_153⟩⟩, ⟨_, zk_cw_154⟩⟩, ⟨_, zk_cw_155⟩⟩, ⟨_, zk_cw_156⟩⟩, ⟨_, zk_cw_157⟩⟩, ⟨_, zk_cw_158⟩⟩, ⟨_, zk_cw_159⟩⟩, ⟨_, zk_cw_160⟩⟩, ⟨_, zk_cw_161⟩⟩
theorem zk_cw_good (M : Nat) : zk_good (zk_cw M) = true := by
  unfold zk_cw
  split <;> rfl
theorem zk_cw_ok : ((List.range 162).all fun M => match zk_nth zk_cwP M with
  | some p => zk_chk p.2 (.initialized (zk_own M)) && decide (zk_own M ≠ "java/lang/invoke/MethodHandle") && decide (zk_own M ≠ "java/lang/invoke/VarHandle") && decide (zk_mxl M ≤ 14)
  | none => false) = true := by decide +kernel
theorem zk_pf_ok : ((List.range 162).all fun M => plainFor (zk_yn M)) = true := by decide +kernel
theorem zk_f_cw {M : Nat} (h : M < 162) : zk_cw M ∈ zkT ∧ Cond.initialized (zk_own M) ∈ zkT ∧ plainFor (zk_yn M) = true ∧ zk_own M ≠ "java/lang/invoke/MethodHandle" ∧ zk_own M ≠ "java/lang/invoke/VarHandle" ∧ zk_mxl M ≤ 14 := by
  obtain ⟨p, hp⟩ := zk_AllP_at zk_cw_all M h
  have h1 := List.all_eq_true.mp zk_cw_ok M (List.mem_range.mpr h)
  have h2 := List.all_eq_true.mp zk_pf_ok M (List.mem_range.mpr h)
  split at h1
  · simp only [Bool.and_eq_true, decide_eq_true_eq] at h1
    obtain ⟨⟨⟨a2, a4⟩, a5⟩, a6⟩ := h1
    exact ⟨List.mem_filter.mpr ⟨zk_nth_mem hp, zk_cw_good M⟩, zk_chk_mem a2, h2, a4, a5, a6⟩
  · cases h1
/-- exceptions: their classes' links -/
theorem zk_xcL_ok : zk_each zk_xcL (fun o k q => zk_chk q.2 (.classLink o k (zk_xn q.1)) && decide (k ≠ 0) && decide (q.1 < 2)) = true := by decide +kernel
theorem zk_f_xc {M k x : Nat} (h : zk_xc M k = some x) : k ≠ 0 ∧ Cond.classLink (zk_own M) k (zk_xn x) ∈ zkT ∧ x < 2 := by
  unfold zk_xc at h
  split at h
  · rename_i q hq
    cases h
    have h1 := zk_lk2_ok (by rfl) zk_xcL_ok hq
    simp only [Bool.and_eq_true, decide_eq_true_eq] at h1
    exact ⟨h1.1.2, zk_chk_mem h1.1.1, h1.2⟩
  · cases h
theorem zk_f_xk {M k x : Nat} (h : zk_xk M k = some x) : k ≠ 0 ∧ Cond.classLink (zk_own M) k (zk_xn x) ∈ zkT := ⟨(zk_f_xc h).1, (zk_f_xc h).2.1⟩

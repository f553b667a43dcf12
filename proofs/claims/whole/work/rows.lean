section
-- PART A of kit/laws/SKELETON.whole.lean.txt, as given for pasting
-- ===== PART A: goes FIRST, ahead of the names: the tables' words, and 'selects' of the private methods out of them =====
/-- a private method of a class that the tables say can be made, by its rows of tables_1 -/
def lw_okq (q : MethodName × Nat) : Prop := (q.1.cls ≠ "java/lang/invoke/MethodHandle" ∧ q.1.cls ≠ "java/lang/invoke/VarHandle") ∧ Cond.instantiable q.1.cls q.2 ∈ tables_1 ∧ Cond.privateMethod q.1 ∈ tables_1 ∧ Cond.instanceMethod q.1 ∈ tables_1
theorem lw_p0 : lw_okq (⟨"PropertyStore$Memory", "release", "(I)V"⟩, 7) := ⟨⟨by decide +kernel, by decide +kernel⟩, List.mem_of_getElem? (i := 32) (by decide +kernel), List.mem_of_getElem? (i := 38) (by decide +kernel), List.mem_of_getElem? (i := 39) (by decide +kernel)⟩
theorem lw_p1 : lw_okq (⟨"java/lang/Throwable", "fillInStackTrace", "(I)Ljava/lang/Throwable;"⟩, 6) := ⟨⟨by decide +kernel, by decide +kernel⟩, List.mem_of_getElem? (i := 184) (by decide +kernel), List.mem_of_getElem? (i := 182) (by decide +kernel), List.mem_of_getElem? (i := 183) (by decide +kernel)⟩
theorem lw_p2 : lw_okq (⟨"PropertyStore", "heldOrNone", "(I)I"⟩, 7) := ⟨⟨by decide +kernel, by decide +kernel⟩, List.mem_of_getElem? (i := 18) (by decide +kernel), List.mem_of_getElem? (i := 214) (by decide +kernel), List.mem_of_getElem? (i := 215) (by decide +kernel)⟩
theorem lw_p3 : lw_okq (⟨"PropertyStore", "held", "(I)I"⟩, 7) := ⟨⟨by decide +kernel, by decide +kernel⟩, List.mem_of_getElem? (i := 18) (by decide +kernel), List.mem_of_getElem? (i := 218) (by decide +kernel), List.mem_of_getElem? (i := 219) (by decide +kernel)⟩
theorem lw_p4 : lw_okq (⟨"PropertyStore$Memory", "isCollectionDue", "()Z"⟩, 7) := ⟨⟨by decide +kernel, by decide +kernel⟩, List.mem_of_getElem? (i := 32) (by decide +kernel), List.mem_of_getElem? (i := 235) (by decide +kernel), List.mem_of_getElem? (i := 236) (by decide +kernel)⟩
theorem lw_p5 : lw_okq (⟨"PropertyStore$Memory", "markAll", "()V"⟩, 7) := ⟨⟨by decide +kernel, by decide +kernel⟩, List.mem_of_getElem? (i := 32) (by decide +kernel), List.mem_of_getElem? (i := 239) (by decide +kernel), List.mem_of_getElem? (i := 240) (by decide +kernel)⟩
theorem lw_p6 : lw_okq (⟨"PropertyStore$Memory", "mark", "(II)I"⟩, 7) := ⟨⟨by decide +kernel, by decide +kernel⟩, List.mem_of_getElem? (i := 32) (by decide +kernel), List.mem_of_getElem? (i := 243) (by decide +kernel), List.mem_of_getElem? (i := 244) (by decide +kernel)⟩
theorem lw_p7 : lw_okq (⟨"PropertyStore$Memory", "sweep", "()V"⟩, 7) := ⟨⟨by decide +kernel, by decide +kernel⟩, List.mem_of_getElem? (i := 32) (by decide +kernel), List.mem_of_getElem? (i := 251) (by decide +kernel), List.mem_of_getElem? (i := 252) (by decide +kernel)⟩
theorem lw_p8 : lw_okq (⟨"PropertyStore$Memory", "widenIfTight", "()V"⟩, 7) := ⟨⟨by decide +kernel, by decide +kernel⟩, List.mem_of_getElem? (i := 32) (by decide +kernel), List.mem_of_getElem? (i := 255) (by decide +kernel), List.mem_of_getElem? (i := 256) (by decide +kernel)⟩
theorem lw_p9 : lw_okq (⟨"PropertyStore$ObjectSpace", "writeLength", "(IJ)V"⟩, 1) := ⟨⟨by decide +kernel, by decide +kernel⟩, List.mem_of_getElem? (i := 26) (by decide +kernel), List.mem_of_getElem? (i := 283) (by decide +kernel), List.mem_of_getElem? (i := 284) (by decide +kernel)⟩
theorem lw_p10 : lw_okq (⟨"PropertyStore$ObjectSpace", "writeValue", "(IIJI)V"⟩, 1) := ⟨⟨by decide +kernel, by decide +kernel⟩, List.mem_of_getElem? (i := 26) (by decide +kernel), List.mem_of_getElem? (i := 298) (by decide +kernel), List.mem_of_getElem? (i := 299) (by decide +kernel)⟩
theorem lw_p11 : lw_okq (⟨"PropertyStore", "heldWithKey", "(IJ)I"⟩, 7) := ⟨⟨by decide +kernel, by decide +kernel⟩, List.mem_of_getElem? (i := 18) (by decide +kernel), List.mem_of_getElem? (i := 371) (by decide +kernel), List.mem_of_getElem? (i := 372) (by decide +kernel)⟩
theorem lw_p12 : lw_okq (⟨"PropertyStore$ObjectSpace", "first", "(I)I"⟩, 1) := ⟨⟨by decide +kernel, by decide +kernel⟩, List.mem_of_getElem? (i := 26) (by decide +kernel), List.mem_of_getElem? (i := 386) (by decide +kernel), List.mem_of_getElem? (i := 387) (by decide +kernel)⟩
theorem lw_p13 : lw_okq (⟨"PropertyStore$ObjectSpace", "next", "(I)I"⟩, 1) := ⟨⟨by decide +kernel, by decide +kernel⟩, List.mem_of_getElem? (i := 26) (by decide +kernel), List.mem_of_getElem? (i := 395) (by decide +kernel), List.mem_of_getElem? (i := 396) (by decide +kernel)⟩
theorem lw_p14 : lw_okq (⟨"PropertyStore", "giveValue", "(I)V"⟩, 7) := ⟨⟨by decide +kernel, by decide +kernel⟩, List.mem_of_getElem? (i := 18) (by decide +kernel), List.mem_of_getElem? (i := 403) (by decide +kernel), List.mem_of_getElem? (i := 404) (by decide +kernel)⟩
theorem lw_p15 : lw_okq (⟨"PropertyStore", "giveObject", "(I)V"⟩, 7) := ⟨⟨by decide +kernel, by decide +kernel⟩, List.mem_of_getElem? (i := 18) (by decide +kernel), List.mem_of_getElem? (i := 435) (by decide +kernel), List.mem_of_getElem? (i := 436) (by decide +kernel)⟩
def lw_privs_1 : List (MethodName × Nat) := [(⟨"PropertyStore$Memory", "release", "(I)V"⟩, 7), (⟨"java/lang/Throwable", "fillInStackTrace", "(I)Ljava/lang/Throwable;"⟩, 6), (⟨"PropertyStore", "heldOrNone", "(I)I"⟩, 7), (⟨"PropertyStore", "held", "(I)I"⟩, 7), (⟨"PropertyStore$Memory", "isCollectionDue", "()Z"⟩, 7), (⟨"PropertyStore$Memory", "markAll", "()V"⟩, 7), (⟨"PropertyStore$Memory", "mark", "(II)I"⟩, 7), (⟨"PropertyStore$Memory", "sweep", "()V"⟩, 7), (⟨"PropertyStore$Memory", "widenIfTight", "()V"⟩, 7), (⟨"PropertyStore$ObjectSpace", "writeLength", "(IJ)V"⟩, 1), (⟨"PropertyStore$ObjectSpace", "writeValue", "(IIJI)V"⟩, 1), (⟨"PropertyStore", "heldWithKey", "(IJ)I"⟩, 7), (⟨"PropertyStore$ObjectSpace", "first", "(I)I"⟩, 1), (⟨"PropertyStore$ObjectSpace", "next", "(I)I"⟩, 1), (⟨"PropertyStore", "giveValue", "(I)V"⟩, 7), (⟨"PropertyStore", "giveObject", "(I)V"⟩, 7)]
theorem lw_r1 : ∀ q ∈ lw_privs_1, lw_okq q := List.forall_mem_cons.mpr ⟨lw_p0, List.forall_mem_cons.mpr ⟨lw_p1, List.forall_mem_cons.mpr ⟨lw_p2, List.forall_mem_cons.mpr ⟨lw_p3, List.forall_mem_cons.mpr ⟨lw_p4, List.forall_mem_cons.mpr ⟨lw_p5, List.forall_mem_cons.mpr ⟨lw_p6, List.forall_mem_cons.mpr ⟨lw_p7, List.forall_mem_cons.mpr ⟨lw_p8, List.forall_mem_cons.mpr ⟨lw_p9, List.forall_mem_cons.mpr ⟨lw_p10, List.forall_mem_cons.mpr ⟨lw_p11, List.forall_mem_cons.mpr ⟨lw_p12, List.forall_mem_cons.mpr ⟨lw_p13, List.forall_mem_cons.mpr ⟨lw_p14, List.forall_mem_cons.mpr ⟨lw_p15, fun _ h => absurd h List.not_mem_nil⟩⟩⟩⟩⟩⟩⟩⟩⟩⟩⟩⟩⟩⟩⟩⟩
theorem lw_p16 : lw_okq (⟨"PropertyStore$ObjectSpace", "definePlainly", "(IJLPropertyStore$Description;)I"⟩, 1) := ⟨⟨by decide +kernel, by decide +kernel⟩, List.mem_of_getElem? (i := 26) (by decide +kernel), List.mem_of_getElem? (i := 460) (by decide +kernel), List.mem_of_getElem? (i := 461) (by decide +kernel)⟩
theorem lw_p17 : lw_okq (⟨"PropertyStore$ObjectSpace", "change", "(ILPropertyStore$Description;)I"⟩, 1) := ⟨⟨by decide +kernel, by decide +kernel⟩, List.mem_of_getElem? (i := 26) (by decide +kernel), List.mem_of_getElem? (i := 464) (by decide +kernel), List.mem_of_getElem? (i := 465) (by decide +kernel)⟩
theorem lw_p18 : lw_okq (⟨"PropertyStore$ObjectSpace", "isFixed", "(ILPropertyStore$Description;)Z"⟩, 1) := ⟨⟨by decide +kernel, by decide +kernel⟩, List.mem_of_getElem? (i := 26) (by decide +kernel), List.mem_of_getElem? (i := 469) (by decide +kernel), List.mem_of_getElem? (i := 470) (by decide +kernel)⟩
theorem lw_p19 : lw_okq (⟨"PropertyStore$ObjectSpace", "isValue", "(ILPropertyStore$Description;)Z"⟩, 1) := ⟨⟨by decide +kernel, by decide +kernel⟩, List.mem_of_getElem? (i := 26) (by decide +kernel), List.mem_of_getElem? (i := 484) (by decide +kernel), List.mem_of_getElem? (i := 485) (by decide +kernel)⟩
theorem lw_p20 : lw_okq (⟨"PropertyStore$ObjectSpace", "become", "(ILPropertyStore$Description;)V"⟩, 1) := ⟨⟨by decide +kernel, by decide +kernel⟩, List.mem_of_getElem? (i := 26) (by decide +kernel), List.mem_of_getElem? (i := 490) (by decide +kernel), List.mem_of_getElem? (i := 491) (by decide +kernel)⟩
theorem lw_p21 : lw_okq (⟨"PropertyStore$ObjectSpace", "turnOver", "(I)V"⟩, 1) := ⟨⟨by decide +kernel, by decide +kernel⟩, List.mem_of_getElem? (i := 26) (by decide +kernel), List.mem_of_getElem? (i := 494) (by decide +kernel), List.mem_of_getElem? (i := 495) (by decide +kernel)⟩
theorem lw_p22 : lw_okq (⟨"PropertyStore$ObjectSpace", "add", "(IJLPropertyStore$Description;)I"⟩, 1) := ⟨⟨by decide +kernel, by decide +kernel⟩, List.mem_of_getElem? (i := 26) (by decide +kernel), List.mem_of_getElem? (i := 503) (by decide +kernel), List.mem_of_getElem? (i := 504) (by decide +kernel)⟩
theorem lw_p23 : lw_okq (⟨"PropertyStore$ObjectSpace", "linkBehind", "(III)V"⟩, 1) := ⟨⟨by decide +kernel, by decide +kernel⟩, List.mem_of_getElem? (i := 26) (by decide +kernel), List.mem_of_getElem? (i := 510) (by decide +kernel), List.mem_of_getElem? (i := 511) (by decide +kernel)⟩
theorem lw_p24 : lw_okq (⟨"PropertyStore$ObjectSpace", "defineLength", "(IILPropertyStore$Description;)I"⟩, 1) := ⟨⟨by decide +kernel, by decide +kernel⟩, List.mem_of_getElem? (i := 26) (by decide +kernel), List.mem_of_getElem? (i := 514) (by decide +kernel), List.mem_of_getElem? (i := 515) (by decide +kernel)⟩
theorem lw_p25 : lw_okq (⟨"PropertyStore$ObjectSpace", "readLength", "(I)J"⟩, 1) := ⟨⟨by decide +kernel, by decide +kernel⟩, List.mem_of_getElem? (i := 26) (by decide +kernel), List.mem_of_getElem? (i := 528) (by decide +kernel), List.mem_of_getElem? (i := 529) (by decide +kernel)⟩
theorem lw_p26 : lw_okq (⟨"PropertyStore$ObjectSpace", "cut", "(IJ)J"⟩, 1) := ⟨⟨by decide +kernel, by decide +kernel⟩, List.mem_of_getElem? (i := 26) (by decide +kernel), List.mem_of_getElem? (i := 538) (by decide +kernel), List.mem_of_getElem? (i := 539) (by decide +kernel)⟩
theorem lw_p27 : lw_okq (⟨"PropertyStore", "heldWithLock", "(II)I"⟩, 7) := ⟨⟨by decide +kernel, by decide +kernel⟩, List.mem_of_getElem? (i := 18) (by decide +kernel), List.mem_of_getElem? (i := 621) (by decide +kernel), List.mem_of_getElem? (i := 622) (by decide +kernel)⟩
theorem lw_p28 : lw_okq (⟨"PropertyStoreModel", "holds", "(I)Z"⟩, 20) := ⟨⟨by decide +kernel, by decide +kernel⟩, List.mem_of_getElem? (i := 664) (by decide +kernel), List.mem_of_getElem? (i := 747) (by decide +kernel), List.mem_of_getElem? (i := 748) (by decide +kernel)⟩
theorem lw_p29 : lw_okq (⟨"PropertyStoreModel", "says", "(Z)Z"⟩, 20) := ⟨⟨by decide +kernel, by decide +kernel⟩, List.mem_of_getElem? (i := 664) (by decide +kernel), List.mem_of_getElem? (i := 751) (by decide +kernel), List.mem_of_getElem? (i := 752) (by decide +kernel)⟩
theorem lw_p30 : lw_okq (⟨"PropertyStoreModel", "newObject", "(IZ)I"⟩, 20) := ⟨⟨by decide +kernel, by decide +kernel⟩, List.mem_of_getElem? (i := 664) (by decide +kernel), List.mem_of_getElem? (i := 755) (by decide +kernel), List.mem_of_getElem? (i := 756) (by decide +kernel)⟩
theorem lw_p31 : lw_okq (⟨"PropertyStoreModel", "add", "(IJIIJ)I"⟩, 20) := ⟨⟨by decide +kernel, by decide +kernel⟩, List.mem_of_getElem? (i := 664) (by decide +kernel), List.mem_of_getElem? (i := 760) (by decide +kernel), List.mem_of_getElem? (i := 761) (by decide +kernel)⟩
def lw_privs_2 : List (MethodName × Nat) := [(⟨"PropertyStore$ObjectSpace", "definePlainly", "(IJLPropertyStore$Description;)I"⟩, 1), (⟨"PropertyStore$ObjectSpace", "change", "(ILPropertyStore$Description;)I"⟩, 1), (⟨"PropertyStore$ObjectSpace", "isFixed", "(ILPropertyStore$Description;)Z"⟩, 1), (⟨"PropertyStore$ObjectSpace", "isValue", "(ILPropertyStore$Description;)Z"⟩, 1), (⟨"PropertyStore$ObjectSpace", "become", "(ILPropertyStore$Description;)V"⟩, 1), (⟨"PropertyStore$ObjectSpace", "turnOver", "(I)V"⟩, 1), (⟨"PropertyStore$ObjectSpace", "add", "(IJLPropertyStore$Description;)I"⟩, 1), (⟨"PropertyStore$ObjectSpace", "linkBehind", "(III)V"⟩, 1), (⟨"PropertyStore$ObjectSpace", "defineLength", "(IILPropertyStore$Description;)I"⟩, 1), (⟨"PropertyStore$ObjectSpace", "readLength", "(I)J"⟩, 1), (⟨"PropertyStore$ObjectSpace", "cut", "(IJ)J"⟩, 1), (⟨"PropertyStore", "heldWithLock", "(II)I"⟩, 7), (⟨"PropertyStoreModel", "holds", "(I)Z"⟩, 20), (⟨"PropertyStoreModel", "says", "(Z)Z"⟩, 20), (⟨"PropertyStoreModel", "newObject", "(IZ)I"⟩, 20), (⟨"PropertyStoreModel", "add", "(IJIIJ)I"⟩, 20)]
theorem lw_r2 : ∀ q ∈ lw_privs_2, lw_okq q := List.forall_mem_cons.mpr ⟨lw_p16, List.forall_mem_cons.mpr ⟨lw_p17, List.forall_mem_cons.mpr ⟨lw_p18, List.forall_mem_cons.mpr ⟨lw_p19, List.forall_mem_cons.mpr ⟨lw_p20, List.forall_mem_cons.mpr ⟨lw_p21, List.forall_mem_cons.mpr ⟨lw_p22, List.forall_mem_cons.mpr ⟨lw_p23, List.forall_mem_cons.mpr ⟨lw_p24, List.forall_mem_cons.mpr ⟨lw_p25, List.forall_mem_cons.mpr ⟨lw_p26, List.forall_mem_cons.mpr ⟨lw_p27, List.forall_mem_cons.mpr ⟨lw_p28, List.forall_mem_cons.mpr ⟨lw_p29, List.forall_mem_cons.mpr ⟨lw_p30, List.forall_mem_cons.mpr ⟨lw_p31, fun _ h => absurd h List.not_mem_nil⟩⟩⟩⟩⟩⟩⟩⟩⟩⟩⟩⟩⟩⟩⟩⟩
theorem lw_p32 : lw_okq (⟨"PropertyStoreModel", "isPart", "(I)Z"⟩, 20) := ⟨⟨by decide +kernel, by decide +kernel⟩, List.mem_of_getElem? (i := 664) (by decide +kernel), List.mem_of_getElem? (i := 804) (by decide +kernel), List.mem_of_getElem? (i := 805) (by decide +kernel)⟩
theorem lw_p33 : lw_okq (⟨"PropertyStoreModel", "defineOwn", "(IJIIIJI)I"⟩, 20) := ⟨⟨by decide +kernel, by decide +kernel⟩, List.mem_of_getElem? (i := 664) (by decide +kernel), List.mem_of_getElem? (i := 808) (by decide +kernel), List.mem_of_getElem? (i := 809) (by decide +kernel)⟩
theorem lw_p34 : lw_okq (⟨"PropertyStoreModel", "defineLength", "(IIIIJ)I"⟩, 20) := ⟨⟨by decide +kernel, by decide +kernel⟩, List.mem_of_getElem? (i := 664) (by decide +kernel), List.mem_of_getElem? (i := 812) (by decide +kernel), List.mem_of_getElem? (i := 813) (by decide +kernel)⟩
theorem lw_p35 : lw_okq (⟨"PropertyStoreModel", "lengthOf", "(I)J"⟩, 20) := ⟨⟨by decide +kernel, by decide +kernel⟩, List.mem_of_getElem? (i := 664) (by decide +kernel), List.mem_of_getElem? (i := 825) (by decide +kernel), List.mem_of_getElem? (i := 826) (by decide +kernel)⟩
theorem lw_p36 : lw_okq (⟨"PropertyStoreModel", "find", "(IJ)I"⟩, 20) := ⟨⟨by decide +kernel, by decide +kernel⟩, List.mem_of_getElem? (i := 664) (by decide +kernel), List.mem_of_getElem? (i := 829) (by decide +kernel), List.mem_of_getElem? (i := 830) (by decide +kernel)⟩
theorem lw_p37 : lw_okq (⟨"PropertyStoreModel", "defineAny", "(IJIIIJI)I"⟩, 20) := ⟨⟨by decide +kernel, by decide +kernel⟩, List.mem_of_getElem? (i := 664) (by decide +kernel), List.mem_of_getElem? (i := 836) (by decide +kernel), List.mem_of_getElem? (i := 837) (by decide +kernel)⟩
theorem lw_p38 : lw_okq (⟨"PropertyStoreModel", "isSo", "(IIIIJII)Z"⟩, 20) := ⟨⟨by decide +kernel, by decide +kernel⟩, List.mem_of_getElem? (i := 664) (by decide +kernel), List.mem_of_getElem? (i := 840) (by decide +kernel), List.mem_of_getElem? (i := 841) (by decide +kernel)⟩
theorem lw_p39 : lw_okq (⟨"PropertyStoreModel", "has", "(II)Z"⟩, 20) := ⟨⟨by decide +kernel, by decide +kernel⟩, List.mem_of_getElem? (i := 664) (by decide +kernel), List.mem_of_getElem? (i := 844) (by decide +kernel), List.mem_of_getElem? (i := 845) (by decide +kernel)⟩
theorem lw_p40 : lw_okq (⟨"PropertyStoreModel", "isSame", "(IIJ)Z"⟩, 20) := ⟨⟨by decide +kernel, by decide +kernel⟩, List.mem_of_getElem? (i := 664) (by decide +kernel), List.mem_of_getElem? (i := 848) (by decide +kernel), List.mem_of_getElem? (i := 849) (by decide +kernel)⟩
theorem lw_p41 : lw_okq (⟨"PropertyStoreModel", "resists", "(IIIIJII)Z"⟩, 20) := ⟨⟨by decide +kernel, by decide +kernel⟩, List.mem_of_getElem? (i := 664) (by decide +kernel), List.mem_of_getElem? (i := 852) (by decide +kernel), List.mem_of_getElem? (i := 853) (by decide +kernel)⟩
theorem lw_p42 : lw_okq (⟨"PropertyStoreModel", "put", "(IIZ)V"⟩, 20) := ⟨⟨by decide +kernel, by decide +kernel⟩, List.mem_of_getElem? (i := 664) (by decide +kernel), List.mem_of_getElem? (i := 856) (by decide +kernel), List.mem_of_getElem? (i := 857) (by decide +kernel)⟩
theorem lw_p43 : lw_okq (⟨"PropertyStoreModel", "highest", "(IJ)I"⟩, 20) := ⟨⟨by decide +kernel, by decide +kernel⟩, List.mem_of_getElem? (i := 664) (by decide +kernel), List.mem_of_getElem? (i := 860) (by decide +kernel), List.mem_of_getElem? (i := 861) (by decide +kernel)⟩
theorem lw_p44 : lw_okq (⟨"PropertyStoreModel", "lookUp", "(IJ)I"⟩, 20) := ⟨⟨by decide +kernel, by decide +kernel⟩, List.mem_of_getElem? (i := 664) (by decide +kernel), List.mem_of_getElem? (i := 868) (by decide +kernel), List.mem_of_getElem? (i := 869) (by decide +kernel)⟩
theorem lw_p45 : lw_okq (⟨"PropertyStoreModel", "result", "(IJ)V"⟩, 20) := ⟨⟨by decide +kernel, by decide +kernel⟩, List.mem_of_getElem? (i := 664) (by decide +kernel), List.mem_of_getElem? (i := 872) (by decide +kernel), List.mem_of_getElem? (i := 873) (by decide +kernel)⟩
theorem lw_p46 : lw_okq (⟨"PropertyStoreModel", "count", "(I)I"⟩, 20) := ⟨⟨by decide +kernel, by decide +kernel⟩, List.mem_of_getElem? (i := 664) (by decide +kernel), List.mem_of_getElem? (i := 900) (by decide +kernel), List.mem_of_getElem? (i := 901) (by decide +kernel)⟩
theorem lw_p47 : lw_okq (⟨"PropertyStoreModel", "isBefore", "(II)Z"⟩, 20) := ⟨⟨by decide +kernel, by decide +kernel⟩, List.mem_of_getElem? (i := 664) (by decide +kernel), List.mem_of_getElem? (i := 908) (by decide +kernel), List.mem_of_getElem? (i := 909) (by decide +kernel)⟩
def lw_privs_3 : List (MethodName × Nat) := [(⟨"PropertyStoreModel", "isPart", "(I)Z"⟩, 20), (⟨"PropertyStoreModel", "defineOwn", "(IJIIIJI)I"⟩, 20), (⟨"PropertyStoreModel", "defineLength", "(IIIIJ)I"⟩, 20), (⟨"PropertyStoreModel", "lengthOf", "(I)J"⟩, 20), (⟨"PropertyStoreModel", "find", "(IJ)I"⟩, 20), (⟨"PropertyStoreModel", "defineAny", "(IJIIIJI)I"⟩, 20), (⟨"PropertyStoreModel", "isSo", "(IIIIJII)Z"⟩, 20), (⟨"PropertyStoreModel", "has", "(II)Z"⟩, 20), (⟨"PropertyStoreModel", "isSame", "(IIJ)Z"⟩, 20), (⟨"PropertyStoreModel", "resists", "(IIIIJII)Z"⟩, 20), (⟨"PropertyStoreModel", "put", "(IIZ)V"⟩, 20), (⟨"PropertyStoreModel", "highest", "(IJ)I"⟩, 20), (⟨"PropertyStoreModel", "lookUp", "(IJ)I"⟩, 20), (⟨"PropertyStoreModel", "result", "(IJ)V"⟩, 20), (⟨"PropertyStoreModel", "count", "(I)I"⟩, 20), (⟨"PropertyStoreModel", "isBefore", "(II)Z"⟩, 20)]
theorem lw_r3 : ∀ q ∈ lw_privs_3, lw_okq q := List.forall_mem_cons.mpr ⟨lw_p32, List.forall_mem_cons.mpr ⟨lw_p33, List.forall_mem_cons.mpr ⟨lw_p34, List.forall_mem_cons.mpr ⟨lw_p35, List.forall_mem_cons.mpr ⟨lw_p36, List.forall_mem_cons.mpr ⟨lw_p37, List.forall_mem_cons.mpr ⟨lw_p38, List.forall_mem_cons.mpr ⟨lw_p39, List.forall_mem_cons.mpr ⟨lw_p40, List.forall_mem_cons.mpr ⟨lw_p41, List.forall_mem_cons.mpr ⟨lw_p42, List.forall_mem_cons.mpr ⟨lw_p43, List.forall_mem_cons.mpr ⟨lw_p44, List.forall_mem_cons.mpr ⟨lw_p45, List.forall_mem_cons.mpr ⟨lw_p46, List.forall_mem_cons.mpr ⟨lw_p47, fun _ h => absurd h List.not_mem_nil⟩⟩⟩⟩⟩⟩⟩⟩⟩⟩⟩⟩⟩⟩⟩⟩
def lw_privs : List (MethodName × Nat) := lw_privs_1 ++ (lw_privs_2 ++ (lw_privs_3))
def lw_tbl : List Cond := k2_sels lw_privs ++ tables_1
theorem lw_privs_ok : ∀ q ∈ lw_privs, lw_okq q := by
  show ∀ q ∈ lw_privs_1 ++ (lw_privs_2 ++ (lw_privs_3)), lw_okq q
  exact List.forall_mem_append.mpr ⟨lw_r1, List.forall_mem_append.mpr ⟨lw_r2, lw_r3⟩⟩
end
section
/-! THE TABLES of the abstract machine, written by program (gen/mk_tables.py) out of the Statement's words: each method's code as a list, each class's pool as lists. -/
def zl_0_0 : List (Nat × Instr × Nat × Nat) := [(0, .aload_n 0, 1, 0), (1, .invokespecial 3, 4, 0), (4, .aload_n 0, 5, 0), (5, .new 9, 8, 0), (8, .dup, 9, 0), (9, .invokespecial 11, 12, 0), (12, .putfield 12, 15, 0), (15, .aload_n 0, 16, 0), (16, .aload_n 0, 17, 0), (17, .getfield 12, 20, 0), (20, .getfield 16, 23, 0), (23, .putfield 20, 26, 0), (26, .aload_n 0, 27, 0), (27, .new 21, 30, 0), (30, .dup, 31, 0), (31, .invokespecial 23, 34, 0), (34, .putfield 24, 37, 0), (37, .return_, 38, 0)]
def zl_0 : List (Nat × List (Nat × Instr × Nat × Nat)) := [(38, zl_0_0)]
def zl_1_0 : List (Nat × Instr × Nat × Nat) := [(0, .aload_n 0, 1, 0), (1, .invokespecial 5, 4, 0), (4, .aload_n 0, 5, 0), (5, .new 1, 8, 0), (8, .dup, 9, 0), (9, .invokespecial 11, 12, 0), (12, .putfield 12, 15, 0), (15, .return_, 16, 0)]
def zl_1 : List (Nat × List (Nat × Instr × Nat × Nat)) := [(16, zl_1_0)]
def zl_2_0 : List (Nat × Instr × Nat × Nat) := [(0, .aload_n 0, 1, 0), (1, .invokespecial 3, 4, 0), (4, .aload_n 0, 5, 0), (5, .bipush 27, 7, 0), (7, .newarray .int, 9, 0), (9, .putfield 9, 12, 0), (12, .aload_n 0, 13, 0), (13, .sipush 512, 16, 0), (16, .newarray .long, 18, 0), (18, .putfield 15, 21, 0), (21, .aload_n 0, 22, 0), (22, .bipush 64, 24, 0), (24, .putfield 19, 27, 0), (27, .aload_n 0, 28, 0), (28, .getfield 19, 31, 0), (31, .istore_n 1, 32, 0), (32, .iload_n 1, 33, 0), (33, .ifCond .le 14, 36, 47), (36, .aload_n 0, 37, 0), (37, .iload_n 1, 38, 0), (38, .invokevirtual 23, 41, 0), (41, .iinc 1 (-1), 44, 0), (44, .goto (-12), 47, 32), (47, .return_, 48, 0)]
def zl_2 : List (Nat × List (Nat × Instr × Nat × Nat)) := [(48, zl_2_0)]
def zl_3_0 : List (Nat × Instr × Nat × Nat) := [(0, .aload_n 0, 1, 0), (1, .iload_n 1, 2, 0), (2, .iconst 1, 3, 0), (3, .aload_n 0, 4, 0), (4, .getfield 37, 7, 0), (7, .i2l, 8, 0), (8, .invokevirtual 56, 11, 0), (11, .aload_n 0, 12, 0), (12, .iload_n 1, 13, 0), (13, .putfield 37, 16, 0), (16, .aload_n 0, 17, 0), (17, .dup, 18, 0), (18, .getfield 53, 21, 0), (21, .iconst 1, 22, 0), (22, .iadd, 23, 0), (23, .putfield 53, 26, 0), (26, .return_, 27, 0)]
def zl_3 : List (Nat × List (Nat × Instr × Nat × Nat)) := [(27, zl_3_0)]
def zl_4_0 : List (Nat × Instr × Nat × Nat) := [(0, .iload_n 1, 1, 0), (1, .iconst 1, 2, 0), (2, .isub, 3, 0), (3, .bipush 8, 5, 0), (5, .imul, 6, 0), (6, .iload_n 2, 7, 0), (7, .iadd, 8, 0), (8, .istore 5, 10, 0), (10, .iload 5, 12, 0), (12, .ifCond .lt 21, 15, 33), (15, .iload 5, 17, 0), (17, .aload_n 0, 18, 0), (18, .getfield 15, 21, 0), (21, .arraylength, 22, 0), (22, .if_icmp .ge 11, 25, 33), (25, .aload_n 0, 26, 0), (26, .getfield 15, 29, 0), (29, .iload 5, 31, 0), (31, .lload_n 3, 32, 0), (32, .lastore, 33, 0), (33, .return_, 34, 0)]
def zl_4 : List (Nat × List (Nat × Instr × Nat × Nat)) := [(34, zl_4_0)]
def zl_5_0 : List (Nat × Instr × Nat × Nat) := [(0, .aload_n 0, 1, 0), (1, .invokespecial 3, 4, 0), (4, .return_, 5, 0)]
def zl_5 : List (Nat × List (Nat × Instr × Nat × Nat)) := [(5, zl_5_0)]
def zl_6_0 : List (Nat × Instr × Nat × Nat) := [(0, .aload_n 0, 1, 0), (1, .getfield 77, 4, 0), (4, .ireturn, 5, 0)]
def zl_6 : List (Nat × List (Nat × Instr × Nat × Nat)) := [(5, zl_6_0)]
def zl_7_0 : List (Nat × Instr × Nat × Nat) := [(0, .aload_n 0, 1, 0), (1, .iload_n 1, 2, 0), (2, .iload_n 2, 3, 0), (3, .iload_n 3, 4, 0), (4, .invokevirtual 7, 7, 0), (7, .goto 7, 10, 14), (10, .astore 4, 12, 0), (12, .iconst 1, 13, 0), (13, .ireturn, 14, 0), (14, .iconst 0, 15, 0), (15, .ireturn, 16, 0)]
def zl_7 : List (Nat × List (Nat × Instr × Nat × Nat)) := [(16, zl_7_0)]
def zl_8_0 : List (Nat × Instr × Nat × Nat) := [(0, .iload_n 1, 1, 0), (1, .invokestatic 28, 4, 0), (4, .aload_n 0, 5, 0), (5, .getfield 12, 8, 0), (8, .aload_n 0, 9, 0), (9, .iload_n 2, 10, 0), (10, .invokevirtual 32, 13, 0), (13, .iload_n 3, 14, 0), (14, .invokevirtual 36, 17, 0), (17, .istore 4, 19, 0), (19, .iload 4, 21, 0), (21, .ifCond .ne 13, 24, 34), (24, .new 40, 27, 0), (27, .dup, 28, 0), (28, .ldc 42, 30, 0), (30, .invokespecial 44, 33, 0), (33, .athrow, 34, 0), (34, .aload_n 0, 35, 0), (35, .getfield 20, 38, 0), (38, .iload_n 1, 39, 0), (39, .iload 4, 41, 0), (41, .invokevirtual 47, 44, 0), (44, .return_, 45, 0)]
def zl_8 : List (Nat × List (Nat × Instr × Nat × Nat)) := [(45, zl_8_0)]
def zl_9_0 : List (Nat × Instr × Nat × Nat) := [(0, .iload_n 0, 1, 0), (1, .ifCond .lt 9, 4, 10), (4, .iload_n 0, 5, 0), (5, .bipush 24, 7, 0), (7, .if_icmp .lt 13, 10, 20), (10, .new 40, 13, 0), (13, .dup, 14, 0), (14, .ldc 176, 16, 0), (16, .invokespecial 44, 19, 0), (19, .athrow, 20, 0), (20, .return_, 21, 0)]
def zl_9 : List (Nat × List (Nat × Instr × Nat × Nat)) := [(21, zl_9_0)]
def zl_10_0 : List (Nat × Instr × Nat × Nat) := [(0, .iload_n 1, 1, 0), (1, .iconst (-1), 2, 0), (2, .if_icmp .ne 7, 5, 9), (5, .iconst 0, 6, 0), (6, .goto 8, 9, 14), (9, .aload_n 0, 10, 0), (10, .iload_n 1, 11, 0), (11, .invokevirtual 60, 14, 0), (14, .ireturn, 15, 0)]
def zl_10 : List (Nat × List (Nat × Instr × Nat × Nat)) := [(15, zl_10_0)]
def zl_11_0 : List (Nat × Instr × Nat × Nat) := [(0, .iload_n 1, 1, 0), (1, .invokestatic 28, 4, 0), (4, .aload_n 0, 5, 0), (5, .getfield 20, 8, 0), (8, .iload_n 1, 9, 0), (9, .invokevirtual 53, 12, 0), (12, .istore_n 2, 13, 0), (13, .iload_n 2, 14, 0), (14, .ifCond .ne 13, 17, 27), (17, .new 40, 20, 0), (20, .dup, 21, 0), (21, .ldc 178, 23, 0), (23, .invokespecial 44, 26, 0), (26, .athrow, 27, 0), (27, .iload_n 2, 28, 0), (28, .ireturn, 29, 0)]
def zl_11 : List (Nat × List (Nat × Instr × Nat × Nat)) := [(29, zl_11_0)]
def zl_12_0 : List (Nat × Instr × Nat × Nat) := [(0, .iload_n 1, 1, 0), (1, .ifCond .lt 21, 4, 22), (4, .iload_n 1, 5, 0), (5, .aload_n 0, 6, 0), (6, .getfield 9, 9, 0), (9, .arraylength, 10, 0), (10, .if_icmp .ge 12, 13, 22), (13, .aload_n 0, 14, 0), (14, .getfield 9, 17, 0), (17, .iload_n 1, 18, 0), (18, .iaload, 19, 0), (19, .goto 4, 22, 23), (22, .iconst 0, 23, 0), (23, .ireturn, 24, 0)]
def zl_12 : List (Nat × List (Nat × Instr × Nat × Nat)) := [(24, zl_12_0)]
def zl_13_0 : List (Nat × Instr × Nat × Nat) := [(0, .aload_n 0, 1, 0), (1, .getfield 12, 4, 0), (4, .invokevirtual 18, 7, 0), (7, .istore_n 3, 8, 0), (8, .aload_n 0, 9, 0), (9, .getfield 12, 12, 0), (12, .iload_n 3, 13, 0), (13, .iconst 1, 14, 0), (14, .iload_n 1, 15, 0), (15, .i2l, 16, 0), (16, .invokevirtual 22, 19, 0), (19, .aload_n 0, 20, 0), (20, .getfield 12, 23, 0), (23, .iload_n 3, 24, 0), (24, .iconst 4, 25, 0), (25, .lconst 1, 26, 0), (26, .invokevirtual 22, 29, 0), (29, .iload_n 2, 30, 0), (30, .ifCond .eq 7, 33, 37), (33, .iload_n 3, 34, 0), (34, .ifCond .ne 5, 37, 39), (37, .iload_n 3, 38, 0), (38, .ireturn, 39, 0), (39, .aload_n 0, 40, 0)]
def zl_13_1 : List (Nat × Instr × Nat × Nat) := [(40, .getfield 12, 43, 0), (43, .bipush 26, 45, 0), (45, .iload_n 3, 46, 0), (46, .invokevirtual 26, 49, 0), (49, .aload_n 0, 50, 0), (50, .getfield 12, 53, 0), (53, .invokevirtual 18, 56, 0), (56, .istore 4, 58, 0), (58, .aload_n 0, 59, 0), (59, .getfield 12, 62, 0), (62, .bipush 26, 64, 0), (64, .iconst 0, 65, 0), (65, .invokevirtual 26, 68, 0), (68, .iload 4, 70, 0), (70, .ifCond .ne 5, 73, 75), (73, .iconst 0, 74, 0), (74, .ireturn, 75, 0), (75, .aload_n 0, 76, 0), (76, .getfield 12, 79, 0), (79, .iload 4, 81, 0), (81, .iconst 4, 82, 0), (82, .ldc2_w 30, 85, 0), (85, .invokevirtual 22, 88, 0), (88, .aload_n 0, 89, 0)]
def zl_13_2 : List (Nat × Instr × Nat × Nat) := [(89, .getfield 12, 92, 0), (92, .iload 4, 94, 0), (94, .iconst 5, 95, 0), (95, .ldc2_w 32, 98, 0), (98, .invokevirtual 22, 101, 0), (101, .aload_n 0, 102, 0), (102, .iload 4, 104, 0), (104, .lconst 0, 105, 0), (105, .invokevirtual 34, 108, 0), (108, .aload_n 0, 109, 0), (109, .getfield 12, 112, 0), (112, .iload_n 3, 113, 0), (113, .iconst 2, 114, 0), (114, .iload 4, 116, 0), (116, .i2l, 117, 0), (117, .invokevirtual 22, 120, 0), (120, .aload_n 0, 121, 0), (121, .getfield 12, 124, 0), (124, .iload_n 3, 125, 0), (125, .iconst 3, 126, 0), (126, .iload 4, 128, 0), (128, .i2l, 129, 0), (129, .invokevirtual 22, 132, 0), (132, .iload_n 3, 133, 0)]
def zl_13_3 : List (Nat × Instr × Nat × Nat) := [(133, .ireturn, 134, 0)]
def zl_13 : List (Nat × List (Nat × Instr × Nat × Nat)) := [(40, zl_13_0), (89, zl_13_1), (133, zl_13_2), (134, zl_13_3)]
def zl_14_0 : List (Nat × Instr × Nat × Nat) := [(0, .aload_n 0, 1, 0), (1, .invokevirtual 33, 4, 0), (4, .ifCond .ne 10, 7, 14), (7, .aload_n 0, 8, 0), (8, .getfield 37, 11, 0), (11, .ifCond .ne 15, 14, 26), (14, .aload_n 0, 15, 0), (15, .invokevirtual 40, 18, 0), (18, .aload_n 0, 19, 0), (19, .invokevirtual 43, 22, 0), (22, .aload_n 0, 23, 0), (23, .invokevirtual 46, 26, 0), (26, .aload_n 0, 27, 0), (27, .getfield 37, 30, 0), (30, .istore_n 1, 31, 0), (31, .iload_n 1, 32, 0), (32, .ifCond .ne 5, 35, 37), (35, .iconst 0, 36, 0), (36, .ireturn, 37, 0), (37, .aload_n 0, 38, 0), (38, .aload_n 0, 39, 0), (39, .iload_n 1, 40, 0), (40, .iconst 1, 41, 0), (41, .invokevirtual 49, 44, 0)]
def zl_14_1 : List (Nat × Instr × Nat × Nat) := [(44, .l2i, 45, 0), (45, .putfield 37, 48, 0), (48, .aload_n 0, 49, 0), (49, .dup, 50, 0), (50, .getfield 53, 53, 0), (53, .iconst 1, 54, 0), (54, .isub, 55, 0), (55, .putfield 53, 58, 0), (58, .iconst 0, 59, 0), (59, .istore_n 2, 60, 0), (60, .iload_n 2, 61, 0), (61, .bipush 8, 63, 0), (63, .if_icmp .ge 16, 66, 79), (66, .aload_n 0, 67, 0), (67, .iload_n 1, 68, 0), (68, .iload_n 2, 69, 0), (69, .lconst 0, 70, 0), (70, .invokevirtual 56, 73, 0), (73, .iinc 2 1, 76, 0), (76, .goto (-16), 79, 60), (79, .iload_n 1, 80, 0), (80, .ireturn, 81, 0)]
def zl_14 : List (Nat × List (Nat × Instr × Nat × Nat)) := [(44, zl_14_0), (81, zl_14_1)]
def zl_15_0 : List (Nat × Instr × Nat × Nat) := [(0, .aload_n 0, 1, 0), (1, .getfield 27, 4, 0), (4, .ifCond .ne 5, 7, 9), (7, .iconst 0, 8, 0), (8, .ireturn, 9, 0), (9, .aload_n 0, 10, 0), (10, .dup, 11, 0), (11, .getfield 30, 14, 0), (14, .iconst 1, 15, 0), (15, .iadd, 16, 0), (16, .putfield 30, 19, 0), (19, .aload_n 0, 20, 0), (20, .getfield 30, 23, 0), (23, .aload_n 0, 24, 0), (24, .getfield 27, 27, 0), (27, .if_icmp .ge 5, 30, 32), (30, .iconst 0, 31, 0), (31, .ireturn, 32, 0), (32, .aload_n 0, 33, 0), (33, .iconst 0, 34, 0), (34, .putfield 30, 37, 0), (37, .iconst 1, 38, 0), (38, .ireturn, 39, 0)]
def zl_15 : List (Nat × List (Nat × Instr × Nat × Nat)) := [(39, zl_15_0)]
def zl_16_0 : List (Nat × Instr × Nat × Nat) := [(0, .iconst (-1), 1, 0), (1, .istore_n 1, 2, 0), (2, .iconst 0, 3, 0), (3, .istore_n 2, 4, 0), (4, .iload_n 2, 5, 0), (5, .aload_n 0, 6, 0), (6, .getfield 9, 9, 0), (9, .arraylength, 10, 0), (10, .if_icmp .ge 21, 13, 31), (13, .aload_n 0, 14, 0), (14, .aload_n 0, 15, 0), (15, .getfield 9, 18, 0), (18, .iload_n 2, 19, 0), (19, .iaload, 20, 0), (20, .iload_n 1, 21, 0), (21, .invokevirtual 60, 24, 0), (24, .istore_n 1, 25, 0), (25, .iinc 2 1, 28, 0), (28, .goto (-24), 31, 4), (31, .iconst 0, 32, 0), (32, .istore_n 2, 33, 0), (33, .iload_n 2, 34, 0), (34, .aload_n 0, 35, 0), (35, .getfield 19, 38, 0)]
def zl_16_1 : List (Nat × Instr × Nat × Nat) := [(38, .if_icmp .ge 53, 41, 91), (41, .iload_n 1, 42, 0), (42, .iconst (-1), 43, 0), (43, .if_icmp .eq 48, 46, 91), (46, .iload_n 1, 47, 0), (47, .istore_n 3, 48, 0), (48, .aload_n 0, 49, 0), (49, .iload_n 3, 50, 0), (50, .iconst 0, 51, 0), (51, .invokevirtual 49, 54, 0), (54, .l2i, 55, 0), (55, .istore_n 1, 56, 0), (56, .iconst 1, 57, 0), (57, .istore 4, 59, 0), (59, .iload 4, 61, 0), (61, .iconst 4, 62, 0), (62, .if_icmp .ge 23, 65, 85), (65, .aload_n 0, 66, 0), (66, .aload_n 0, 67, 0), (67, .iload_n 3, 68, 0), (68, .iload 4, 70, 0), (70, .invokevirtual 49, 73, 0), (73, .l2i, 74, 0), (74, .iload_n 1, 75, 0)]
def zl_16_2 : List (Nat × Instr × Nat × Nat) := [(75, .invokevirtual 60, 78, 0), (78, .istore_n 1, 79, 0), (79, .iinc 4 1, 82, 0), (82, .goto (-23), 85, 59), (85, .iinc 2 1, 88, 0), (88, .goto (-55), 91, 33), (91, .return_, 92, 0)]
def zl_16 : List (Nat × List (Nat × Instr × Nat × Nat)) := [(38, zl_16_0), (75, zl_16_1), (92, zl_16_2)]
def zl_17_0 : List (Nat × Instr × Nat × Nat) := [(0, .iload_n 1, 1, 0), (1, .ifCond .eq 14, 4, 15), (4, .aload_n 0, 5, 0), (5, .iload_n 1, 6, 0), (6, .iconst 0, 7, 0), (7, .invokevirtual 49, 10, 0), (10, .lconst 0, 11, 0), (11, .lcmp, 12, 0), (12, .ifCond .eq 5, 15, 17), (15, .iload_n 2, 16, 0), (16, .ireturn, 17, 0), (17, .aload_n 0, 18, 0), (18, .iload_n 1, 19, 0), (19, .iconst 0, 20, 0), (20, .iload_n 2, 21, 0), (21, .i2l, 22, 0), (22, .invokevirtual 56, 25, 0), (25, .iload_n 1, 26, 0), (26, .ireturn, 27, 0)]
def zl_17 : List (Nat × List (Nat × Instr × Nat × Nat)) := [(27, zl_17_0)]
def zl_18_0 : List (Nat × Instr × Nat × Nat) := [(0, .iload_n 1, 1, 0), (1, .iconst 1, 2, 0), (2, .isub, 3, 0), (3, .bipush 8, 5, 0), (5, .imul, 6, 0), (6, .iload_n 2, 7, 0), (7, .iadd, 8, 0), (8, .istore_n 3, 9, 0), (9, .iload_n 3, 10, 0), (10, .ifCond .lt 21, 13, 31), (13, .iload_n 3, 14, 0), (14, .aload_n 0, 15, 0), (15, .getfield 15, 18, 0), (18, .arraylength, 19, 0), (19, .if_icmp .ge 12, 22, 31), (22, .aload_n 0, 23, 0), (23, .getfield 15, 26, 0), (26, .iload_n 3, 27, 0), (27, .laload, 28, 0), (28, .goto 4, 31, 32), (31, .lconst 0, 32, 0), (32, .lreturn, 33, 0)]
def zl_18 : List (Nat × List (Nat × Instr × Nat × Nat)) := [(33, zl_18_0)]
def zl_19_0 : List (Nat × Instr × Nat × Nat) := [(0, .aload_n 0, 1, 0), (1, .iconst 0, 2, 0), (2, .putfield 37, 5, 0), (5, .aload_n 0, 6, 0), (6, .iconst 0, 7, 0), (7, .putfield 53, 10, 0), (10, .aload_n 0, 11, 0), (11, .getfield 19, 14, 0), (14, .istore_n 1, 15, 0), (15, .iload_n 1, 16, 0), (16, .ifCond .le 35, 19, 51), (19, .aload_n 0, 20, 0), (20, .iload_n 1, 21, 0), (21, .iconst 0, 22, 0), (22, .invokevirtual 49, 25, 0), (25, .lconst 0, 26, 0), (26, .lcmp, 27, 0), (27, .ifCond .ne 11, 30, 38), (30, .aload_n 0, 31, 0), (31, .iload_n 1, 32, 0), (32, .invokevirtual 23, 35, 0), (35, .goto 10, 38, 45), (38, .aload_n 0, 39, 0), (39, .iload_n 1, 40, 0)]
def zl_19_1 : List (Nat × Instr × Nat × Nat) := [(40, .iconst 0, 41, 0), (41, .lconst 0, 42, 0), (42, .invokevirtual 56, 45, 0), (45, .iinc 1 (-1), 48, 0), (48, .goto (-33), 51, 15), (51, .return_, 52, 0)]
def zl_19 : List (Nat × List (Nat × Instr × Nat × Nat)) := [(40, zl_19_0), (52, zl_19_1)]
def zl_20_0 : List (Nat × Instr × Nat × Nat) := [(0, .aload_n 0, 1, 0), (1, .getfield 53, 4, 0), (4, .aload_n 0, 5, 0), (5, .getfield 19, 8, 0), (8, .iconst 4, 9, 0), (9, .idiv, 10, 0), (10, .if_icmp .gt 13, 13, 23), (13, .aload_n 0, 14, 0), (14, .getfield 19, 17, 0), (17, .sipush 1024, 20, 0), (20, .if_icmp .lt 4, 23, 24), (23, .return_, 24, 0), (24, .aload_n 0, 25, 0), (25, .getfield 19, 28, 0), (28, .istore_n 1, 29, 0), (29, .aload_n 0, 30, 0), (30, .iconst 2, 31, 0), (31, .iload_n 1, 32, 0), (32, .imul, 33, 0), (33, .sipush 1024, 36, 0), (36, .invokestatic 64, 39, 0), (39, .putfield 19, 42, 0), (42, .aload_n 0, 43, 0), (43, .aload_n 0, 44, 0)]
def zl_20_1 : List (Nat × Instr × Nat × Nat) := [(44, .getfield 15, 47, 0), (47, .aload_n 0, 48, 0), (48, .getfield 19, 51, 0), (51, .bipush 8, 53, 0), (53, .imul, 54, 0), (54, .invokestatic 69, 57, 0), (57, .putfield 15, 60, 0), (60, .aload_n 0, 61, 0), (61, .getfield 19, 64, 0), (64, .istore_n 2, 65, 0), (65, .iload_n 2, 66, 0), (66, .iload_n 1, 67, 0), (67, .if_icmp .le 14, 70, 81), (70, .aload_n 0, 71, 0), (71, .iload_n 2, 72, 0), (72, .invokevirtual 23, 75, 0), (75, .iinc 2 (-1), 78, 0), (78, .goto (-13), 81, 65), (81, .return_, 82, 0)]
def zl_20 : List (Nat × List (Nat × Instr × Nat × Nat)) := [(44, zl_20_0), (82, zl_20_1)]
def zl_21_0 : List (Nat × Instr × Nat × Nat) := [(0, .iload_n 0, 1, 0), (1, .iload_n 1, 2, 0), (2, .if_icmp .gt 7, 5, 9), (5, .iload_n 0, 6, 0), (6, .goto 4, 9, 10), (9, .iload_n 1, 10, 0), (10, .ireturn, 11, 0)]
def zl_21 : List (Nat × List (Nat × Instr × Nat × Nat)) := [(11, zl_21_0)]
def zl_22_0 : List (Nat × Instr × Nat × Nat) := [(0, .iload_n 1, 1, 0), (1, .aload_n 0, 2, 0), (2, .arraylength, 3, 0), (3, .if_icmp .ne 11, 6, 14), (6, .aload_n 0, 7, 0), (7, .invokevirtual 319, 10, 0), (10, .checkcast 320, 13, 0), (13, .areturn, 14, 0), (14, .iload_n 1, 15, 0), (15, .newarray .long, 17, 0), (17, .astore_n 2, 18, 0), (18, .aload_n 0, 19, 0), (19, .iconst 0, 20, 0), (20, .aload_n 2, 21, 0), (21, .iconst 0, 22, 0), (22, .aload_n 0, 23, 0), (23, .arraylength, 24, 0), (24, .iload_n 1, 25, 0), (25, .invokestatic 304, 28, 0), (28, .invokestatic 150, 31, 0), (31, .aload_n 2, 32, 0), (32, .areturn, 33, 0)]
def zl_22 : List (Nat × List (Nat × Instr × Nat × Nat)) := [(33, zl_22_0)]
def zl_23_0 : List (Nat × Instr × Nat × Nat) := [(0, .iload_n 1, 1, 0), (1, .ifCond .lt 19, 4, 20), (4, .iload_n 1, 5, 0), (5, .aload_n 0, 6, 0), (6, .getfield 9, 9, 0), (9, .arraylength, 10, 0), (10, .if_icmp .ge 10, 13, 20), (13, .aload_n 0, 14, 0), (14, .getfield 9, 17, 0), (17, .iload_n 1, 18, 0), (18, .iload_n 2, 19, 0), (19, .iastore, 20, 0), (20, .return_, 21, 0)]
def zl_23 : List (Nat × List (Nat × Instr × Nat × Nat)) := [(21, zl_23_0)]
def zl_24_0 : List (Nat × Instr × Nat × Nat) := [(0, .aload_n 0, 1, 0), (1, .iload_n 1, 2, 0), (2, .iconst 4, 3, 0), (3, .lload_n 2, 4, 0), (4, .invokestatic 170, 7, 0), (7, .iconst 0, 8, 0), (8, .invokevirtual 160, 11, 0), (11, .return_, 12, 0)]
def zl_24 : List (Nat × List (Nat × Instr × Nat × Nat)) := [(12, zl_24_0)]
def zl_25_0 : List (Nat × Instr × Nat × Nat) := [(0, .lload_n 0, 1, 0), (1, .lconst 0, 2, 0), (2, .lcmp, 3, 0), (3, .ifCond .gt 5, 6, 8), (6, .lconst 0, 7, 0), (7, .lreturn, 8, 0), (8, .bipush 63, 10, 0), (10, .lload_n 0, 11, 0), (11, .invokestatic 27, 14, 0), (14, .isub, 15, 0), (15, .istore_n 2, 16, 0), (16, .sipush 1023, 19, 0), (19, .iload_n 2, 20, 0), (20, .iadd, 21, 0), (21, .i2l, 22, 0), (22, .bipush 52, 24, 0), (24, .lshl, 25, 0), (25, .lstore_n 3, 26, 0), (26, .lload_n 3, 27, 0), (27, .lload_n 0, 28, 0), (28, .bipush 52, 30, 0), (30, .iload_n 2, 31, 0), (31, .isub, 32, 0), (32, .lshl, 33, 0)]
def zl_25_1 : List (Nat × Instr × Nat × Nat) := [(33, .ldc2_w 13, 36, 0), (36, .land, 37, 0), (37, .lor, 38, 0), (38, .lreturn, 39, 0)]
def zl_25 : List (Nat × List (Nat × Instr × Nat × Nat)) := [(33, zl_25_0), (39, zl_25_1)]
def zl_26_0 : List (Nat × Instr × Nat × Nat) := [(0, .lload_n 0, 1, 0), (1, .bipush 32, 3, 0), (3, .lushr, 4, 0), (4, .l2i, 5, 0), (5, .istore_n 2, 6, 0), (6, .iload_n 2, 7, 0), (7, .ifCond .ne 14, 10, 21), (10, .bipush 32, 12, 0), (12, .lload_n 0, 13, 0), (13, .l2i, 14, 0), (14, .invokestatic 308, 17, 0), (17, .iadd, 18, 0), (18, .goto 7, 21, 25), (21, .iload_n 2, 22, 0), (22, .invokestatic 308, 25, 0), (25, .ireturn, 26, 0)]
def zl_26 : List (Nat × List (Nat × Instr × Nat × Nat)) := [(26, zl_26_0)]
def zl_27_0 : List (Nat × Instr × Nat × Nat) := [(0, .iload_n 0, 1, 0), (1, .ifCond .gt 14, 4, 15), (4, .iload_n 0, 5, 0), (5, .ifCond .ne 8, 8, 13), (8, .bipush 32, 10, 0), (10, .goto 4, 13, 14), (13, .iconst 0, 14, 0), (14, .ireturn, 15, 0), (15, .bipush 31, 17, 0), (17, .istore_n 1, 18, 0), (18, .iload_n 0, 19, 0), (19, .ldc_w 264, 22, 0), (22, .if_icmp .lt 11, 25, 33), (25, .iinc 1 (-16), 28, 0), (28, .iload_n 0, 29, 0), (29, .bipush 16, 31, 0), (31, .iushr, 32, 0), (32, .istore_n 0, 33, 0), (33, .iload_n 0, 34, 0), (34, .sipush 256, 37, 0), (37, .if_icmp .lt 11, 40, 48), (40, .iinc 1 (-8), 43, 0), (43, .iload_n 0, 44, 0), (44, .bipush 8, 46, 0)]
def zl_27_1 : List (Nat × Instr × Nat × Nat) := [(46, .iushr, 47, 0), (47, .istore_n 0, 48, 0), (48, .iload_n 0, 49, 0), (49, .bipush 16, 51, 0), (51, .if_icmp .lt 10, 54, 61), (54, .iinc 1 (-4), 57, 0), (57, .iload_n 0, 58, 0), (58, .iconst 4, 59, 0), (59, .iushr, 60, 0), (60, .istore_n 0, 61, 0), (61, .iload_n 0, 62, 0), (62, .iconst 4, 63, 0), (63, .if_icmp .lt 10, 66, 73), (66, .iinc 1 (-2), 69, 0), (69, .iload_n 0, 70, 0), (70, .iconst 2, 71, 0), (71, .iushr, 72, 0), (72, .istore_n 0, 73, 0), (73, .iload_n 1, 74, 0), (74, .iload_n 0, 75, 0), (75, .iconst 1, 76, 0), (76, .iushr, 77, 0), (77, .isub, 78, 0), (78, .ireturn, 79, 0)]
def zl_27 : List (Nat × List (Nat × Instr × Nat × Nat)) := [(46, zl_27_0), (79, zl_27_1)]
def zl_28_0 : List (Nat × Instr × Nat × Nat) := [(0, .aload_n 0, 1, 0), (1, .getfield 12, 4, 0), (4, .iload_n 1, 5, 0), (5, .bipush 6, 7, 0), (7, .iload_n 2, 8, 0), (8, .i2l, 9, 0), (9, .invokevirtual 22, 12, 0), (12, .aload_n 0, 13, 0), (13, .getfield 12, 16, 0), (16, .iload_n 1, 17, 0), (17, .bipush 7, 19, 0), (19, .lload_n 3, 20, 0), (20, .invokevirtual 22, 23, 0), (23, .aload_n 0, 24, 0), (24, .getfield 12, 27, 0), (27, .iload_n 1, 28, 0), (28, .iconst 2, 29, 0), (29, .iload 5, 31, 0), (31, .i2l, 32, 0), (32, .invokevirtual 22, 35, 0), (35, .return_, 36, 0)]
def zl_28 : List (Nat × List (Nat × Instr × Nat × Nat)) := [(36, zl_28_0)]
def zl_29_0 : List (Nat × Instr × Nat × Nat) := [(0, .aload_n 0, 1, 0), (1, .iload_n 1, 2, 0), (2, .iload_n 2, 3, 0), (3, .invokevirtual 15, 6, 0), (6, .goto 6, 9, 12), (9, .astore_n 3, 10, 0), (10, .iconst 1, 11, 0), (11, .ireturn, 12, 0), (12, .iconst 0, 13, 0), (13, .ireturn, 14, 0)]
def zl_29 : List (Nat × List (Nat × Instr × Nat × Nat)) := [(14, zl_29_0)]
def zl_30_0 : List (Nat × Instr × Nat × Nat) := [(0, .iload_n 1, 1, 0), (1, .invokestatic 28, 4, 0), (4, .iload_n 2, 5, 0), (5, .iconst (-1), 6, 0), (6, .if_icmp .eq 7, 9, 13), (9, .iload_n 2, 10, 0), (10, .invokestatic 28, 13, 0), (13, .aload_n 0, 14, 0), (14, .getfield 20, 17, 0), (17, .iload_n 1, 18, 0), (18, .iload_n 2, 19, 0), (19, .iconst (-1), 20, 0), (20, .if_icmp .ne 7, 23, 27), (23, .iconst 0, 24, 0), (24, .goto 11, 27, 35), (27, .aload_n 0, 28, 0), (28, .getfield 20, 31, 0), (31, .iload_n 2, 32, 0), (32, .invokevirtual 53, 35, 0), (35, .invokevirtual 47, 38, 0), (38, .return_, 39, 0)]
def zl_30 : List (Nat × List (Nat × Instr × Nat × Nat)) := [(39, zl_30_0)]
def zl_31_0 : List (Nat × Instr × Nat × Nat) := [(0, .aload_n 3, 1, 0), (1, .iconst 0, 2, 0), (2, .aload_n 0, 3, 0), (3, .iload_n 1, 4, 0), (4, .iload_n 2, 5, 0), (5, .invokevirtual 19, 8, 0), (8, .ifCond .eq 7, 11, 15), (11, .lconst 1, 12, 0), (12, .goto 4, 15, 16), (15, .lconst 0, 16, 0), (16, .lastore, 17, 0), (17, .goto 7, 20, 24), (20, .astore 4, 22, 0), (22, .iconst 1, 23, 0), (23, .ireturn, 24, 0), (24, .iconst 0, 25, 0), (25, .ireturn, 26, 0)]
def zl_31 : List (Nat × List (Nat × Instr × Nat × Nat)) := [(26, zl_31_0)]
def zl_32_0 : List (Nat × Instr × Nat × Nat) := [(0, .iload_n 1, 1, 0), (1, .invokestatic 28, 4, 0), (4, .iload_n 2, 5, 0), (5, .invokestatic 28, 8, 0), (8, .aload_n 0, 9, 0), (9, .getfield 20, 12, 0), (12, .iload_n 1, 13, 0), (13, .invokevirtual 53, 16, 0), (16, .aload_n 0, 17, 0), (17, .getfield 20, 20, 0), (20, .iload_n 2, 21, 0), (21, .invokevirtual 53, 24, 0), (24, .if_icmp .ne 7, 27, 31), (27, .iconst 1, 28, 0), (28, .goto 4, 31, 32), (31, .iconst 0, 32, 0), (32, .ireturn, 33, 0)]
def zl_32 : List (Nat × List (Nat × Instr × Nat × Nat)) := [(33, zl_32_0)]
def zl_33_0 : List (Nat × Instr × Nat × Nat) := [(0, .aload_n 0, 1, 0), (1, .iload_n 1, 2, 0), (2, .lload_n 2, 3, 0), (3, .invokevirtual 23, 6, 0), (6, .goto 7, 9, 13), (9, .astore 4, 11, 0), (11, .iconst 1, 12, 0), (12, .ireturn, 13, 0), (13, .iconst 0, 14, 0), (14, .ireturn, 15, 0)]
def zl_33 : List (Nat × List (Nat × Instr × Nat × Nat)) := [(15, zl_33_0)]
def zl_34_0 : List (Nat × Instr × Nat × Nat) := [(0, .iload_n 1, 1, 0), (1, .ifCond .lt 8, 4, 9), (4, .iload_n 1, 5, 0), (5, .iconst 5, 6, 0), (6, .if_icmp .le 13, 9, 19), (9, .new 40, 12, 0), (12, .dup, 13, 0), (13, .ldc 56, 15, 0), (15, .invokespecial 44, 18, 0), (18, .athrow, 19, 0), (19, .iconst 0, 20, 0), (20, .istore 4, 22, 0), (22, .iload_n 1, 23, 0), (23, .iconst 5, 24, 0), (24, .if_icmp .ne 29, 27, 53), (27, .aload_n 0, 28, 0), (28, .lload_n 2, 29, 0), (29, .lconst 0, 30, 0), (30, .lcmp, 31, 0), (31, .ifCond .lt 16, 34, 47), (34, .lload_n 2, 35, 0), (35, .ldc2_w 58, 38, 0), (38, .lcmp, 39, 0), (39, .ifCond .ge 8, 42, 47)]
def zl_34_1 : List (Nat × Instr × Nat × Nat) := [(42, .lload_n 2, 43, 0), (43, .l2i, 44, 0), (44, .goto 4, 47, 48), (47, .iconst (-1), 48, 0), (48, .invokevirtual 60, 51, 0), (51, .istore 4, 53, 0), (53, .aload_n 0, 54, 0), (54, .iload_n 1, 55, 0), (55, .putfield 63, 58, 0), (58, .aload_n 0, 59, 0), (59, .iload_n 1, 60, 0), (60, .iconst 4, 61, 0), (61, .if_icmp .ne 10, 64, 71), (64, .lload_n 2, 65, 0), (65, .invokestatic 67, 68, 0), (68, .goto 4, 71, 72), (71, .lconst 0, 72, 0), (72, .putfield 73, 75, 0), (75, .aload_n 0, 76, 0), (76, .getfield 20, 79, 0), (79, .bipush 24, 81, 0), (81, .iload 4, 83, 0), (83, .invokevirtual 47, 86, 0), (86, .return_, 87, 0)]
def zl_34 : List (Nat × List (Nat × Instr × Nat × Nat)) := [(42, zl_34_0), (87, zl_34_1)]
def zl_35_0 : List (Nat × Instr × Nat × Nat) := [(0, .lload_n 0, 1, 0), (1, .ldc2_w 11, 4, 0), (4, .land, 5, 0), (5, .ldc2_w 11, 8, 0), (8, .lcmp, 9, 0), (9, .ifCond .ne 17, 12, 26), (12, .lload_n 0, 13, 0), (13, .ldc2_w 13, 16, 0), (16, .land, 17, 0), (17, .lconst 0, 18, 0), (18, .lcmp, 19, 0), (19, .ifCond .eq 7, 22, 26), (22, .iconst 1, 23, 0), (23, .goto 4, 26, 27), (26, .iconst 0, 27, 0), (27, .istore_n 2, 28, 0), (28, .iload_n 2, 29, 0), (29, .ifCond .eq 9, 32, 38), (32, .ldc2_w 15, 35, 0), (35, .goto 4, 38, 39), (38, .lload_n 0, 39, 0), (39, .lreturn, 40, 0)]
def zl_35 : List (Nat × List (Nat × Instr × Nat × Nat)) := [(40, zl_35_0)]
def zl_36_0 : List (Nat × Instr × Nat × Nat) := [(0, .aload_n 1, 1, 0), (1, .iconst 0, 2, 0), (2, .aload_n 0, 3, 0), (3, .invokevirtual 27, 6, 0), (6, .lastore, 7, 0), (7, .goto 6, 10, 13), (10, .astore_n 2, 11, 0), (11, .iconst 1, 12, 0), (12, .ireturn, 13, 0), (13, .iconst 0, 14, 0), (14, .ireturn, 15, 0)]
def zl_36 : List (Nat × List (Nat × Instr × Nat × Nat)) := [(15, zl_36_0)]
def zl_37_0 : List (Nat × Instr × Nat × Nat) := [(0, .aload_n 0, 1, 0), (1, .getfield 77, 4, 0), (4, .iconst 4, 5, 0), (5, .if_icmp .eq 13, 8, 18), (8, .new 80, 11, 0), (11, .dup, 12, 0), (12, .ldc 82, 14, 0), (14, .invokespecial 84, 17, 0), (17, .athrow, 18, 0), (18, .aload_n 0, 19, 0), (19, .getfield 85, 22, 0), (22, .lreturn, 23, 0)]
def zl_37 : List (Nat × List (Nat × Instr × Nat × Nat)) := [(23, zl_37_0)]
def zl_38_0 : List (Nat × Instr × Nat × Nat) := [(0, .aload_n 0, 1, 0), (1, .iload_n 1, 2, 0), (2, .invokevirtual 33, 5, 0), (5, .goto 9, 8, 14), (8, .astore_n 2, 9, 0), (9, .iconst 1, 10, 0), (10, .ireturn, 11, 0), (11, .astore_n 2, 12, 0), (12, .iconst 2, 13, 0), (13, .ireturn, 14, 0), (14, .iconst 0, 15, 0), (15, .ireturn, 16, 0)]
def zl_38 : List (Nat × List (Nat × Instr × Nat × Nat)) := [(16, zl_38_0)]
def zl_39_0 : List (Nat × Instr × Nat × Nat) := [(0, .iload_n 1, 1, 0), (1, .invokestatic 28, 4, 0), (4, .aload_n 0, 5, 0), (5, .getfield 77, 8, 0), (8, .iconst 5, 9, 0), (9, .if_icmp .eq 13, 12, 22), (12, .new 80, 15, 0), (15, .dup, 16, 0), (16, .ldc 88, 18, 0), (18, .invokespecial 84, 21, 0), (21, .athrow, 22, 0), (22, .aload_n 0, 23, 0), (23, .getfield 20, 26, 0), (26, .iload_n 1, 27, 0), (27, .aload_n 0, 28, 0), (28, .getfield 20, 31, 0), (31, .bipush 25, 33, 0), (33, .invokevirtual 53, 36, 0), (36, .invokevirtual 47, 39, 0), (39, .return_, 40, 0)]
def zl_39 : List (Nat × List (Nat × Instr × Nat × Nat)) := [(40, zl_39_0)]
def zl_40_0 : List (Nat × Instr × Nat × Nat) := [(0, .aload 4, 2, 0), (2, .iconst 0, 3, 0), (3, .aload_n 0, 4, 0), (4, .iload_n 1, 5, 0), (5, .lload_n 2, 6, 0), (6, .invokevirtual 37, 9, 0), (9, .i2l, 10, 0), (10, .lastore, 11, 0), (11, .goto 7, 14, 18), (14, .astore 5, 16, 0), (16, .iconst 1, 17, 0), (17, .ireturn, 18, 0), (18, .iconst 0, 19, 0), (19, .ireturn, 20, 0)]
def zl_40 : List (Nat × List (Nat × Instr × Nat × Nat)) := [(20, zl_40_0)]
def zl_41_0 : List (Nat × Instr × Nat × Nat) := [(0, .aload_n 0, 1, 0), (1, .iload_n 1, 2, 0), (2, .lload_n 2, 3, 0), (3, .invokevirtual 90, 6, 0), (6, .istore 4, 8, 0), (8, .aload_n 0, 9, 0), (9, .getfield 12, 12, 0), (12, .iload 4, 14, 0), (14, .lload_n 2, 15, 0), (15, .invokevirtual 94, 18, 0), (18, .istore 5, 20, 0), (20, .aload_n 0, 21, 0), (21, .iload 5, 23, 0), (23, .invokevirtual 97, 26, 0), (26, .aload_n 0, 27, 0), (27, .getfield 12, 30, 0), (30, .iload 5, 32, 0), (32, .invokevirtual 100, 35, 0), (35, .ifCond .eq 15, 38, 50), (38, .aload_n 0, 39, 0), (39, .getfield 77, 42, 0), (42, .iconst 5, 43, 0), (43, .if_icmp .ne 7, 46, 50), (46, .iconst 1, 47, 0)]
def zl_41_1 : List (Nat × Instr × Nat × Nat) := [(47, .goto 4, 50, 51), (50, .iconst 0, 51, 0), (51, .ireturn, 52, 0)]
def zl_41 : List (Nat × List (Nat × Instr × Nat × Nat)) := [(47, zl_41_0), (52, zl_41_1)]
def zl_42_0 : List (Nat × Instr × Nat × Nat) := [(0, .aload_n 0, 1, 0), (1, .iload_n 1, 2, 0), (2, .invokevirtual 60, 5, 0), (5, .istore 4, 7, 0), (7, .lload_n 2, 8, 0), (8, .ldc2_w 180, 11, 0), (11, .lcmp, 12, 0), (12, .ifCond .lt 11, 15, 23), (15, .lload_n 2, 16, 0), (16, .ldc2_w 182, 19, 0), (19, .lcmp, 20, 0), (20, .ifCond .le 13, 23, 33), (23, .new 40, 26, 0), (26, .dup, 27, 0), (27, .ldc 184, 29, 0), (29, .invokespecial 44, 32, 0), (32, .athrow, 33, 0), (33, .iload 4, 35, 0), (35, .ireturn, 36, 0)]
def zl_42 : List (Nat × List (Nat × Instr × Nat × Nat)) := [(36, zl_42_0)]
def zl_43_0 : List (Nat × Instr × Nat × Nat) := [(0, .iload_n 1, 1, 0), (1, .istore 4, 3, 0), (3, .iconst 0, 4, 0), (4, .istore 5, 6, 0), (6, .iload 5, 8, 0), (8, .sipush 1024, 11, 0), (11, .if_icmp .ge 39, 14, 50), (14, .iload 4, 16, 0), (16, .ifCond .eq 34, 19, 50), (19, .aload_n 0, 20, 0), (20, .iload 4, 22, 0), (22, .lload_n 2, 23, 0), (23, .invokevirtual 55, 26, 0), (26, .istore 6, 28, 0), (28, .iload 6, 30, 0), (30, .ifCond .eq 6, 33, 36), (33, .iload 6, 35, 0), (35, .ireturn, 36, 0), (36, .aload_n 0, 37, 0), (37, .iload 4, 39, 0), (39, .invokevirtual 59, 42, 0), (42, .istore 4, 44, 0), (44, .iinc 5 1, 47, 0), (47, .goto (-41), 50, 6)]
def zl_43_1 : List (Nat × Instr × Nat × Nat) := [(50, .iconst 0, 51, 0), (51, .ireturn, 52, 0)]
def zl_43 : List (Nat × List (Nat × Instr × Nat × Nat)) := [(50, zl_43_0), (52, zl_43_1)]
def zl_44_0 : List (Nat × Instr × Nat × Nat) := [(0, .aload_n 0, 1, 0), (1, .iload_n 1, 2, 0), (2, .invokevirtual 44, 5, 0), (5, .istore 4, 7, 0), (7, .iconst 0, 8, 0), (8, .istore 5, 10, 0), (10, .iload 5, 12, 0), (12, .sipush 1024, 15, 0), (15, .if_icmp .ge 36, 18, 51), (18, .iload 4, 20, 0), (20, .ifCond .eq 31, 23, 51), (23, .aload_n 0, 24, 0), (24, .iload 4, 26, 0), (26, .invokevirtual 48, 29, 0), (29, .lload_n 2, 30, 0), (30, .lcmp, 31, 0), (31, .ifCond .ne 6, 34, 37), (34, .iload 4, 36, 0), (36, .ireturn, 37, 0), (37, .aload_n 0, 38, 0), (38, .iload 4, 40, 0), (40, .invokevirtual 52, 43, 0), (43, .istore 4, 45, 0), (45, .iinc 5 1, 48, 0)]
def zl_44_1 : List (Nat × Instr × Nat × Nat) := [(48, .goto (-38), 51, 10), (51, .iconst 0, 52, 0), (52, .ireturn, 53, 0)]
def zl_44 : List (Nat × List (Nat × Instr × Nat × Nat)) := [(48, zl_44_0), (53, zl_44_1)]
def zl_45_0 : List (Nat × Instr × Nat × Nat) := [(0, .aload_n 0, 1, 0), (1, .getfield 12, 4, 0), (4, .iload_n 1, 5, 0), (5, .iconst 2, 6, 0), (6, .invokevirtual 38, 9, 0), (9, .l2i, 10, 0), (10, .ireturn, 11, 0)]
def zl_45 : List (Nat × List (Nat × Instr × Nat × Nat)) := [(11, zl_45_0)]
def zl_46_0 : List (Nat × Instr × Nat × Nat) := [(0, .aload_n 0, 1, 0), (1, .getfield 12, 4, 0), (4, .iload_n 1, 5, 0), (5, .iconst 4, 6, 0), (6, .invokevirtual 38, 9, 0), (9, .lreturn, 10, 0)]
def zl_46 : List (Nat × List (Nat × Instr × Nat × Nat)) := [(10, zl_46_0)]
def zl_47_0 : List (Nat × Instr × Nat × Nat) := [(0, .aload_n 0, 1, 0), (1, .getfield 12, 4, 0), (4, .iload_n 1, 5, 0), (5, .iconst 1, 6, 0), (6, .invokevirtual 38, 9, 0), (9, .l2i, 10, 0), (10, .ireturn, 11, 0)]
def zl_47 : List (Nat × List (Nat × Instr × Nat × Nat)) := [(11, zl_47_0)]
def zl_48_0 : List (Nat × Instr × Nat × Nat) := [(0, .aload_n 0, 1, 0), (1, .getfield 12, 4, 0), (4, .iload_n 1, 5, 0), (5, .iconst 1, 6, 0), (6, .invokevirtual 38, 9, 0), (9, .l2i, 10, 0), (10, .ireturn, 11, 0)]
def zl_48 : List (Nat × List (Nat × Instr × Nat × Nat)) := [(11, zl_48_0)]
def zl_49_0 : List (Nat × Instr × Nat × Nat) := [(0, .aload_n 0, 1, 0), (1, .aload_n 0, 2, 0), (2, .getfield 12, 5, 0), (5, .iload_n 1, 6, 0), (6, .invokevirtual 188, 9, 0), (9, .putfield 77, 12, 0), (12, .aload_n 0, 13, 0), (13, .aload_n 0, 14, 0), (14, .getfield 12, 17, 0), (17, .iload_n 1, 18, 0), (18, .invokevirtual 191, 21, 0), (21, .putfield 85, 24, 0), (24, .aload_n 0, 25, 0), (25, .getfield 20, 28, 0), (28, .bipush 25, 30, 0), (30, .aload_n 0, 31, 0), (31, .getfield 12, 34, 0), (34, .iload_n 1, 35, 0), (35, .invokevirtual 194, 38, 0), (38, .invokevirtual 47, 41, 0), (41, .return_, 42, 0)]
def zl_49 : List (Nat × List (Nat × Instr × Nat × Nat)) := [(42, zl_49_0)]
def zl_50_0 : List (Nat × Instr × Nat × Nat) := [(0, .aload_n 0, 1, 0), (1, .getfield 12, 4, 0), (4, .iload_n 1, 5, 0), (5, .bipush 6, 7, 0), (7, .invokevirtual 38, 10, 0), (10, .l2i, 11, 0), (11, .ireturn, 12, 0)]
def zl_50 : List (Nat × List (Nat × Instr × Nat × Nat)) := [(12, zl_50_0)]
def zl_51_0 : List (Nat × Instr × Nat × Nat) := [(0, .aload_n 0, 1, 0), (1, .getfield 12, 4, 0), (4, .iload_n 1, 5, 0), (5, .bipush 7, 7, 0), (7, .invokevirtual 38, 10, 0), (10, .lreturn, 11, 0)]
def zl_51 : List (Nat × List (Nat × Instr × Nat × Nat)) := [(11, zl_51_0)]
def zl_52_0 : List (Nat × Instr × Nat × Nat) := [(0, .aload_n 0, 1, 0), (1, .getfield 12, 4, 0), (4, .iload_n 1, 5, 0), (5, .iconst 2, 6, 0), (6, .invokevirtual 38, 9, 0), (9, .l2i, 10, 0), (10, .ireturn, 11, 0)]
def zl_52 : List (Nat × List (Nat × Instr × Nat × Nat)) := [(11, zl_52_0)]
def zl_53_0 : List (Nat × Instr × Nat × Nat) := [(0, .aload_n 0, 1, 0), (1, .getfield 12, 4, 0), (4, .iload_n 1, 5, 0), (5, .iconst 5, 6, 0), (6, .invokevirtual 38, 9, 0), (9, .ldc2_w 42, 12, 0), (12, .land, 13, 0), (13, .lconst 0, 14, 0), (14, .lcmp, 15, 0), (15, .ifCond .eq 7, 18, 22), (18, .iconst 1, 19, 0), (19, .goto 4, 22, 23), (22, .iconst 0, 23, 0), (23, .ireturn, 24, 0)]
def zl_53 : List (Nat × List (Nat × Instr × Nat × Nat)) := [(24, zl_53_0)]
def zl_54_0 : List (Nat × Instr × Nat × Nat) := [(0, .aload 4, 2, 0), (2, .iconst 0, 3, 0), (3, .aload_n 0, 4, 0), (4, .iload_n 1, 5, 0), (5, .lload_n 2, 6, 0), (6, .invokevirtual 41, 9, 0), (9, .i2l, 10, 0), (10, .lastore, 11, 0), (11, .goto 7, 14, 18), (14, .astore 5, 16, 0), (16, .iconst 1, 17, 0), (17, .ireturn, 18, 0), (18, .iconst 0, 19, 0), (19, .ireturn, 20, 0)]
def zl_54 : List (Nat × List (Nat × Instr × Nat × Nat)) := [(20, zl_54_0)]
def zl_55_0 : List (Nat × Instr × Nat × Nat) := [(0, .aload_n 0, 1, 0), (1, .iload_n 1, 2, 0), (2, .lload_n 2, 3, 0), (3, .invokevirtual 90, 6, 0), (6, .istore 4, 8, 0), (8, .aload_n 0, 9, 0), (9, .getfield 12, 12, 0), (12, .iload 4, 14, 0), (14, .lload_n 2, 15, 0), (15, .invokevirtual 94, 18, 0), (18, .istore 5, 20, 0), (20, .aload_n 0, 21, 0), (21, .getfield 12, 24, 0), (24, .iload 5, 26, 0), (26, .invokevirtual 100, 29, 0), (29, .ifCond .eq 30, 32, 59), (32, .aload_n 0, 33, 0), (33, .aload_n 0, 34, 0), (34, .getfield 12, 37, 0), (37, .iload 5, 39, 0), (39, .invokevirtual 104, 42, 0), (42, .invokevirtual 107, 45, 0), (45, .aload_n 0, 46, 0), (46, .getfield 77, 49, 0)]
def zl_55_1 : List (Nat × Instr × Nat × Nat) := [(49, .iconst 5, 50, 0), (50, .if_icmp .ne 7, 53, 57), (53, .iconst 1, 54, 0), (54, .goto 4, 57, 58), (57, .iconst 2, 58, 0), (58, .ireturn, 59, 0), (59, .aload_n 0, 60, 0), (60, .getfield 12, 63, 0), (63, .iload 4, 65, 0), (65, .lload_n 2, 66, 0), (66, .invokevirtual 110, 69, 0), (69, .ifCond .eq 7, 72, 76), (72, .iconst 1, 73, 0), (73, .goto 4, 76, 77), (76, .iconst 0, 77, 0), (77, .istore 6, 79, 0), (79, .iload 5, 81, 0), (81, .ifCond .eq 16, 84, 97), (84, .aload_n 0, 85, 0), (85, .getfield 12, 88, 0), (88, .iload 5, 90, 0), (90, .iconst 2, 91, 0), (91, .invokevirtual 113, 94, 0), (94, .ifCond .eq 7, 97, 101)]
def zl_55_2 : List (Nat × Instr × Nat × Nat) := [(97, .iconst 1, 98, 0), (98, .goto 4, 101, 102), (101, .iconst 0, 102, 0), (102, .istore 7, 104, 0), (104, .iconst 2, 105, 0), (105, .istore 8, 107, 0), (107, .iload 7, 109, 0), (109, .ifCond .eq 80, 112, 189), (112, .iload 6, 114, 0), (114, .ifCond .ne 15, 117, 129), (117, .aload_n 0, 118, 0), (118, .getfield 12, 121, 0), (121, .iload 4, 123, 0), (123, .invokevirtual 117, 126, 0), (126, .ifCond .eq 63, 129, 189), (129, .aload_n 0, 130, 0), (130, .getfield 24, 133, 0), (133, .iload 6, 135, 0), (135, .ifCond .eq 7, 138, 142), (138, .iconst 1, 139, 0), (139, .goto 5, 142, 144), (142, .bipush 51, 144, 0), (144, .bipush 50, 146, 0), (146, .invokevirtual 120, 149, 0)]
def zl_55_3 : List (Nat × Instr × Nat × Nat) := [(149, .aload_n 0, 150, 0), (150, .getfield 24, 153, 0), (153, .aload_n 0, 154, 0), (154, .getfield 63, 157, 0), (157, .aload_n 0, 158, 0), (158, .getfield 73, 161, 0), (161, .aload_n 0, 162, 0), (162, .getfield 20, 165, 0), (165, .bipush 24, 167, 0), (167, .invokevirtual 53, 170, 0), (170, .invokevirtual 123, 173, 0), (173, .aload_n 0, 174, 0), (174, .getfield 12, 177, 0), (177, .iload 4, 179, 0), (179, .lload_n 2, 180, 0), (180, .aload_n 0, 181, 0), (181, .getfield 24, 184, 0), (184, .invokevirtual 127, 187, 0), (187, .istore 8, 189, 0), (189, .aload_n 0, 190, 0), (190, .iconst 0, 191, 0), (191, .invokevirtual 107, 194, 0), (194, .iload 8, 196, 0), (196, .ireturn, 197, 0)]
def zl_55 : List (Nat × List (Nat × Instr × Nat × Nat)) := [(49, zl_55_0), (97, zl_55_1), (149, zl_55_2), (197, zl_55_3)]
def zl_56_0 : List (Nat × Instr × Nat × Nat) := [(0, .aload_n 0, 1, 0), (1, .getfield 12, 4, 0), (4, .iload_n 1, 5, 0), (5, .iconst 3, 6, 0), (6, .invokevirtual 38, 9, 0), (9, .l2i, 10, 0), (10, .ireturn, 11, 0)]
def zl_56 : List (Nat × List (Nat × Instr × Nat × Nat)) := [(11, zl_56_0)]
def zl_57_0 : List (Nat × Instr × Nat × Nat) := [(0, .aload_n 0, 1, 0), (1, .iload_n 1, 2, 0), (2, .ifCond .ne 7, 5, 9), (5, .iconst 0, 6, 0), (6, .goto 4, 9, 10), (9, .iconst 5, 10, 0), (10, .putfield 77, 13, 0), (13, .aload_n 0, 14, 0), (14, .lconst 0, 15, 0), (15, .putfield 85, 18, 0), (18, .aload_n 0, 19, 0), (19, .getfield 20, 22, 0), (22, .bipush 25, 24, 0), (24, .iload_n 1, 25, 0), (25, .invokevirtual 47, 28, 0), (28, .return_, 29, 0)]
def zl_57 : List (Nat × List (Nat × Instr × Nat × Nat)) := [(29, zl_57_0)]
def zl_58_0 : List (Nat × Instr × Nat × Nat) := [(0, .aload_n 0, 1, 0), (1, .getfield 12, 4, 0), (4, .iload_n 1, 5, 0), (5, .iconst 5, 6, 0), (6, .invokevirtual 38, 9, 0), (9, .iload_n 2, 10, 0), (10, .i2l, 11, 0), (11, .land, 12, 0), (12, .lconst 0, 13, 0), (13, .lcmp, 14, 0), (14, .ifCond .eq 7, 17, 21), (17, .iconst 1, 18, 0), (18, .goto 4, 21, 22), (21, .iconst 0, 22, 0), (22, .ireturn, 23, 0)]
def zl_58 : List (Nat × List (Nat × Instr × Nat × Nat)) := [(23, zl_58_0)]
def zl_59_0 : List (Nat × Instr × Nat × Nat) := [(0, .aload_n 0, 1, 0), (1, .getfield 12, 4, 0), (4, .iload_n 1, 5, 0), (5, .iconst 4, 6, 0), (6, .invokevirtual 38, 9, 0), (9, .lconst 0, 10, 0), (10, .lcmp, 11, 0), (11, .ifCond .eq 7, 14, 18), (14, .iconst 1, 15, 0), (15, .goto 4, 18, 19), (18, .iconst 0, 19, 0), (19, .ireturn, 20, 0)]
def zl_59 : List (Nat × List (Nat × Instr × Nat × Nat)) := [(20, zl_59_0)]
def zl_60_0 : List (Nat × Instr × Nat × Nat) := [(0, .aload_n 0, 1, 0), (1, .iload_n 1, 2, 0), (2, .putfield 9, 5, 0), (5, .aload_n 0, 6, 0), (6, .iload_n 2, 7, 0), (7, .iload_n 1, 8, 0), (8, .iand, 9, 0), (9, .bipush 50, 11, 0), (11, .iand, 12, 0), (12, .putfield 15, 15, 0), (15, .return_, 16, 0)]
def zl_60 : List (Nat × List (Nat × Instr × Nat × Nat)) := [(16, zl_60_0)]
def zl_61_0 : List (Nat × Instr × Nat × Nat) := [(0, .aload_n 0, 1, 0), (1, .iload_n 1, 2, 0), (2, .putfield 18, 5, 0), (5, .aload_n 0, 6, 0), (6, .lload_n 2, 7, 0), (7, .putfield 21, 10, 0), (10, .aload_n 0, 11, 0), (11, .iload 4, 13, 0), (13, .putfield 25, 16, 0), (16, .return_, 17, 0)]
def zl_61 : List (Nat × List (Nat × Instr × Nat × Nat)) := [(17, zl_61_0)]
def zl_62_0 : List (Nat × Instr × Nat × Nat) := [(0, .aload_n 0, 1, 0), (1, .getfield 12, 4, 0), (4, .iload_n 1, 5, 0), (5, .iconst 3, 6, 0), (6, .invokevirtual 38, 9, 0), (9, .l2i, 10, 0), (10, .istore 5, 12, 0), (12, .iload 5, 14, 0), (14, .ifCond .ne 12, 17, 26), (17, .aload_n 0, 18, 0), (18, .iload_n 1, 19, 0), (19, .lload_n 2, 20, 0), (20, .aload 4, 22, 0), (22, .invokevirtual 77, 25, 0), (25, .ireturn, 26, 0), (26, .lload_n 2, 27, 0), (27, .ldc2_w 30, 30, 0), (30, .lcmp, 31, 0), (31, .ifCond .ne 22, 34, 53), (34, .aload 4, 36, 0), (36, .iconst 1, 37, 0), (37, .invokevirtual 81, 40, 0), (40, .ifCond .eq 13, 43, 53), (43, .aload_n 0, 44, 0)]
def zl_62_1 : List (Nat × Instr × Nat × Nat) := [(44, .iload_n 1, 45, 0), (45, .iload 5, 47, 0), (47, .aload 4, 49, 0), (49, .invokevirtual 86, 52, 0), (52, .ireturn, 53, 0), (53, .lload_n 2, 54, 0), (54, .aload_n 0, 55, 0), (55, .iload 5, 57, 0), (57, .invokevirtual 90, 60, 0), (60, .lcmp, 61, 0), (61, .ifCond .ge 12, 64, 73), (64, .aload_n 0, 65, 0), (65, .iload_n 1, 66, 0), (66, .lload_n 2, 67, 0), (67, .aload 4, 69, 0), (69, .invokevirtual 77, 72, 0), (72, .ireturn, 73, 0), (73, .aload_n 0, 74, 0), (74, .iload 5, 76, 0), (76, .iconst 2, 77, 0), (77, .invokevirtual 69, 80, 0), (80, .ifCond .ne 5, 83, 85), (83, .iconst 2, 84, 0), (84, .ireturn, 85, 0)]
def zl_62_2 : List (Nat × Instr × Nat × Nat) := [(85, .aload_n 0, 86, 0), (86, .iload_n 1, 87, 0), (87, .lload_n 2, 88, 0), (88, .aload 4, 90, 0), (90, .invokevirtual 77, 93, 0), (93, .istore 6, 95, 0), (95, .iload 6, 97, 0), (97, .ifCond .ne 12, 100, 109), (100, .aload_n 0, 101, 0), (101, .iload 5, 103, 0), (103, .lload_n 2, 104, 0), (104, .lconst 1, 105, 0), (105, .ladd, 106, 0), (106, .invokevirtual 34, 109, 0), (109, .iload 6, 111, 0), (111, .ireturn, 112, 0)]
def zl_62 : List (Nat × List (Nat × Instr × Nat × Nat)) := [(44, zl_62_0), (85, zl_62_1), (112, zl_62_2)]
def zl_63_0 : List (Nat × Instr × Nat × Nat) := [(0, .aload_n 0, 1, 0), (1, .iload_n 1, 2, 0), (2, .lload_n 2, 3, 0), (3, .invokevirtual 55, 6, 0), (6, .istore 5, 8, 0), (8, .iload 5, 10, 0), (10, .ifCond .eq 12, 13, 22), (13, .aload_n 0, 14, 0), (14, .iload 5, 16, 0), (16, .aload 4, 18, 0), (18, .invokevirtual 93, 21, 0), (21, .ireturn, 22, 0), (22, .aload_n 0, 23, 0), (23, .iload_n 1, 24, 0), (24, .invokevirtual 65, 27, 0), (27, .ifCond .eq 14, 30, 41), (30, .aload_n 0, 31, 0), (31, .iload_n 1, 32, 0), (32, .lload_n 2, 33, 0), (33, .aload 4, 35, 0), (35, .invokevirtual 97, 38, 0), (38, .goto 4, 41, 42), (41, .iconst 2, 42, 0), (42, .ireturn, 43, 0)]
def zl_63 : List (Nat × List (Nat × Instr × Nat × Nat)) := [(43, zl_63_0)]
def zl_64_0 : List (Nat × Instr × Nat × Nat) := [(0, .aload_n 0, 1, 0), (1, .iload_n 1, 2, 0), (2, .bipush 32, 4, 0), (4, .invokevirtual 69, 7, 0), (7, .ifCond .ne 14, 10, 21), (10, .aload_n 0, 11, 0), (11, .iload_n 1, 12, 0), (12, .aload_n 2, 13, 0), (13, .invokevirtual 108, 16, 0), (16, .ifCond .eq 5, 19, 21), (19, .iconst 2, 20, 0), (20, .ireturn, 21, 0), (21, .aload_n 0, 22, 0), (22, .iload_n 1, 23, 0), (23, .aload_n 2, 24, 0), (24, .invokevirtual 100, 27, 0), (27, .iconst 0, 28, 0), (28, .ireturn, 29, 0)]
def zl_64 : List (Nat × List (Nat × Instr × Nat × Nat)) := [(29, zl_64_0)]
def zl_65_0 : List (Nat × Instr × Nat × Nat) := [(0, .aload_n 2, 1, 0), (1, .bipush 32, 3, 0), (3, .invokevirtual 112, 6, 0), (6, .ifCond .eq 5, 9, 11), (9, .iconst 1, 10, 0), (10, .ireturn, 11, 0), (11, .aload_n 2, 12, 0), (12, .bipush 16, 14, 0), (14, .invokevirtual 81, 17, 0), (17, .ifCond .eq 21, 20, 38), (20, .aload_n 2, 21, 0), (21, .bipush 16, 23, 0), (23, .invokevirtual 112, 26, 0), (26, .aload_n 0, 27, 0), (27, .iload_n 1, 28, 0), (28, .bipush 16, 30, 0), (30, .invokevirtual 69, 33, 0), (33, .if_icmp .eq 5, 36, 38), (36, .iconst 1, 37, 0), (37, .ireturn, 38, 0), (38, .aload_n 0, 39, 0), (39, .iload_n 1, 40, 0), (40, .invokevirtual 115, 43, 0), (43, .ifCond .eq 58, 46, 101)]
def zl_65_1 : List (Nat × Instr × Nat × Nat) := [(46, .aload_n 2, 47, 0), (47, .iconst 3, 48, 0), (48, .invokevirtual 81, 51, 0), (51, .ifCond .ne 44, 54, 95), (54, .aload_n 2, 55, 0), (55, .iconst 4, 56, 0), (56, .invokevirtual 81, 59, 0), (59, .ifCond .eq 15, 62, 74), (62, .aload_n 2, 63, 0), (63, .getfield 118, 66, 0), (66, .aload_n 0, 67, 0), (67, .iload_n 1, 68, 0), (68, .invokevirtual 122, 71, 0), (71, .if_icmp .ne 24, 74, 95), (74, .aload_n 2, 75, 0), (75, .bipush 8, 77, 0), (77, .invokevirtual 81, 80, 0), (80, .ifCond .eq 19, 83, 99), (83, .aload_n 2, 84, 0), (84, .getfield 125, 87, 0), (87, .aload_n 0, 88, 0), (88, .iload_n 1, 89, 0), (89, .invokevirtual 128, 92, 0), (92, .if_icmp .eq 7, 95, 99)]
def zl_65_2 : List (Nat × Instr × Nat × Nat) := [(95, .iconst 1, 96, 0), (96, .goto 4, 99, 100), (99, .iconst 0, 100, 0), (100, .ireturn, 101, 0), (101, .aload_n 2, 102, 0), (102, .bipush 12, 104, 0), (104, .invokevirtual 81, 107, 0), (107, .ifCond .eq 5, 110, 112), (110, .iconst 1, 111, 0), (111, .ireturn, 112, 0), (112, .aload_n 0, 113, 0), (113, .iload_n 1, 114, 0), (114, .iconst 2, 115, 0), (115, .invokevirtual 69, 118, 0), (118, .ifCond .ne 32, 121, 150), (121, .aload_n 2, 122, 0), (122, .iconst 2, 123, 0), (123, .invokevirtual 112, 126, 0), (126, .ifCond .ne 20, 129, 146), (129, .aload_n 2, 130, 0), (130, .iconst 1, 131, 0), (131, .invokevirtual 81, 134, 0), (134, .ifCond .eq 16, 137, 150), (137, .aload_n 0, 138, 0)]
def zl_65_3 : List (Nat × Instr × Nat × Nat) := [(138, .iload_n 1, 139, 0), (139, .aload_n 2, 140, 0), (140, .invokevirtual 131, 143, 0), (143, .ifCond .ne 7, 146, 150), (146, .iconst 1, 147, 0), (147, .goto 4, 150, 151), (150, .iconst 0, 151, 0), (151, .ireturn, 152, 0)]
def zl_65 : List (Nat × List (Nat × Instr × Nat × Nat)) := [(46, zl_65_0), (95, zl_65_1), (138, zl_65_2), (152, zl_65_3)]
def zl_66_0 : List (Nat × Instr × Nat × Nat) := [(0, .aload_n 0, 1, 0), (1, .getfield 15, 4, 0), (4, .iload_n 1, 5, 0), (5, .iand, 6, 0), (6, .ifCond .eq 7, 9, 13), (9, .iconst 1, 10, 0), (10, .goto 4, 13, 14), (13, .iconst 0, 14, 0), (14, .ireturn, 15, 0)]
def zl_66 : List (Nat × List (Nat × Instr × Nat × Nat)) := [(15, zl_66_0)]
def zl_67_0 : List (Nat × Instr × Nat × Nat) := [(0, .aload_n 0, 1, 0), (1, .getfield 9, 4, 0), (4, .iload_n 1, 5, 0), (5, .iand, 6, 0), (6, .ifCond .eq 7, 9, 13), (9, .iconst 1, 10, 0), (10, .goto 4, 13, 14), (13, .iconst 0, 14, 0), (14, .ireturn, 15, 0)]
def zl_67 : List (Nat × List (Nat × Instr × Nat × Nat)) := [(15, zl_67_0)]
def zl_68_0 : List (Nat × Instr × Nat × Nat) := [(0, .aload_n 0, 1, 0), (1, .iload_n 1, 2, 0), (2, .invokevirtual 134, 5, 0), (5, .aload_n 2, 6, 0), (6, .getfield 137, 9, 0), (9, .if_icmp .ne 32, 12, 41), (12, .aload_n 0, 13, 0), (13, .iload_n 1, 14, 0), (14, .invokevirtual 140, 17, 0), (17, .aload_n 2, 18, 0), (18, .getfield 143, 21, 0), (21, .lcmp, 22, 0), (22, .ifCond .ne 19, 25, 41), (25, .aload_n 0, 26, 0), (26, .iload_n 1, 27, 0), (27, .invokevirtual 122, 30, 0), (30, .aload_n 2, 31, 0), (31, .getfield 147, 34, 0), (34, .if_icmp .ne 7, 37, 41), (37, .iconst 1, 38, 0), (38, .goto 4, 41, 42), (41, .iconst 0, 42, 0), (42, .ireturn, 43, 0)]
def zl_68 : List (Nat × List (Nat × Instr × Nat × Nat)) := [(43, zl_68_0)]
def zl_69_0 : List (Nat × Instr × Nat × Nat) := [(0, .aload_n 2, 1, 0), (1, .aload_n 0, 2, 0), (2, .iload_n 1, 3, 0), (3, .invokevirtual 115, 6, 0), (6, .ifCond .eq 7, 9, 13), (9, .iconst 3, 10, 0), (10, .goto 5, 13, 15), (13, .bipush 12, 15, 0), (15, .invokevirtual 81, 18, 0), (18, .ifCond .eq 8, 21, 26), (21, .aload_n 0, 22, 0), (22, .iload_n 1, 23, 0), (23, .invokevirtual 150, 26, 0), (26, .aload_n 0, 27, 0), (27, .iload_n 1, 28, 0), (28, .invokevirtual 62, 31, 0), (31, .aload_n 2, 32, 0), (32, .getfield 154, 35, 0), (35, .bipush 50, 37, 0), (37, .iand, 38, 0), (38, .iconst (-1), 39, 0), (39, .ixor, 40, 0), (40, .iand, 41, 0), (41, .istore_n 3, 42, 0)]
def zl_69_1 : List (Nat × Instr × Nat × Nat) := [(42, .aload_n 0, 43, 0), (43, .getfield 12, 46, 0), (46, .iload_n 1, 47, 0), (47, .iconst 5, 48, 0), (48, .iload_n 3, 49, 0), (49, .aload_n 2, 50, 0), (50, .getfield 157, 53, 0), (53, .ior, 54, 0), (54, .i2l, 55, 0), (55, .invokevirtual 22, 58, 0), (58, .aload_n 2, 59, 0), (59, .iconst 1, 60, 0), (60, .invokevirtual 81, 63, 0), (63, .ifCond .eq 20, 66, 83), (66, .aload_n 0, 67, 0), (67, .iload_n 1, 68, 0), (68, .aload_n 2, 69, 0), (69, .getfield 137, 72, 0), (72, .aload_n 2, 73, 0), (73, .getfield 143, 76, 0), (76, .aload_n 2, 77, 0), (77, .getfield 147, 80, 0), (80, .invokevirtual 160, 83, 0), (83, .aload_n 2, 84, 0)]
def zl_69_2 : List (Nat × Instr × Nat × Nat) := [(84, .iconst 4, 85, 0), (85, .invokevirtual 81, 88, 0), (88, .ifCond .eq 25, 91, 113), (91, .aload_n 0, 92, 0), (92, .iload_n 1, 93, 0), (93, .aload_n 2, 94, 0), (94, .getfield 118, 97, 0), (97, .ifCond .ne 7, 100, 104), (100, .iconst 0, 101, 0), (101, .goto 4, 104, 105), (104, .iconst 5, 105, 0), (105, .lconst 0, 106, 0), (106, .aload_n 2, 107, 0), (107, .getfield 118, 110, 0), (110, .invokevirtual 160, 113, 0), (113, .aload_n 2, 114, 0), (114, .bipush 8, 116, 0), (116, .invokevirtual 81, 119, 0), (119, .ifCond .eq 17, 122, 136), (122, .aload_n 0, 123, 0), (123, .getfield 12, 126, 0), (126, .iload_n 1, 127, 0), (127, .iconst 3, 128, 0), (128, .aload_n 2, 129, 0)]
def zl_69_3 : List (Nat × Instr × Nat × Nat) := [(129, .getfield 125, 132, 0), (132, .i2l, 133, 0), (133, .invokevirtual 22, 136, 0), (136, .return_, 137, 0)]
def zl_69 : List (Nat × List (Nat × Instr × Nat × Nat)) := [(42, zl_69_0), (84, zl_69_1), (129, zl_69_2), (137, zl_69_3)]
def zl_70_0 : List (Nat × Instr × Nat × Nat) := [(0, .aload_n 0, 1, 0), (1, .iload_n 1, 2, 0), (2, .invokevirtual 62, 5, 0), (5, .bipush 48, 7, 0), (7, .iand, 8, 0), (8, .istore_n 2, 9, 0), (9, .aload_n 0, 10, 0), (10, .iload_n 1, 11, 0), (11, .invokevirtual 115, 14, 0), (14, .ifCond .eq 7, 17, 21), (17, .iload_n 2, 18, 0), (18, .goto 7, 21, 25), (21, .iload_n 2, 22, 0), (22, .bipush 64, 24, 0), (24, .ior, 25, 0), (25, .istore_n 3, 26, 0), (26, .aload_n 0, 27, 0), (27, .getfield 12, 30, 0), (30, .iload_n 1, 31, 0), (31, .iconst 5, 32, 0), (32, .iload_n 3, 33, 0), (33, .i2l, 34, 0), (34, .invokevirtual 22, 37, 0), (37, .aload_n 0, 38, 0)]
def zl_70_1 : List (Nat × Instr × Nat × Nat) := [(38, .getfield 12, 41, 0), (41, .iload_n 1, 42, 0), (42, .iconst 3, 43, 0), (43, .lconst 0, 44, 0), (44, .invokevirtual 22, 47, 0), (47, .aload_n 0, 48, 0), (48, .iload_n 1, 49, 0), (49, .iconst 0, 50, 0), (50, .lconst 0, 51, 0), (51, .iconst 0, 52, 0), (52, .invokevirtual 160, 55, 0), (55, .return_, 56, 0)]
def zl_70 : List (Nat × List (Nat × Instr × Nat × Nat)) := [(38, zl_70_0), (56, zl_70_1)]
def zl_71_0 : List (Nat × Instr × Nat × Nat) := [(0, .aload_n 0, 1, 0), (1, .getfield 12, 4, 0), (4, .iload_n 1, 5, 0), (5, .iconst 5, 6, 0), (6, .invokevirtual 38, 9, 0), (9, .l2i, 10, 0), (10, .ireturn, 11, 0)]
def zl_71 : List (Nat × List (Nat × Instr × Nat × Nat)) := [(11, zl_71_0)]
def zl_72_0 : List (Nat × Instr × Nat × Nat) := [(0, .aload_n 0, 1, 0), (1, .getfield 12, 4, 0), (4, .invokevirtual 18, 7, 0), (7, .istore 5, 9, 0), (9, .iload 5, 11, 0), (11, .ifCond .ne 5, 14, 16), (14, .iconst 2, 15, 0), (15, .ireturn, 16, 0), (16, .aload_n 0, 17, 0), (17, .getfield 12, 20, 0), (20, .iload 5, 22, 0), (22, .iconst 4, 23, 0), (23, .lload_n 2, 24, 0), (24, .invokevirtual 22, 27, 0), (27, .aload_n 0, 28, 0), (28, .iload 5, 30, 0), (30, .aload 4, 32, 0), (32, .invokevirtual 100, 35, 0), (35, .iconst 0, 36, 0), (36, .istore 6, 38, 0), (38, .aload_n 0, 39, 0), (39, .iload_n 1, 40, 0), (40, .invokevirtual 44, 43, 0), (43, .istore 7, 45, 0)]
def zl_72_1 : List (Nat × Instr × Nat × Nat) := [(45, .iconst 0, 46, 0), (46, .istore 8, 48, 0), (48, .iload 8, 50, 0), (50, .sipush 1024, 53, 0), (53, .if_icmp .ge 42, 56, 95), (56, .iload 7, 58, 0), (58, .ifCond .eq 37, 61, 95), (61, .aload_n 0, 62, 0), (62, .iload 7, 64, 0), (64, .invokevirtual 48, 67, 0), (67, .lload_n 2, 68, 0), (68, .invokestatic 104, 71, 0), (71, .ifCond .ne 6, 74, 77), (74, .goto 21, 77, 95), (77, .iload 7, 79, 0), (79, .istore 6, 81, 0), (81, .aload_n 0, 82, 0), (82, .iload 7, 84, 0), (84, .invokevirtual 52, 87, 0), (87, .istore 7, 89, 0), (89, .iinc 8 1, 92, 0), (92, .goto (-44), 95, 48), (95, .aload_n 0, 96, 0), (96, .getfield 12, 99, 0)]
def zl_72_2 : List (Nat × Instr × Nat × Nat) := [(99, .iload 5, 101, 0), (101, .iconst 1, 102, 0), (102, .iload 7, 104, 0), (104, .i2l, 105, 0), (105, .invokevirtual 22, 108, 0), (108, .aload_n 0, 109, 0), (109, .iload_n 1, 110, 0), (110, .iload 6, 112, 0), (112, .iload 5, 114, 0), (114, .invokevirtual 73, 117, 0), (117, .iconst 0, 118, 0), (118, .ireturn, 119, 0)]
def zl_72 : List (Nat × List (Nat × Instr × Nat × Nat)) := [(45, zl_72_0), (99, zl_72_1), (119, zl_72_2)]
def zl_73_0 : List (Nat × Instr × Nat × Nat) := [(0, .lload_n 2, 1, 0), (1, .lconst 0, 2, 0), (2, .lcmp, 3, 0), (3, .ifCond .lt 15, 6, 18), (6, .lload_n 0, 7, 0), (7, .lconst 0, 8, 0), (8, .lcmp, 9, 0), (9, .ifCond .lt 13, 12, 22), (12, .lload_n 0, 13, 0), (13, .lload_n 2, 14, 0), (14, .lcmp, 15, 0), (15, .ifCond .ge 7, 18, 22), (18, .iconst 1, 19, 0), (19, .goto 4, 22, 23), (22, .iconst 0, 23, 0), (23, .ireturn, 24, 0)]
def zl_73 : List (Nat × List (Nat × Instr × Nat × Nat)) := [(24, zl_73_0)]
def zl_74_0 : List (Nat × Instr × Nat × Nat) := [(0, .iload_n 2, 1, 0), (1, .ifCond .ne 17, 4, 18), (4, .aload_n 0, 5, 0), (5, .getfield 12, 8, 0), (8, .iload_n 1, 9, 0), (9, .iconst 2, 10, 0), (10, .iload_n 3, 11, 0), (11, .i2l, 12, 0), (12, .invokevirtual 22, 15, 0), (15, .goto 14, 18, 29), (18, .aload_n 0, 19, 0), (19, .getfield 12, 22, 0), (22, .iload_n 2, 23, 0), (23, .iconst 1, 24, 0), (24, .iload_n 3, 25, 0), (25, .i2l, 26, 0), (26, .invokevirtual 22, 29, 0), (29, .return_, 30, 0)]
def zl_74 : List (Nat × List (Nat × Instr × Nat × Nat)) := [(30, zl_74_0)]
def zl_75_0 : List (Nat × Instr × Nat × Nat) := [(0, .aload_n 3, 1, 0), (1, .getfield 137, 4, 0), (4, .aload_n 3, 5, 0), (5, .getfield 143, 8, 0), (8, .invokestatic 164, 11, 0), (11, .lstore 4, 13, 0), (13, .lload 4, 15, 0), (15, .ldc2_w 30, 18, 0), (18, .lcmp, 19, 0), (19, .ifCond .ne 5, 22, 24), (22, .iconst 3, 23, 0), (23, .ireturn, 24, 0), (24, .aload_n 3, 25, 0), (25, .iconst 4, 26, 0), (26, .lload 4, 28, 0), (28, .invokestatic 170, 31, 0), (31, .iconst 0, 32, 0), (32, .invokevirtual 174, 35, 0), (35, .lload 4, 37, 0), (37, .aload_n 0, 38, 0), (38, .iload_n 2, 39, 0), (39, .invokevirtual 90, 42, 0), (42, .lcmp, 43, 0), (43, .ifCond .lt 10, 46, 53)]
def zl_75_1 : List (Nat × Instr × Nat × Nat) := [(46, .aload_n 0, 47, 0), (47, .iload_n 2, 48, 0), (48, .aload_n 3, 49, 0), (49, .invokevirtual 93, 52, 0), (52, .ireturn, 53, 0), (53, .aload_n 0, 54, 0), (54, .iload_n 2, 55, 0), (55, .iconst 2, 56, 0), (56, .invokevirtual 69, 59, 0), (59, .ifCond .ne 5, 62, 64), (62, .iconst 2, 63, 0), (63, .ireturn, 64, 0), (64, .aload_n 3, 65, 0), (65, .iconst 2, 66, 0), (66, .invokevirtual 178, 69, 0), (69, .istore 6, 71, 0), (71, .iload 6, 73, 0), (73, .ifCond .eq 13, 76, 86), (76, .aload_n 3, 77, 0), (77, .dup, 78, 0), (78, .getfield 157, 81, 0), (81, .iconst 2, 82, 0), (82, .ior, 83, 0), (83, .putfield 157, 86, 0)]
def zl_75_2 : List (Nat × Instr × Nat × Nat) := [(86, .aload_n 0, 87, 0), (87, .iload_n 2, 88, 0), (88, .aload_n 3, 89, 0), (89, .invokevirtual 93, 92, 0), (92, .iconst 2, 93, 0), (93, .if_icmp .ne 5, 96, 98), (96, .iconst 2, 97, 0), (97, .ireturn, 98, 0), (98, .aload_n 0, 99, 0), (99, .iload_n 1, 100, 0), (100, .lload 4, 102, 0), (102, .invokevirtual 181, 105, 0), (105, .lstore 7, 107, 0), (107, .aload_n 0, 108, 0), (108, .iload_n 2, 109, 0), (109, .lload 7, 111, 0), (111, .invokevirtual 34, 114, 0), (114, .iload 6, 116, 0), (116, .ifCond .eq 21, 119, 137), (119, .aload_n 0, 120, 0), (120, .getfield 12, 123, 0), (123, .iload_n 2, 124, 0), (124, .iconst 5, 125, 0), (125, .aload_n 0, 126, 0)]
def zl_75_3 : List (Nat × Instr × Nat × Nat) := [(126, .iload_n 2, 127, 0), (127, .invokevirtual 62, 130, 0), (130, .bipush (-3), 132, 0), (132, .iand, 133, 0), (133, .i2l, 134, 0), (134, .invokevirtual 22, 137, 0), (137, .lload 7, 139, 0), (139, .lload 4, 141, 0), (141, .lcmp, 142, 0), (142, .ifCond .ne 7, 145, 149), (145, .iconst 0, 146, 0), (146, .goto 4, 149, 150), (149, .iconst 2, 150, 0), (150, .ireturn, 151, 0)]
def zl_75 : List (Nat × List (Nat × Instr × Nat × Nat)) := [(46, zl_75_0), (86, zl_75_1), (126, zl_75_2), (151, zl_75_3)]
def zl_76_0 : List (Nat × Instr × Nat × Nat) := [(0, .iload_n 0, 1, 0), (1, .iconst 1, 2, 0), (2, .if_icmp .eq 8, 5, 10), (5, .iload_n 0, 6, 0), (6, .iconst 2, 7, 0), (7, .if_icmp .ne 5, 10, 12), (10, .lconst 0, 11, 0), (11, .lreturn, 12, 0), (12, .iload_n 0, 13, 0), (13, .iconst 3, 14, 0), (14, .if_icmp .ne 5, 17, 19), (17, .lconst 1, 18, 0), (18, .lreturn, 19, 0), (19, .iload_n 0, 20, 0), (20, .iconst 4, 21, 0), (21, .if_icmp .ne 10, 24, 31), (24, .lload_n 1, 25, 0), (25, .invokestatic 17, 28, 0), (28, .goto 6, 31, 34), (31, .ldc2_w 21, 34, 0), (34, .lreturn, 35, 0)]
def zl_76 : List (Nat × List (Nat × Instr × Nat × Nat)) := [(35, zl_76_0)]
def zl_77_0 : List (Nat × Instr × Nat × Nat) := [(0, .lload_n 0, 1, 0), (1, .lconst 0, 2, 0), (2, .lcmp, 3, 0), (3, .ifCond .eq 11, 6, 14), (6, .lload_n 0, 7, 0), (7, .ldc2_w 23, 10, 0), (10, .lcmp, 11, 0), (11, .ifCond .ne 5, 14, 16), (14, .lconst 0, 15, 0), (15, .lreturn, 16, 0), (16, .lload_n 0, 17, 0), (17, .bipush 52, 19, 0), (19, .lushr, 20, 0), (20, .l2i, 21, 0), (21, .sipush 1023, 24, 0), (24, .isub, 25, 0), (25, .istore_n 2, 26, 0), (26, .iload_n 2, 27, 0), (27, .ifCond .lt 9, 30, 36), (30, .iload_n 2, 31, 0), (31, .bipush 32, 33, 0), (33, .if_icmp .lt 7, 36, 40), (36, .ldc2_w 21, 39, 0), (39, .lreturn, 40, 0)]
def zl_77_1 : List (Nat × Instr × Nat × Nat) := [(40, .lload_n 0, 41, 0), (41, .ldc2_w 13, 44, 0), (44, .land, 45, 0), (45, .ldc2_w 25, 48, 0), (48, .lor, 49, 0), (49, .lstore_n 3, 50, 0), (50, .bipush 52, 52, 0), (52, .iload_n 2, 53, 0), (53, .isub, 54, 0), (54, .istore 5, 56, 0), (56, .lload_n 3, 57, 0), (57, .iload 5, 59, 0), (59, .lushr, 60, 0), (60, .lstore 6, 62, 0), (62, .lload 6, 64, 0), (64, .iload 5, 66, 0), (66, .lshl, 67, 0), (67, .lload_n 3, 68, 0), (68, .lcmp, 69, 0), (69, .ifCond .ne 8, 72, 77), (72, .lload 6, 74, 0), (74, .goto 6, 77, 80), (77, .ldc2_w 21, 80, 0), (80, .lreturn, 81, 0)]
def zl_77 : List (Nat × List (Nat × Instr × Nat × Nat)) := [(40, zl_77_0), (81, zl_77_1)]
def zl_78_0 : List (Nat × Instr × Nat × Nat) := [(0, .aload_n 0, 1, 0), (1, .iload_n 1, 2, 0), (2, .invokevirtual 134, 5, 0), (5, .aload_n 0, 6, 0), (6, .iload_n 1, 7, 0), (7, .invokevirtual 140, 10, 0), (10, .invokestatic 164, 13, 0), (13, .lreturn, 14, 0)]
def zl_78 : List (Nat × List (Nat × Instr × Nat × Nat)) := [(14, zl_78_0)]
def zl_79_0 : List (Nat × Instr × Nat × Nat) := [(0, .aload_n 0, 1, 0), (1, .iload_n 1, 2, 0), (2, .invokevirtual 34, 5, 0), (5, .ifCond .eq 15, 8, 20), (8, .aload_n 0, 9, 0), (9, .iload_n 1, 10, 0), (10, .invokevirtual 38, 13, 0), (13, .ifCond .ne 7, 16, 20), (16, .iconst 1, 17, 0), (17, .goto 4, 20, 21), (20, .iconst 0, 21, 0), (21, .ireturn, 22, 0)]
def zl_79 : List (Nat × List (Nat × Instr × Nat × Nat)) := [(22, zl_79_0)]
def zl_80_0 : List (Nat × Instr × Nat × Nat) := [(0, .lload_n 2, 1, 0), (1, .lstore 4, 3, 0), (3, .aload_n 0, 4, 0), (4, .iload_n 1, 5, 0), (5, .invokevirtual 44, 8, 0), (8, .istore 6, 10, 0), (10, .iconst 0, 11, 0), (11, .istore 7, 13, 0), (13, .iconst 0, 14, 0), (14, .istore 8, 16, 0), (16, .iload 8, 18, 0), (18, .sipush 1024, 21, 0), (21, .if_icmp .ge 72, 24, 93), (24, .iload 6, 26, 0), (26, .ifCond .eq 67, 29, 93), (29, .aload_n 0, 30, 0), (30, .iload 6, 32, 0), (32, .invokevirtual 48, 35, 0), (35, .lstore 9, 37, 0), (37, .lload 9, 39, 0), (39, .lconst 0, 40, 0), (40, .lcmp, 41, 0), (41, .ifCond .ge 6, 44, 47), (44, .goto 49, 47, 93)]
def zl_80_1 : List (Nat × Instr × Nat × Nat) := [(47, .lload 9, 49, 0), (49, .lload_n 2, 50, 0), (50, .lcmp, 51, 0), (51, .ifCond .lt 14, 54, 65), (54, .aload_n 0, 55, 0), (55, .iload 6, 57, 0), (57, .bipush 32, 59, 0), (59, .invokevirtual 69, 62, 0), (62, .ifCond .ne 17, 65, 79), (65, .lload_n 2, 66, 0), (66, .lload 9, 68, 0), (68, .lconst 1, 69, 0), (69, .ladd, 70, 0), (70, .invokestatic 184, 73, 0), (73, .lstore 4, 75, 0), (75, .iload 6, 77, 0), (77, .istore 7, 79, 0), (79, .aload_n 0, 80, 0), (80, .iload 6, 82, 0), (82, .invokevirtual 52, 85, 0), (85, .istore 6, 87, 0), (87, .iinc 8 1, 90, 0), (90, .goto (-74), 93, 16), (93, .aload_n 0, 94, 0)]
def zl_80_2 : List (Nat × Instr × Nat × Nat) := [(94, .iload_n 1, 95, 0), (95, .iload 7, 97, 0), (97, .iload 6, 99, 0), (99, .invokevirtual 73, 102, 0), (102, .lload 4, 104, 0), (104, .lreturn, 105, 0)]
def zl_80 : List (Nat × List (Nat × Instr × Nat × Nat)) := [(47, zl_80_0), (94, zl_80_1), (105, zl_80_2)]
def zl_81_0 : List (Nat × Instr × Nat × Nat) := [(0, .lload_n 0, 1, 0), (1, .lload_n 2, 2, 0), (2, .lcmp, 3, 0), (3, .ifCond .lt 7, 6, 10), (6, .lload_n 0, 7, 0), (7, .goto 4, 10, 11), (10, .lload_n 2, 11, 0), (11, .lreturn, 12, 0)]
def zl_81 : List (Nat × List (Nat × Instr × Nat × Nat)) := [(12, zl_81_0)]
def zl_82_0 : List (Nat × Instr × Nat × Nat) := [(0, .aload 8, 2, 0), (2, .iconst 0, 3, 0), (3, .aload_n 0, 4, 0), (4, .iload_n 1, 5, 0), (5, .lload_n 2, 6, 0), (6, .iload 4, 8, 0), (8, .iload 5, 10, 0), (10, .iload 6, 12, 0), (12, .iload 7, 14, 0), (14, .invokevirtual 44, 17, 0), (17, .i2l, 18, 0), (18, .lastore, 19, 0), (19, .goto 7, 22, 26), (22, .astore 9, 24, 0), (24, .iconst 1, 25, 0), (25, .ireturn, 26, 0), (26, .iconst 0, 27, 0), (27, .ireturn, 28, 0)]
def zl_82 : List (Nat × List (Nat × Instr × Nat × Nat)) := [(28, zl_82_0)]
def zl_83_0 : List (Nat × Instr × Nat × Nat) := [(0, .aload_n 0, 1, 0), (1, .iload_n 1, 2, 0), (2, .lload_n 2, 3, 0), (3, .invokevirtual 90, 6, 0), (6, .istore 8, 8, 0), (8, .iload 4, 10, 0), (10, .iconst 3, 11, 0), (11, .iand, 12, 0), (12, .ifCond .eq 7, 15, 19), (15, .iconst 1, 16, 0), (16, .goto 4, 19, 20), (19, .iconst 0, 20, 0), (20, .istore 9, 22, 0), (22, .iload 4, 24, 0), (24, .bipush 12, 26, 0), (26, .iand, 27, 0), (27, .ifCond .eq 7, 30, 34), (30, .iconst 1, 31, 0), (31, .goto 4, 34, 35), (34, .iconst 0, 35, 0), (35, .istore 10, 37, 0), (37, .iload 4, 39, 0), (39, .ifCond .lt 20, 42, 59), (42, .iload 4, 44, 0)]
def zl_83_1 : List (Nat × Instr × Nat × Nat) := [(44, .bipush 63, 46, 0), (46, .if_icmp .gt 13, 49, 59), (49, .iload 9, 51, 0), (51, .ifCond .eq 18, 54, 69), (54, .iload 10, 56, 0), (56, .ifCond .eq 13, 59, 69), (59, .new 40, 62, 0), (62, .dup, 63, 0), (63, .ldc 131, 65, 0), (65, .invokespecial 44, 68, 0), (68, .athrow, 69, 0), (69, .iload 4, 71, 0), (71, .iconst 4, 72, 0), (72, .iand, 73, 0), (73, .ifCond .eq 12, 76, 85), (76, .aload_n 0, 77, 0), (77, .iload 6, 79, 0), (79, .invokevirtual 32, 82, 0), (82, .goto 4, 85, 86), (85, .iconst 0, 86, 0), (86, .istore 11, 88, 0), (88, .iload 4, 90, 0), (90, .bipush 8, 92, 0), (92, .iand, 93, 0)]
def zl_83_2 : List (Nat × Instr × Nat × Nat) := [(93, .ifCond .eq 12, 96, 105), (96, .aload_n 0, 97, 0), (97, .iload 7, 99, 0), (99, .invokevirtual 32, 102, 0), (102, .goto 4, 105, 106), (105, .iconst 0, 106, 0), (106, .istore 12, 108, 0), (108, .aload_n 0, 109, 0), (109, .getfield 24, 112, 0), (112, .iload 4, 114, 0), (114, .iload 5, 116, 0), (116, .invokevirtual 120, 119, 0), (119, .aload_n 0, 120, 0), (120, .getfield 24, 123, 0), (123, .aload_n 0, 124, 0), (124, .getfield 63, 127, 0), (127, .aload_n 0, 128, 0), (128, .getfield 73, 131, 0), (131, .aload_n 0, 132, 0), (132, .getfield 20, 135, 0), (135, .bipush 24, 137, 0), (137, .invokevirtual 53, 140, 0), (140, .invokevirtual 123, 143, 0), (143, .aload_n 0, 144, 0)]
def zl_83_3 : List (Nat × Instr × Nat × Nat) := [(144, .getfield 24, 147, 0), (147, .iload 11, 149, 0), (149, .iload 12, 151, 0), (151, .invokevirtual 133, 154, 0), (154, .aload_n 0, 155, 0), (155, .getfield 12, 158, 0), (158, .iload 8, 160, 0), (160, .lload_n 2, 161, 0), (161, .aload_n 0, 162, 0), (162, .getfield 24, 165, 0), (165, .invokevirtual 127, 168, 0), (168, .ireturn, 169, 0)]
def zl_83 : List (Nat × List (Nat × Instr × Nat × Nat)) := [(44, zl_83_0), (93, zl_83_1), (144, zl_83_2), (169, zl_83_3)]
def zl_84_0 : List (Nat × Instr × Nat × Nat) := [(0, .aload_n 0, 1, 0), (1, .iload_n 1, 2, 0), (2, .putfield 28, 5, 0), (5, .aload_n 0, 6, 0), (6, .iload_n 2, 7, 0), (7, .putfield 31, 10, 0), (10, .return_, 11, 0)]
def zl_84 : List (Nat × List (Nat × Instr × Nat × Nat)) := [(11, zl_84_0)]
def zl_85_0 : List (Nat × Instr × Nat × Nat) := [(0, .aload 4, 2, 0), (2, .iconst 0, 3, 0), (3, .aload_n 0, 4, 0), (4, .iload_n 1, 5, 0), (5, .lload_n 2, 6, 0), (6, .invokevirtual 48, 9, 0), (9, .i2l, 10, 0), (10, .lastore, 11, 0), (11, .goto 7, 14, 18), (14, .astore 5, 16, 0), (16, .iconst 1, 17, 0), (17, .ireturn, 18, 0), (18, .iconst 0, 19, 0), (19, .ireturn, 20, 0)]
def zl_85 : List (Nat × List (Nat × Instr × Nat × Nat)) := [(20, zl_85_0)]
def zl_86_0 : List (Nat × Instr × Nat × Nat) := [(0, .aload_n 0, 1, 0), (1, .getfield 12, 4, 0), (4, .aload_n 0, 5, 0), (5, .iload_n 1, 6, 0), (6, .lload_n 2, 7, 0), (7, .invokevirtual 90, 10, 0), (10, .lload_n 2, 11, 0), (11, .invokevirtual 110, 14, 0), (14, .istore 4, 16, 0), (16, .aload_n 0, 17, 0), (17, .iload 4, 19, 0), (19, .invokevirtual 97, 22, 0), (22, .iload 4, 24, 0), (24, .ifCond .ne 7, 27, 31), (27, .iconst (-1), 28, 0), (28, .goto 12, 31, 40), (31, .aload_n 0, 32, 0), (32, .getfield 12, 35, 0), (35, .iload 4, 37, 0), (37, .invokevirtual 136, 40, 0), (40, .ireturn, 41, 0)]
def zl_86 : List (Nat × List (Nat × Instr × Nat × Nat)) := [(41, zl_86_0)]
def zl_87_0 : List (Nat × Instr × Nat × Nat) := [(0, .aload 5, 2, 0), (2, .iconst 0, 3, 0), (3, .aload_n 0, 4, 0), (4, .iload_n 1, 5, 0), (5, .lload_n 2, 6, 0), (6, .iload 4, 8, 0), (8, .invokevirtual 51, 11, 0), (11, .ifCond .eq 7, 14, 18), (14, .lconst 1, 15, 0), (15, .goto 4, 18, 19), (18, .lconst 0, 19, 0), (19, .lastore, 20, 0), (20, .goto 7, 23, 27), (23, .astore 6, 25, 0), (25, .iconst 1, 26, 0), (26, .ireturn, 27, 0), (27, .iconst 0, 28, 0), (28, .ireturn, 29, 0)]
def zl_87 : List (Nat × List (Nat × Instr × Nat × Nat)) := [(29, zl_87_0)]
def zl_88_0 : List (Nat × Instr × Nat × Nat) := [(0, .aload_n 0, 1, 0), (1, .iload_n 1, 2, 0), (2, .lload_n 2, 3, 0), (3, .invokevirtual 90, 6, 0), (6, .istore 5, 8, 0), (8, .iload 4, 10, 0), (10, .invokestatic 28, 13, 0), (13, .aload_n 0, 14, 0), (14, .getfield 12, 17, 0), (17, .aload_n 0, 18, 0), (18, .getfield 12, 21, 0), (21, .iload 5, 23, 0), (23, .lload_n 2, 24, 0), (24, .invokevirtual 110, 27, 0), (27, .invokevirtual 104, 30, 0), (30, .istore 6, 32, 0), (32, .iload 6, 34, 0), (34, .ifCond .ne 5, 37, 39), (37, .iconst 0, 38, 0), (38, .ireturn, 39, 0), (39, .aload_n 0, 40, 0), (40, .getfield 20, 43, 0), (43, .iload 4, 45, 0), (45, .iload 6, 47, 0)]
def zl_88_1 : List (Nat × Instr × Nat × Nat) := [(47, .invokevirtual 47, 50, 0), (50, .iconst 1, 51, 0), (51, .ireturn, 52, 0)]
def zl_88 : List (Nat × List (Nat × Instr × Nat × Nat)) := [(47, zl_88_0), (52, zl_88_1)]
def zl_89_0 : List (Nat × Instr × Nat × Nat) := [(0, .aload 4, 2, 0), (2, .iconst 0, 3, 0), (3, .aload_n 0, 4, 0), (4, .iload_n 1, 5, 0), (5, .lload_n 2, 6, 0), (6, .invokevirtual 55, 9, 0), (9, .ifCond .eq 7, 12, 16), (12, .lconst 1, 13, 0), (13, .goto 4, 16, 17), (16, .lconst 0, 17, 0), (17, .lastore, 18, 0), (18, .goto 7, 21, 25), (21, .astore 5, 23, 0), (23, .iconst 1, 24, 0), (24, .ireturn, 25, 0), (25, .iconst 0, 26, 0), (26, .ireturn, 27, 0)]
def zl_89 : List (Nat × List (Nat × Instr × Nat × Nat)) := [(27, zl_89_0)]
def zl_90_0 : List (Nat × Instr × Nat × Nat) := [(0, .aload_n 0, 1, 0), (1, .getfield 12, 4, 0), (4, .aload_n 0, 5, 0), (5, .iload_n 1, 6, 0), (6, .lload_n 2, 7, 0), (7, .invokevirtual 90, 10, 0), (10, .lload_n 2, 11, 0), (11, .invokevirtual 94, 14, 0), (14, .ifCond .eq 7, 17, 21), (17, .iconst 1, 18, 0), (18, .goto 4, 21, 22), (21, .iconst 0, 22, 0), (22, .ireturn, 23, 0)]
def zl_90 : List (Nat × List (Nat × Instr × Nat × Nat)) := [(23, zl_90_0)]
def zl_91_0 : List (Nat × Instr × Nat × Nat) := [(0, .aload 4, 2, 0), (2, .iconst 0, 3, 0), (3, .aload_n 0, 4, 0), (4, .iload_n 1, 5, 0), (5, .lload_n 2, 6, 0), (6, .invokevirtual 59, 9, 0), (9, .ifCond .eq 7, 12, 16), (12, .lconst 1, 13, 0), (13, .goto 4, 16, 17), (16, .lconst 0, 17, 0), (17, .lastore, 18, 0), (18, .goto 7, 21, 25), (21, .astore 5, 23, 0), (23, .iconst 1, 24, 0), (24, .ireturn, 25, 0), (25, .iconst 0, 26, 0), (26, .ireturn, 27, 0)]
def zl_91 : List (Nat × List (Nat × Instr × Nat × Nat)) := [(27, zl_91_0)]
def zl_92_0 : List (Nat × Instr × Nat × Nat) := [(0, .aload_n 0, 1, 0), (1, .getfield 12, 4, 0), (4, .aload_n 0, 5, 0), (5, .iload_n 1, 6, 0), (6, .lload_n 2, 7, 0), (7, .invokevirtual 90, 10, 0), (10, .lload_n 2, 11, 0), (11, .invokevirtual 139, 14, 0), (14, .ireturn, 15, 0)]
def zl_92 : List (Nat × List (Nat × Instr × Nat × Nat)) := [(15, zl_92_0)]
def zl_93_0 : List (Nat × Instr × Nat × Nat) := [(0, .iconst 0, 1, 0), (1, .istore 4, 3, 0), (3, .aload_n 0, 4, 0), (4, .iload_n 1, 5, 0), (5, .invokevirtual 44, 8, 0), (8, .istore 5, 10, 0), (10, .iconst 0, 11, 0), (11, .istore 6, 13, 0), (13, .iload 6, 15, 0), (15, .sipush 1024, 18, 0), (18, .if_icmp .ge 40, 21, 58), (21, .iload 5, 23, 0), (23, .ifCond .eq 35, 26, 58), (26, .aload_n 0, 27, 0), (27, .iload 5, 29, 0), (29, .invokevirtual 48, 32, 0), (32, .lload_n 2, 33, 0), (33, .lcmp, 34, 0), (34, .ifCond .ne 6, 37, 40), (37, .goto 21, 40, 58), (40, .iload 5, 42, 0), (42, .istore 4, 44, 0), (44, .aload_n 0, 45, 0), (45, .iload 5, 47, 0)]
def zl_93_1 : List (Nat × Instr × Nat × Nat) := [(47, .invokevirtual 52, 50, 0), (50, .istore 5, 52, 0), (52, .iinc 6 1, 55, 0), (55, .goto (-42), 58, 13), (58, .aload_n 0, 59, 0), (59, .iload 5, 61, 0), (61, .bipush 32, 63, 0), (63, .invokevirtual 69, 66, 0), (66, .ifCond .eq 18, 69, 84), (69, .aload_n 0, 70, 0), (70, .iload_n 1, 71, 0), (71, .iload 4, 73, 0), (73, .aload_n 0, 74, 0), (74, .iload 5, 76, 0), (76, .invokevirtual 52, 79, 0), (79, .invokevirtual 73, 82, 0), (82, .iconst 1, 83, 0), (83, .ireturn, 84, 0), (84, .iload 5, 86, 0), (86, .ifCond .ne 7, 89, 93), (89, .iconst 1, 90, 0), (90, .goto 4, 93, 94), (93, .iconst 0, 94, 0), (94, .ireturn, 95, 0)]
def zl_93 : List (Nat × List (Nat × Instr × Nat × Nat)) := [(47, zl_93_0), (95, zl_93_1)]
def zl_94_0 : List (Nat × Instr × Nat × Nat) := [(0, .aload_n 2, 1, 0), (1, .iconst 0, 2, 0), (2, .aload_n 0, 3, 0), (3, .iload_n 1, 4, 0), (4, .invokevirtual 62, 7, 0), (7, .i2l, 8, 0), (8, .lastore, 9, 0), (9, .goto 6, 12, 15), (12, .astore_n 3, 13, 0), (13, .iconst 1, 14, 0), (14, .ireturn, 15, 0), (15, .iconst 0, 16, 0), (16, .ireturn, 17, 0)]
def zl_94 : List (Nat × List (Nat × Instr × Nat × Nat)) := [(17, zl_94_0)]
def zl_95_0 : List (Nat × Instr × Nat × Nat) := [(0, .aload_n 0, 1, 0), (1, .getfield 12, 4, 0), (4, .aload_n 0, 5, 0), (5, .iload_n 1, 6, 0), (6, .invokevirtual 60, 9, 0), (9, .invokevirtual 143, 12, 0), (12, .ireturn, 13, 0)]
def zl_95 : List (Nat × List (Nat × Instr × Nat × Nat)) := [(13, zl_95_0)]
def zl_96_0 : List (Nat × Instr × Nat × Nat) := [(0, .iconst 0, 1, 0), (1, .istore_n 2, 2, 0), (2, .aload_n 0, 3, 0), (3, .iload_n 1, 4, 0), (4, .invokevirtual 44, 7, 0), (7, .istore_n 3, 8, 0), (8, .iconst 0, 9, 0), (9, .istore 4, 11, 0), (11, .iload 4, 13, 0), (13, .sipush 1024, 16, 0), (16, .if_icmp .ge 22, 19, 38), (19, .iload_n 3, 20, 0), (20, .ifCond .eq 18, 23, 38), (23, .iinc 2 1, 26, 0), (26, .aload_n 0, 27, 0), (27, .iload_n 3, 28, 0), (28, .invokevirtual 52, 31, 0), (31, .istore_n 3, 32, 0), (32, .iinc 4 1, 35, 0), (35, .goto (-24), 38, 11), (38, .iload_n 2, 39, 0), (39, .ireturn, 40, 0)]
def zl_96 : List (Nat × List (Nat × Instr × Nat × Nat)) := [(40, zl_96_0)]
def zl_97_0 : List (Nat × Instr × Nat × Nat) := [(0, .aload_n 3, 1, 0), (1, .iconst 0, 2, 0), (2, .aload_n 0, 3, 0), (3, .iload_n 1, 4, 0), (4, .iload_n 2, 5, 0), (5, .invokevirtual 66, 8, 0), (8, .lastore, 9, 0), (9, .goto 7, 12, 16), (12, .astore 4, 14, 0), (14, .iconst 1, 15, 0), (15, .ireturn, 16, 0), (16, .iconst 0, 17, 0), (17, .ireturn, 18, 0)]
def zl_97 : List (Nat × List (Nat × Instr × Nat × Nat)) := [(18, zl_97_0)]
def zl_98_0 : List (Nat × Instr × Nat × Nat) := [(0, .aload_n 0, 1, 0), (1, .getfield 12, 4, 0), (4, .aload_n 0, 5, 0), (5, .iload_n 1, 6, 0), (6, .invokevirtual 60, 9, 0), (9, .iload_n 2, 10, 0), (10, .invokevirtual 146, 13, 0), (13, .istore_n 3, 14, 0), (14, .iload_n 3, 15, 0), (15, .ifCond .ne 13, 18, 28), (18, .new 40, 21, 0), (21, .dup, 22, 0), (22, .ldc 150, 24, 0), (24, .invokespecial 44, 27, 0), (27, .athrow, 28, 0), (28, .aload_n 0, 29, 0), (29, .getfield 12, 32, 0), (32, .iload_n 3, 33, 0), (33, .invokevirtual 152, 36, 0), (36, .lreturn, 37, 0)]
def zl_98 : List (Nat × List (Nat × Instr × Nat × Nat)) := [(37, zl_98_0)]
def zl_99_0 : List (Nat × Instr × Nat × Nat) := [(0, .iload_n 2, 1, 0), (1, .ifCond .lt 10, 4, 11), (4, .iload_n 2, 5, 0), (5, .sipush 1024, 8, 0), (8, .if_icmp .lt 5, 11, 13), (11, .iconst 0, 12, 0), (12, .ireturn, 13, 0), (13, .aload_n 0, 14, 0), (14, .iload_n 1, 15, 0), (15, .invokevirtual 44, 18, 0), (18, .istore_n 3, 19, 0), (19, .iconst 0, 20, 0), (20, .istore 4, 22, 0), (22, .iload 4, 24, 0), (24, .iload_n 2, 25, 0), (25, .if_icmp .ge 19, 28, 44), (28, .iload_n 3, 29, 0), (29, .ifCond .eq 15, 32, 44), (32, .aload_n 0, 33, 0), (33, .iload_n 3, 34, 0), (34, .invokevirtual 52, 37, 0), (37, .istore_n 3, 38, 0), (38, .iinc 4 1, 41, 0), (41, .goto (-19), 44, 22)]
def zl_99_1 : List (Nat × Instr × Nat × Nat) := [(44, .iload_n 3, 45, 0), (45, .ireturn, 46, 0)]
def zl_99 : List (Nat × List (Nat × Instr × Nat × Nat)) := [(44, zl_99_0), (46, zl_99_1)]
def zl_100_0 : List (Nat × Instr × Nat × Nat) := [(0, .aload_n 0, 1, 0), (1, .iload_n 1, 2, 0), (2, .iload_n 2, 3, 0), (3, .invokevirtual 70, 6, 0), (6, .goto 6, 9, 12), (9, .astore_n 3, 10, 0), (10, .iconst 1, 11, 0), (11, .ireturn, 12, 0), (12, .iconst 0, 13, 0), (13, .ireturn, 14, 0)]
def zl_100 : List (Nat × List (Nat × Instr × Nat × Nat)) := [(14, zl_100_0)]
def zl_101_0 : List (Nat × Instr × Nat × Nat) := [(0, .aload_n 0, 1, 0), (1, .getfield 12, 4, 0), (4, .aload_n 0, 5, 0), (5, .iload_n 1, 6, 0), (6, .iload_n 2, 7, 0), (7, .invokevirtual 156, 10, 0), (10, .iload_n 2, 11, 0), (11, .invokestatic 159, 14, 0), (14, .invokevirtual 162, 17, 0), (17, .return_, 18, 0)]
def zl_101 : List (Nat × List (Nat × Instr × Nat × Nat)) := [(18, zl_101_0)]
def zl_102_0 : List (Nat × Instr × Nat × Nat) := [(0, .aload_n 0, 1, 0), (1, .iload_n 1, 2, 0), (2, .invokevirtual 60, 5, 0), (5, .istore_n 3, 6, 0), (6, .iload_n 2, 7, 0), (7, .ifCond .lt 8, 10, 15), (10, .iload_n 2, 11, 0), (11, .iconst 2, 12, 0), (12, .if_icmp .le 13, 15, 25), (15, .new 40, 18, 0), (18, .dup, 19, 0), (19, .ldc 186, 21, 0), (21, .invokespecial 44, 24, 0), (24, .athrow, 25, 0), (25, .iload_n 3, 26, 0), (26, .ireturn, 27, 0)]
def zl_102 : List (Nat × List (Nat × Instr × Nat × Nat)) := [(27, zl_102_0)]
def zl_103_0 : List (Nat × Instr × Nat × Nat) := [(0, .iload_n 0, 1, 0), (1, .ifCond .ne 5, 4, 6), (4, .iconst 0, 5, 0), (5, .ireturn, 6, 0), (6, .iload_n 0, 7, 0), (7, .iconst 1, 8, 0), (8, .if_icmp .ne 8, 11, 16), (11, .bipush 32, 13, 0), (13, .goto 5, 16, 18), (16, .bipush 34, 18, 0), (18, .ireturn, 19, 0)]
def zl_103 : List (Nat × List (Nat × Instr × Nat × Nat)) := [(19, zl_103_0)]
def zl_104_0 : List (Nat × Instr × Nat × Nat) := [(0, .aload_n 0, 1, 0), (1, .getfield 12, 4, 0), (4, .iload_n 1, 5, 0), (5, .iconst 4, 6, 0), (6, .lconst 0, 7, 0), (7, .invokevirtual 22, 10, 0), (10, .aload_n 0, 11, 0), (11, .iload_n 1, 12, 0), (12, .invokevirtual 44, 15, 0), (15, .istore_n 3, 16, 0), (16, .iconst 0, 17, 0), (17, .istore 4, 19, 0), (19, .iload 4, 21, 0), (21, .sipush 1024, 24, 0), (24, .if_icmp .ge 38, 27, 62), (27, .iload_n 3, 28, 0), (28, .ifCond .eq 34, 31, 62), (31, .aload_n 0, 32, 0), (32, .getfield 12, 35, 0), (35, .iload_n 3, 36, 0), (36, .iconst 5, 37, 0), (37, .aload_n 0, 38, 0), (38, .iload_n 3, 39, 0), (39, .invokevirtual 62, 42, 0)]
def zl_104_1 : List (Nat × Instr × Nat × Nat) := [(42, .iload_n 2, 43, 0), (43, .iconst (-1), 44, 0), (44, .ixor, 45, 0), (45, .iand, 46, 0), (46, .i2l, 47, 0), (47, .invokevirtual 22, 50, 0), (50, .aload_n 0, 51, 0), (51, .iload_n 3, 52, 0), (52, .invokevirtual 52, 55, 0), (55, .istore_n 3, 56, 0), (56, .iinc 4 1, 59, 0), (59, .goto (-40), 62, 19), (62, .return_, 63, 0)]
def zl_104 : List (Nat × List (Nat × Instr × Nat × Nat)) := [(42, zl_104_0), (63, zl_104_1)]
def zl_105_0 : List (Nat × Instr × Nat × Nat) := [(0, .aload_n 3, 1, 0), (1, .iconst 0, 2, 0), (2, .aload_n 0, 3, 0), (3, .iload_n 1, 4, 0), (4, .iload_n 2, 5, 0), (5, .invokevirtual 73, 8, 0), (8, .ifCond .eq 7, 11, 15), (11, .lconst 1, 12, 0), (12, .goto 4, 15, 16), (15, .lconst 0, 16, 0), (16, .lastore, 17, 0), (17, .goto 7, 20, 24), (20, .astore 4, 22, 0), (22, .iconst 1, 23, 0), (23, .ireturn, 24, 0), (24, .iconst 0, 25, 0), (25, .ireturn, 26, 0)]
def zl_105 : List (Nat × List (Nat × Instr × Nat × Nat)) := [(26, zl_105_0)]
def zl_106_0 : List (Nat × Instr × Nat × Nat) := [(0, .aload_n 0, 1, 0), (1, .getfield 12, 4, 0), (4, .aload_n 0, 5, 0), (5, .iload_n 1, 6, 0), (6, .iload_n 2, 7, 0), (7, .invokevirtual 156, 10, 0), (10, .iload_n 2, 11, 0), (11, .invokestatic 159, 14, 0), (14, .invokevirtual 165, 17, 0), (17, .ireturn, 18, 0)]
def zl_106 : List (Nat × List (Nat × Instr × Nat × Nat)) := [(18, zl_106_0)]
def zl_107_0 : List (Nat × Instr × Nat × Nat) := [(0, .aload_n 0, 1, 0), (1, .iload_n 1, 2, 0), (2, .invokevirtual 65, 5, 0), (5, .ifCond .ne 7, 8, 12), (8, .iconst 1, 9, 0), (9, .goto 4, 12, 13), (12, .iconst 0, 13, 0), (13, .istore_n 3, 14, 0), (14, .aload_n 0, 15, 0), (15, .iload_n 1, 16, 0), (16, .invokevirtual 44, 19, 0), (19, .istore 4, 21, 0), (21, .iconst 0, 22, 0), (22, .istore 5, 24, 0), (24, .iload 5, 26, 0), (26, .sipush 1024, 29, 0), (29, .if_icmp .ge 42, 32, 71), (32, .iload 4, 34, 0), (34, .ifCond .eq 37, 37, 71), (37, .iload_n 3, 38, 0), (38, .ifCond .eq 17, 41, 55), (41, .aload_n 0, 42, 0), (42, .iload 4, 44, 0), (44, .iload_n 2, 45, 0)]
def zl_107_1 : List (Nat × Instr × Nat × Nat) := [(45, .invokevirtual 69, 48, 0), (48, .ifCond .ne 7, 51, 55), (51, .iconst 1, 52, 0), (52, .goto 4, 55, 56), (55, .iconst 0, 56, 0), (56, .istore_n 3, 57, 0), (57, .aload_n 0, 58, 0), (58, .iload 4, 60, 0), (60, .invokevirtual 52, 63, 0), (63, .istore 4, 65, 0), (65, .iinc 5 1, 68, 0), (68, .goto (-44), 71, 24), (71, .iload_n 3, 72, 0), (72, .ireturn, 73, 0)]
def zl_107 : List (Nat × List (Nat × Instr × Nat × Nat)) := [(45, zl_107_0), (73, zl_107_1)]
def zl_108_0 : List (Nat × Instr × Nat × Nat) := [(0, .aload_n 0, 1, 0), (1, .iload_n 1, 2, 0), (2, .iload_n 2, 3, 0), (3, .invokevirtual 76, 6, 0), (6, .goto 6, 9, 12), (9, .astore_n 3, 10, 0), (10, .iconst 1, 11, 0), (11, .ireturn, 12, 0), (12, .iconst 0, 13, 0), (13, .ireturn, 14, 0)]
def zl_108 : List (Nat × List (Nat × Instr × Nat × Nat)) := [(14, zl_108_0)]
def zl_109_0 : List (Nat × Instr × Nat × Nat) := [(0, .aload_n 0, 1, 0), (1, .iload_n 1, 2, 0), (2, .invokevirtual 60, 5, 0), (5, .istore_n 3, 6, 0), (6, .iload_n 2, 7, 0), (7, .invokestatic 28, 10, 0), (10, .aload_n 0, 11, 0), (11, .getfield 20, 14, 0), (14, .iload_n 2, 15, 0), (15, .aload_n 0, 16, 0), (16, .getfield 12, 19, 0), (19, .iload_n 3, 20, 0), (20, .invokevirtual 168, 23, 0), (23, .invokevirtual 47, 26, 0), (26, .return_, 27, 0)]
def zl_109 : List (Nat × List (Nat × Instr × Nat × Nat)) := [(27, zl_109_0)]
def zl_110_0 : List (Nat × Instr × Nat × Nat) := [(0, .aload_n 0, 1, 0), (1, .iload_n 1, 2, 0), (2, .invokevirtual 79, 5, 0), (5, .goto 6, 8, 11), (8, .astore_n 2, 9, 0), (9, .iconst 1, 10, 0), (10, .ireturn, 11, 0), (11, .iconst 0, 12, 0), (12, .ireturn, 13, 0)]
def zl_110 : List (Nat × List (Nat × Instr × Nat × Nat)) := [(13, zl_110_0)]
def zl_111_0 : List (Nat × Instr × Nat × Nat) := [(0, .iload_n 1, 1, 0), (1, .ifCond .ge 13, 4, 14), (4, .new 40, 7, 0), (7, .dup, 8, 0), (8, .ldc 171, 10, 0), (10, .invokespecial 44, 13, 0), (13, .athrow, 14, 0), (14, .aload_n 0, 15, 0), (15, .getfield 20, 18, 0), (18, .iload_n 1, 19, 0), (19, .invokevirtual 173, 22, 0), (22, .return_, 23, 0)]
def zl_111 : List (Nat × List (Nat × Instr × Nat × Nat)) := [(23, zl_111_0)]
def zl_112_0 : List (Nat × Instr × Nat × Nat) := [(0, .aload_n 0, 1, 0), (1, .iload_n 1, 2, 0), (2, .putfield 27, 5, 0), (5, .aload_n 0, 6, 0), (6, .iconst 0, 7, 0), (7, .putfield 30, 10, 0), (10, .return_, 11, 0)]
def zl_112 : List (Nat × List (Nat × Instr × Nat × Nat)) := [(11, zl_112_0)]
def zl_113_0 : List (Nat × Instr × Nat × Nat) := [(0, .aload_n 0, 1, 0), (1, .invokespecial 1, 4, 0), (4, .aload_n 0, 5, 0), (5, .bipush 24, 7, 0), (7, .newarray .int, 9, 0), (9, .putfield 9, 12, 0), (12, .aload_n 0, 13, 0), (13, .iconst 1, 14, 0), (14, .putfield 13, 17, 0), (17, .aload_n 0, 18, 0), (18, .sipush 4200, 21, 0), (21, .newarray .int, 23, 0), (23, .putfield 17, 26, 0), (26, .aload_n 0, 27, 0), (27, .sipush 4200, 30, 0), (30, .newarray .boolean, 32, 0), (32, .putfield 20, 35, 0), (35, .aload_n 0, 36, 0), (36, .sipush 4200, 39, 0), (39, .newarray .boolean, 41, 0), (41, .putfield 24, 44, 0), (44, .aload_n 0, 45, 0), (45, .sipush 8400, 48, 0), (48, .newarray .int, 50, 0)]
def zl_113_1 : List (Nat × Instr × Nat × Nat) := [(50, .putfield 27, 53, 0), (53, .aload_n 0, 54, 0), (54, .sipush 8400, 57, 0), (57, .newarray .long, 59, 0), (59, .putfield 30, 62, 0), (62, .aload_n 0, 63, 0), (63, .sipush 8400, 66, 0), (66, .newarray .int, 68, 0), (68, .putfield 34, 71, 0), (71, .aload_n 0, 72, 0), (72, .sipush 8400, 75, 0), (75, .newarray .int, 77, 0), (77, .putfield 37, 80, 0), (80, .aload_n 0, 81, 0), (81, .sipush 8400, 84, 0), (84, .newarray .int, 86, 0), (86, .putfield 40, 89, 0), (89, .aload_n 0, 90, 0), (90, .sipush 8400, 93, 0), (93, .newarray .long, 95, 0), (95, .putfield 43, 98, 0), (98, .aload_n 0, 99, 0), (99, .sipush 8400, 102, 0), (102, .newarray .int, 104, 0)]
def zl_113_2 : List (Nat × Instr × Nat × Nat) := [(104, .putfield 46, 107, 0), (107, .aload_n 0, 108, 0), (108, .sipush 8400, 111, 0), (111, .newarray .int, 113, 0), (113, .putfield 49, 116, 0), (116, .return_, 117, 0)]
def zl_113 : List (Nat × List (Nat × Instr × Nat × Nat)) := [(50, zl_113_0), (104, zl_113_1), (117, zl_113_2)]
def zl_114_0 : List (Nat × Instr × Nat × Nat) := [(0, .aload_n 0, 1, 0), (1, .getfield 52, 4, 0), (4, .ireturn, 5, 0)]
def zl_114 : List (Nat × List (Nat × Instr × Nat × Nat)) := [(5, zl_114_0)]
def zl_115_0 : List (Nat × Instr × Nat × Nat) := [(0, .aload_n 0, 1, 0), (1, .iload_n 1, 2, 0), (2, .invokestatic 61, 5, 0), (5, .ifCond .eq 20, 8, 25), (8, .iload_n 2, 9, 0), (9, .iconst (-1), 10, 0), (10, .if_icmp .eq 11, 13, 21), (13, .aload_n 0, 14, 0), (14, .iload_n 2, 15, 0), (15, .invokevirtual 94, 18, 0), (18, .ifCond .eq 7, 21, 25), (21, .iconst 1, 22, 0), (22, .goto 4, 25, 26), (25, .iconst 0, 26, 0), (26, .invokevirtual 97, 29, 0), (29, .ifCond .eq 28, 32, 57), (32, .aload_n 0, 33, 0), (33, .getfield 9, 36, 0), (36, .iload_n 1, 37, 0), (37, .aload_n 0, 38, 0), (38, .iload_n 2, 39, 0), (39, .ifCond .ge 7, 42, 46), (42, .iconst 0, 43, 0), (43, .goto 9, 46, 52)]
def zl_115_1 : List (Nat × Instr × Nat × Nat) := [(46, .aload_n 0, 47, 0), (47, .getfield 9, 50, 0), (50, .iload_n 2, 51, 0), (51, .iaload, 52, 0), (52, .iload_n 3, 53, 0), (53, .invokevirtual 101, 56, 0), (56, .iastore, 57, 0), (57, .return_, 58, 0)]
def zl_115 : List (Nat × List (Nat × Instr × Nat × Nat)) := [(46, zl_115_0), (58, zl_115_1)]
def zl_116_0 : List (Nat × Instr × Nat × Nat) := [(0, .iload_n 0, 1, 0), (1, .i2l, 2, 0), (2, .lconst 0, 3, 0), (3, .ldc2_w 55, 6, 0), (6, .invokestatic 57, 9, 0), (9, .ireturn, 10, 0)]
def zl_116 : List (Nat × List (Nat × Instr × Nat × Nat)) := [(10, zl_116_0)]
def zl_117_0 : List (Nat × Instr × Nat × Nat) := [(0, .lload_n 0, 1, 0), (1, .lload_n 2, 2, 0), (2, .lcmp, 3, 0), (3, .ifCond .lt 14, 6, 17), (6, .lload_n 0, 7, 0), (7, .lload 4, 9, 0), (9, .lcmp, 10, 0), (10, .ifCond .gt 7, 13, 17), (13, .iconst 1, 14, 0), (14, .goto 4, 17, 18), (17, .iconst 0, 18, 0), (18, .ireturn, 19, 0)]
def zl_117 : List (Nat × List (Nat × Instr × Nat × Nat)) := [(19, zl_117_0)]
def zl_118_0 : List (Nat × Instr × Nat × Nat) := [(0, .iload_n 1, 1, 0), (1, .invokestatic 61, 4, 0), (4, .ifCond .eq 16, 7, 20), (7, .aload_n 0, 8, 0), (8, .getfield 9, 11, 0), (11, .iload_n 1, 12, 0), (12, .iaload, 13, 0), (13, .ifCond .le 7, 16, 20), (16, .iconst 1, 17, 0), (17, .goto 4, 20, 21), (20, .iconst 0, 21, 0), (21, .ireturn, 22, 0)]
def zl_118 : List (Nat × List (Nat × Instr × Nat × Nat)) := [(22, zl_118_0)]
def zl_119_0 : List (Nat × Instr × Nat × Nat) := [(0, .aload_n 0, 1, 0), (1, .iload_n 1, 2, 0), (2, .ifCond .eq 7, 5, 9), (5, .iconst 0, 6, 0), (6, .goto 4, 9, 10), (9, .iconst 1, 10, 0), (10, .putfield 52, 13, 0), (13, .iload_n 1, 14, 0), (14, .ireturn, 15, 0)]
def zl_119 : List (Nat × List (Nat × Instr × Nat × Nat)) := [(15, zl_119_0)]
def zl_120_0 : List (Nat × Instr × Nat × Nat) := [(0, .aload_n 0, 1, 0), (1, .getfield 17, 4, 0), (4, .aload_n 0, 5, 0), (5, .getfield 13, 8, 0), (8, .iload_n 1, 9, 0), (9, .iastore, 10, 0), (10, .aload_n 0, 11, 0), (11, .getfield 20, 14, 0), (14, .aload_n 0, 15, 0), (15, .getfield 13, 18, 0), (18, .iload_n 2, 19, 0), (19, .bastore, 20, 0), (20, .aload_n 0, 21, 0), (21, .dup, 22, 0), (22, .getfield 13, 25, 0), (25, .iconst 1, 26, 0), (26, .iadd, 27, 0), (27, .putfield 13, 30, 0), (30, .iload_n 2, 31, 0), (31, .ifCond .eq 20, 34, 51), (34, .aload_n 0, 35, 0), (35, .aload_n 0, 36, 0), (36, .getfield 13, 39, 0), (39, .iconst 1, 40, 0)]
def zl_120_1 : List (Nat × Instr × Nat × Nat) := [(40, .isub, 41, 0), (41, .ldc2_w 80, 44, 0), (44, .iconst 2, 45, 0), (45, .iconst 4, 46, 0), (46, .lconst 0, 47, 0), (47, .invokevirtual 90, 50, 0), (50, .pop, 51, 0), (51, .aload_n 0, 52, 0), (52, .getfield 13, 55, 0), (55, .iconst 1, 56, 0), (56, .isub, 57, 0), (57, .ireturn, 58, 0)]
def zl_120 : List (Nat × List (Nat × Instr × Nat × Nat)) := [(40, zl_120_0), (58, zl_120_1)]
def zl_121_0 : List (Nat × Instr × Nat × Nat) := [(0, .iconst 0, 1, 0), (1, .istore 8, 3, 0), (3, .iload 8, 5, 0), (5, .aload_n 0, 6, 0), (6, .getfield 115, 9, 0), (9, .if_icmp .ge 19, 12, 28), (12, .aload_n 0, 13, 0), (13, .getfield 27, 16, 0), (16, .iload 8, 18, 0), (18, .iaload, 19, 0), (19, .ifCond .le 9, 22, 28), (22, .iinc 8 1, 25, 0), (25, .goto (-22), 28, 3), (28, .aload_n 0, 29, 0), (29, .iload 8, 31, 0), (31, .aload_n 0, 32, 0), (32, .getfield 115, 35, 0), (35, .if_icmp .ne 12, 38, 47), (38, .aload_n 0, 39, 0), (39, .getfield 115, 42, 0), (42, .iconst 1, 43, 0), (43, .iadd, 44, 0), (44, .goto 7, 47, 51), (47, .aload_n 0, 48, 0)]
def zl_121_1 : List (Nat × Instr × Nat × Nat) := [(48, .getfield 115, 51, 0), (51, .putfield 115, 54, 0), (54, .aload_n 0, 55, 0), (55, .getfield 27, 58, 0), (58, .iload 8, 60, 0), (60, .iload_n 1, 61, 0), (61, .iastore, 62, 0), (62, .aload_n 0, 63, 0), (63, .getfield 30, 66, 0), (66, .iload 8, 68, 0), (68, .lload_n 2, 69, 0), (69, .lastore, 70, 0), (70, .aload_n 0, 71, 0), (71, .getfield 34, 74, 0), (74, .iload 8, 76, 0), (76, .aload_n 0, 77, 0), (77, .getfield 122, 80, 0), (80, .iastore, 81, 0), (81, .aload_n 0, 82, 0), (82, .getfield 37, 85, 0), (85, .iload 8, 87, 0), (87, .iload 4, 89, 0), (89, .iastore, 90, 0), (90, .aload_n 0, 91, 0)]
def zl_121_2 : List (Nat × Instr × Nat × Nat) := [(91, .getfield 40, 94, 0), (94, .iload 8, 96, 0), (96, .iload 5, 98, 0), (98, .iastore, 99, 0), (99, .aload_n 0, 100, 0), (100, .getfield 43, 103, 0), (103, .iload 8, 105, 0), (105, .lload 6, 107, 0), (107, .lastore, 108, 0), (108, .aload_n 0, 109, 0), (109, .getfield 46, 112, 0), (112, .iload 8, 114, 0), (114, .iconst 0, 115, 0), (115, .iastore, 116, 0), (116, .aload_n 0, 117, 0), (117, .getfield 49, 120, 0), (120, .iload 8, 122, 0), (122, .iconst 0, 123, 0), (123, .iastore, 124, 0), (124, .aload_n 0, 125, 0), (125, .dup, 126, 0), (126, .getfield 122, 129, 0), (129, .iconst 1, 130, 0), (130, .iadd, 131, 0)]
def zl_121_3 : List (Nat × Instr × Nat × Nat) := [(131, .putfield 122, 134, 0), (134, .iload 8, 136, 0), (136, .ireturn, 137, 0)]
def zl_121 : List (Nat × List (Nat × Instr × Nat × Nat)) := [(48, zl_121_0), (91, zl_121_1), (131, zl_121_2), (137, zl_121_3)]
def zl_122_0 : List (Nat × Instr × Nat × Nat) := [(0, .aload_n 0, 1, 0), (1, .iload_n 1, 2, 0), (2, .invokestatic 61, 5, 0), (5, .ifCond .eq 19, 8, 24), (8, .iload_n 2, 9, 0), (9, .iconst (-1), 10, 0), (10, .if_icmp .eq 10, 13, 20), (13, .iload_n 2, 14, 0), (14, .invokestatic 61, 17, 0), (17, .ifCond .eq 7, 20, 24), (20, .iconst 1, 21, 0), (21, .goto 4, 24, 25), (24, .iconst 0, 25, 0), (25, .invokevirtual 97, 28, 0), (28, .ifCond .eq 23, 31, 51), (31, .aload_n 0, 32, 0), (32, .getfield 9, 35, 0), (35, .iload_n 1, 36, 0), (36, .iload_n 2, 37, 0), (37, .ifCond .ge 7, 40, 44), (40, .iconst 0, 41, 0), (41, .goto 9, 44, 50), (44, .aload_n 0, 45, 0), (45, .getfield 9, 48, 0)]
def zl_122_1 : List (Nat × Instr × Nat × Nat) := [(48, .iload_n 2, 49, 0), (49, .iaload, 50, 0), (50, .iastore, 51, 0), (51, .return_, 52, 0)]
def zl_122 : List (Nat × List (Nat × Instr × Nat × Nat)) := [(48, zl_122_0), (52, zl_122_1)]
def zl_123_0 : List (Nat × Instr × Nat × Nat) := [(0, .aload_n 0, 1, 0), (1, .iload_n 1, 2, 0), (2, .invokestatic 61, 5, 0), (5, .ifCond .eq 14, 8, 19), (8, .iload_n 2, 9, 0), (9, .invokestatic 61, 12, 0), (12, .ifCond .eq 7, 15, 19), (15, .iconst 1, 16, 0), (16, .goto 4, 19, 20), (19, .iconst 0, 20, 0), (20, .invokevirtual 97, 23, 0), (23, .ifCond .eq 22, 26, 45), (26, .aload_n 0, 27, 0), (27, .getfield 9, 30, 0), (30, .iload_n 1, 31, 0), (31, .iaload, 32, 0), (32, .aload_n 0, 33, 0), (33, .getfield 9, 36, 0), (36, .iload_n 2, 37, 0), (37, .iaload, 38, 0), (38, .if_icmp .ne 7, 41, 45), (41, .iconst 1, 42, 0), (42, .goto 4, 45, 46), (45, .iconst 0, 46, 0)]
def zl_123_1 : List (Nat × Instr × Nat × Nat) := [(46, .ireturn, 47, 0)]
def zl_123 : List (Nat × List (Nat × Instr × Nat × Nat)) := [(46, zl_123_0), (47, zl_123_1)]
def zl_124_0 : List (Nat × Instr × Nat × Nat) := [(0, .iload_n 1, 1, 0), (1, .i2l, 2, 0), (2, .lconst 0, 3, 0), (3, .ldc2_w 105, 6, 0), (6, .invokestatic 57, 9, 0), (9, .ifCond .eq 23, 12, 32), (12, .iload_n 1, 13, 0), (13, .iconst 5, 14, 0), (14, .if_icmp .ne 14, 17, 28), (17, .lload_n 2, 18, 0), (18, .lconst 0, 19, 0), (19, .ldc2_w 55, 22, 0), (22, .invokestatic 57, 25, 0), (25, .ifCond .eq 7, 28, 32), (28, .iconst 1, 29, 0), (29, .goto 4, 32, 33), (32, .iconst 0, 33, 0), (33, .istore 4, 35, 0), (35, .aload_n 0, 36, 0), (36, .iload 4, 38, 0), (38, .ifCond .eq 22, 41, 60), (41, .iload_n 1, 42, 0), (42, .iconst 5, 43, 0), (43, .if_icmp .ne 13, 46, 56)]
def zl_124_1 : List (Nat × Instr × Nat × Nat) := [(46, .aload_n 0, 47, 0), (47, .getfield 9, 50, 0), (50, .lload_n 2, 51, 0), (51, .l2i, 52, 0), (52, .iaload, 53, 0), (53, .ifCond .le 7, 56, 60), (56, .iconst 1, 57, 0), (57, .goto 4, 60, 61), (60, .iconst 0, 61, 0), (61, .invokevirtual 97, 64, 0), (64, .ifCond .ne 4, 67, 68), (67, .return_, 68, 0), (68, .aload_n 0, 69, 0), (69, .iload_n 1, 70, 0), (70, .putfield 107, 73, 0), (73, .lload_n 2, 74, 0), (74, .bipush 52, 76, 0), (76, .lshr, 77, 0), (77, .ldc2_w 78, 80, 0), (80, .land, 81, 0), (81, .ldc2_w 78, 84, 0), (84, .lcmp, 85, 0), (85, .ifCond .ne 16, 88, 101), (88, .lload_n 2, 89, 0)]
def zl_124_2 : List (Nat × Instr × Nat × Nat) := [(89, .bipush 12, 91, 0), (91, .lshl, 92, 0), (92, .lconst 0, 93, 0), (93, .lcmp, 94, 0), (94, .ifCond .eq 7, 97, 101), (97, .iconst 1, 98, 0), (98, .goto 4, 101, 102), (101, .iconst 0, 102, 0), (102, .istore 5, 104, 0), (104, .aload_n 0, 105, 0), (105, .iload_n 1, 106, 0), (106, .iconst 4, 107, 0), (107, .if_icmp .ne 18, 110, 125), (110, .iload 5, 112, 0), (112, .ifCond .eq 9, 115, 121), (115, .ldc2_w 110, 118, 0), (118, .goto 24, 121, 142), (121, .lload_n 2, 122, 0), (122, .goto 20, 125, 142), (125, .iload_n 1, 126, 0), (126, .iconst 5, 127, 0), (127, .if_icmp .ne 14, 130, 141), (130, .aload_n 0, 131, 0), (131, .getfield 9, 134, 0)]
def zl_124_3 : List (Nat × Instr × Nat × Nat) := [(134, .lload_n 2, 135, 0), (135, .l2i, 136, 0), (136, .iaload, 137, 0), (137, .i2l, 138, 0), (138, .goto 4, 141, 142), (141, .lconst 0, 142, 0), (142, .putfield 112, 145, 0), (145, .return_, 146, 0)]
def zl_124 : List (Nat × List (Nat × Instr × Nat × Nat)) := [(46, zl_124_0), (89, zl_124_1), (134, zl_124_2), (146, zl_124_3)]
def zl_125_0 : List (Nat × Instr × Nat × Nat) := [(0, .aload_n 0, 1, 0), (1, .iconst 0, 2, 0), (2, .putfield 52, 5, 0), (5, .aload_n 0, 6, 0), (6, .getfield 69, 9, 0), (9, .ireturn, 10, 0)]
def zl_125 : List (Nat × List (Nat × Instr × Nat × Nat)) := [(10, zl_125_0)]
def zl_126_0 : List (Nat × Instr × Nat × Nat) := [(0, .aload_n 0, 1, 0), (1, .aload_n 0, 2, 0), (2, .getfield 69, 5, 0), (5, .iconst 4, 6, 0), (6, .if_icmp .ne 7, 9, 13), (9, .iconst 1, 10, 0), (10, .goto 4, 13, 14), (13, .iconst 0, 14, 0), (14, .invokevirtual 97, 17, 0), (17, .ifCond .eq 10, 20, 27), (20, .aload_n 0, 21, 0), (21, .getfield 72, 24, 0), (24, .goto 4, 27, 28), (27, .lconst 0, 28, 0), (28, .lreturn, 29, 0)]
def zl_126 : List (Nat × List (Nat × Instr × Nat × Nat)) := [(29, zl_126_0)]
def zl_127_0 : List (Nat × Instr × Nat × Nat) := [(0, .aload_n 0, 1, 0), (1, .iload_n 1, 2, 0), (2, .invokestatic 61, 5, 0), (5, .ifCond .ne 7, 8, 12), (8, .iconst 1, 9, 0), (9, .goto 16, 12, 25), (12, .aload_n 0, 13, 0), (13, .getfield 69, 16, 0), (16, .iconst 5, 17, 0), (17, .if_icmp .ne 7, 20, 24), (20, .iconst 0, 21, 0), (21, .goto 4, 24, 25), (24, .iconst 2, 25, 0), (25, .putfield 52, 28, 0), (28, .aload_n 0, 29, 0), (29, .getfield 52, 32, 0), (32, .ifCond .ne 14, 35, 46), (35, .aload_n 0, 36, 0), (36, .getfield 9, 39, 0), (39, .iload_n 1, 40, 0), (40, .aload_n 0, 41, 0), (41, .getfield 72, 44, 0), (44, .l2i, 45, 0), (45, .iastore, 46, 0)]
def zl_127_1 : List (Nat × Instr × Nat × Nat) := [(46, .return_, 47, 0)]
def zl_127 : List (Nat × List (Nat × Instr × Nat × Nat)) := [(46, zl_127_0), (47, zl_127_1)]
def zl_128_0 : List (Nat × Instr × Nat × Nat) := [(0, .aload_n 0, 1, 0), (1, .iload_n 1, 2, 0), (2, .invokevirtual 94, 5, 0), (5, .ifCond .eq 27, 8, 32), (8, .lload_n 2, 9, 0), (9, .invokestatic 169, 12, 0), (12, .ifCond .eq 20, 15, 32), (15, .iload 4, 17, 0), (17, .i2l, 18, 0), (18, .lconst 0, 19, 0), (19, .ldc2_w 173, 22, 0), (22, .invokestatic 57, 25, 0), (25, .ifCond .eq 7, 28, 32), (28, .iconst 1, 29, 0), (29, .goto 4, 32, 33), (32, .iconst 0, 33, 0), (33, .istore 8, 35, 0), (35, .iload 8, 37, 0), (37, .ifCond .eq 22, 40, 59), (40, .iload 4, 42, 0), (42, .iconst 3, 43, 0), (43, .iand, 44, 0), (44, .ifCond .eq 11, 47, 55), (47, .iload 4, 49, 0)]
def zl_128_1 : List (Nat × Instr × Nat × Nat) := [(49, .bipush 12, 51, 0), (51, .iand, 52, 0), (52, .ifCond .ne 7, 55, 59), (55, .iconst 1, 56, 0), (56, .goto 4, 59, 60), (59, .iconst 0, 60, 0), (60, .istore 8, 62, 0), (62, .aload_n 0, 63, 0), (63, .iload 8, 65, 0), (65, .ifCond .eq 44, 68, 109), (68, .iload 4, 70, 0), (70, .iconst 4, 71, 0), (71, .invokestatic 129, 74, 0), (74, .ifCond .eq 12, 77, 86), (77, .aload_n 0, 78, 0), (78, .iload 6, 80, 0), (80, .invokevirtual 175, 83, 0), (83, .ifCond .eq 26, 86, 109), (86, .iload 4, 88, 0), (88, .bipush 8, 90, 0), (90, .invokestatic 129, 93, 0), (93, .ifCond .eq 12, 96, 105), (96, .aload_n 0, 97, 0), (97, .iload 7, 99, 0)]
def zl_128_2 : List (Nat × Instr × Nat × Nat) := [(99, .invokevirtual 175, 102, 0), (102, .ifCond .eq 7, 105, 109), (105, .iconst 1, 106, 0), (106, .goto 4, 109, 110), (109, .iconst 0, 110, 0), (110, .invokevirtual 97, 113, 0), (113, .ifCond .ne 5, 116, 118), (116, .iconst 0, 117, 0), (117, .ireturn, 118, 0), (118, .iload 4, 120, 0), (120, .iconst 4, 121, 0), (121, .invokestatic 129, 124, 0), (124, .ifCond .eq 18, 127, 142), (127, .iload 6, 129, 0), (129, .ifCond .lt 13, 132, 142), (132, .aload_n 0, 133, 0), (133, .getfield 9, 136, 0), (136, .iload 6, 138, 0), (138, .iaload, 139, 0), (139, .goto 4, 142, 143), (142, .iconst 0, 143, 0), (143, .istore 9, 145, 0), (145, .iload 4, 147, 0), (147, .bipush 8, 149, 0)]
def zl_128_3 : List (Nat × Instr × Nat × Nat) := [(149, .invokestatic 129, 152, 0), (152, .ifCond .eq 18, 155, 170), (155, .iload 7, 157, 0), (157, .ifCond .lt 13, 160, 170), (160, .aload_n 0, 161, 0), (161, .getfield 9, 164, 0), (164, .iload 7, 166, 0), (166, .iaload, 167, 0), (167, .goto 4, 170, 171), (170, .iconst 0, 171, 0), (171, .istore 10, 173, 0), (173, .aload_n 0, 174, 0), (174, .aload_n 0, 175, 0), (175, .getfield 9, 178, 0), (178, .iload_n 1, 179, 0), (179, .iaload, 180, 0), (180, .lload_n 2, 181, 0), (181, .iload 4, 183, 0), (183, .iload 5, 185, 0), (185, .aload_n 0, 186, 0), (186, .getfield 107, 189, 0), (189, .aload_n 0, 190, 0), (190, .getfield 112, 193, 0), (193, .iload 9, 195, 0)]
def zl_128_4 : List (Nat × Instr × Nat × Nat) := [(195, .sipush 4200, 198, 0), (198, .imul, 199, 0), (199, .iload 10, 201, 0), (201, .iadd, 202, 0), (202, .invokevirtual 178, 205, 0), (205, .ireturn, 206, 0)]
def zl_128 : List (Nat × List (Nat × Instr × Nat × Nat)) := [(49, zl_128_0), (99, zl_128_1), (149, zl_128_2), (195, zl_128_3), (206, zl_128_4)]
def zl_129_0 : List (Nat × Instr × Nat × Nat) := [(0, .lload_n 0, 1, 0), (1, .ldc2_w 65, 4, 0), (4, .ldc2_w 67, 7, 0), (7, .invokestatic 57, 10, 0), (10, .ireturn, 11, 0)]
def zl_129 : List (Nat × List (Nat × Instr × Nat × Nat)) := [(11, zl_129_0)]
def zl_130_0 : List (Nat × Instr × Nat × Nat) := [(0, .iload_n 0, 1, 0), (1, .iload_n 1, 2, 0), (2, .iand, 3, 0), (3, .ifCond .eq 7, 6, 10), (6, .iconst 1, 7, 0), (7, .goto 4, 10, 11), (10, .iconst 0, 11, 0), (11, .ireturn, 12, 0)]
def zl_130 : List (Nat × List (Nat × Instr × Nat × Nat)) := [(12, zl_130_0)]
def zl_131_0 : List (Nat × Instr × Nat × Nat) := [(0, .iload_n 1, 1, 0), (1, .iconst (-1), 2, 0), (2, .if_icmp .eq 11, 5, 13), (5, .aload_n 0, 6, 0), (6, .iload_n 1, 7, 0), (7, .invokevirtual 94, 10, 0), (10, .ifCond .eq 7, 13, 17), (13, .iconst 1, 14, 0), (14, .goto 4, 17, 18), (17, .iconst 0, 18, 0), (18, .ireturn, 19, 0)]
def zl_131 : List (Nat × List (Nat × Instr × Nat × Nat)) := [(19, zl_131_0)]
def zl_132_0 : List (Nat × Instr × Nat × Nat) := [(0, .aload_n 0, 1, 0), (1, .getfield 20, 4, 0), (4, .iload_n 1, 5, 0), (5, .baload, 6, 0), (6, .ifCond .eq 34, 9, 40), (9, .lload_n 2, 10, 0), (10, .ldc2_w 80, 13, 0), (13, .lcmp, 14, 0), (14, .ifCond .ne 26, 17, 40), (17, .iload 4, 19, 0), (19, .iconst 1, 20, 0), (20, .invokestatic 129, 23, 0), (23, .ifCond .eq 17, 26, 40), (26, .aload_n 0, 27, 0), (27, .iload_n 1, 28, 0), (28, .iload 4, 30, 0), (30, .iload 5, 32, 0), (32, .iload 6, 34, 0), (34, .lload 7, 36, 0), (36, .invokevirtual 165, 39, 0), (39, .ireturn, 40, 0), (40, .aload_n 0, 41, 0), (41, .getfield 20, 44, 0), (44, .iload_n 1, 45, 0)]
def zl_132_1 : List (Nat × Instr × Nat × Nat) := [(45, .baload, 46, 0), (46, .ifCond .eq 13, 49, 59), (49, .lload_n 2, 50, 0), (50, .aload_n 0, 51, 0), (51, .iload_n 1, 52, 0), (52, .invokevirtual 151, 55, 0), (55, .lcmp, 56, 0), (56, .ifCond .ge 20, 59, 76), (59, .aload_n 0, 60, 0), (60, .iload_n 1, 61, 0), (61, .lload_n 2, 62, 0), (62, .iload 4, 64, 0), (64, .iload 5, 66, 0), (66, .iload 6, 68, 0), (68, .lload 7, 70, 0), (70, .iload 9, 72, 0), (72, .invokevirtual 158, 75, 0), (75, .ireturn, 76, 0), (76, .aload_n 0, 77, 0), (77, .iload_n 1, 78, 0), (78, .ldc2_w 80, 81, 0), (81, .invokevirtual 118, 84, 0), (84, .istore 10, 86, 0), (86, .aload_n 0, 87, 0)]
def zl_132_2 : List (Nat × Instr × Nat × Nat) := [(87, .iload 10, 89, 0), (89, .iconst 2, 90, 0), (90, .invokevirtual 125, 93, 0), (93, .ifCond .ne 5, 96, 98), (96, .iconst 2, 97, 0), (97, .ireturn, 98, 0), (98, .aload_n 0, 99, 0), (99, .iload_n 1, 100, 0), (100, .lload_n 2, 101, 0), (101, .iload 4, 103, 0), (103, .iload 5, 105, 0), (105, .iload 6, 107, 0), (107, .lload 7, 109, 0), (109, .iload 9, 111, 0), (111, .invokevirtual 158, 114, 0), (114, .istore 11, 116, 0), (116, .iload 11, 118, 0), (118, .ifCond .ne 16, 121, 134), (121, .aload_n 0, 122, 0), (122, .getfield 43, 125, 0), (125, .iload 10, 127, 0), (127, .lload_n 2, 128, 0), (128, .lconst 1, 129, 0), (129, .ladd, 130, 0)]
def zl_132_3 : List (Nat × Instr × Nat × Nat) := [(130, .invokestatic 155, 133, 0), (133, .lastore, 134, 0), (134, .iload 11, 136, 0), (136, .ireturn, 137, 0)]
def zl_132 : List (Nat × List (Nat × Instr × Nat × Nat)) := [(45, zl_132_0), (87, zl_132_1), (130, zl_132_2), (137, zl_132_3)]
def zl_133_0 : List (Nat × Instr × Nat × Nat) := [(0, .iload 4, 2, 0), (2, .lload 5, 4, 0), (4, .invokestatic 147, 7, 0), (7, .lstore 7, 9, 0), (9, .lload 7, 11, 0), (11, .lconst 0, 12, 0), (12, .lcmp, 13, 0), (13, .ifCond .ge 5, 16, 18), (16, .iconst 3, 17, 0), (17, .ireturn, 18, 0), (18, .iload_n 2, 19, 0), (19, .bipush 12, 21, 0), (21, .iand, 22, 0), (22, .ifCond .ne 32, 25, 54), (25, .lload 7, 27, 0), (27, .aload_n 0, 28, 0), (28, .iload_n 1, 29, 0), (29, .invokevirtual 151, 32, 0), (32, .lcmp, 33, 0), (33, .ifCond .lt 21, 36, 54), (36, .aload_n 0, 37, 0), (37, .iload_n 1, 38, 0), (38, .ldc2_w 80, 41, 0), (41, .iload_n 2, 42, 0)]
def zl_133_1 : List (Nat × Instr × Nat × Nat) := [(42, .iload_n 3, 43, 0), (43, .iconst 4, 44, 0), (44, .lload 7, 46, 0), (46, .invokestatic 155, 49, 0), (49, .iconst 0, 50, 0), (50, .invokevirtual 158, 53, 0), (53, .ireturn, 54, 0), (54, .aload_n 0, 55, 0), (55, .iload_n 1, 56, 0), (56, .ldc2_w 80, 59, 0), (59, .invokevirtual 118, 62, 0), (62, .istore 9, 64, 0), (64, .aload_n 0, 65, 0), (65, .iload 9, 67, 0), (67, .iconst 2, 68, 0), (68, .invokevirtual 125, 71, 0), (71, .ifCond .ne 5, 74, 76), (74, .iconst 2, 75, 0), (75, .ireturn, 76, 0), (76, .iload_n 2, 77, 0), (77, .iconst 2, 78, 0), (78, .invokestatic 129, 81, 0), (81, .ifCond .eq 15, 84, 96), (84, .iload_n 3, 85, 0)]
def zl_133_2 : List (Nat × Instr × Nat × Nat) := [(85, .iconst 2, 86, 0), (86, .invokestatic 129, 89, 0), (89, .ifCond .ne 7, 92, 96), (92, .iconst 1, 93, 0), (93, .goto 4, 96, 97), (96, .iconst 0, 97, 0), (97, .istore 10, 99, 0), (99, .aload_n 0, 100, 0), (100, .iload_n 1, 101, 0), (101, .ldc2_w 80, 104, 0), (104, .iload_n 2, 105, 0), (105, .iload 10, 107, 0), (107, .ifCond .eq 9, 110, 116), (110, .iload_n 3, 111, 0), (111, .iconst 2, 112, 0), (112, .ior, 113, 0), (113, .goto 4, 116, 117), (116, .iload_n 3, 117, 0), (117, .iconst 4, 118, 0), (118, .lload 7, 120, 0), (120, .invokestatic 155, 123, 0), (123, .iconst 0, 124, 0), (124, .invokevirtual 158, 127, 0), (127, .istore 11, 129, 0)]
def zl_133_3 : List (Nat × Instr × Nat × Nat) := [(129, .iload 11, 131, 0), (131, .ifCond .le 6, 134, 137), (134, .iload 11, 136, 0), (136, .ireturn, 137, 0), (137, .aload_n 0, 138, 0), (138, .iload_n 1, 139, 0), (139, .lload 7, 141, 0), (141, .invokevirtual 162, 144, 0), (144, .istore 12, 146, 0), (146, .iload 12, 148, 0), (148, .ifCond .lt 34, 151, 182), (151, .aload_n 0, 152, 0), (152, .iload 12, 154, 0), (154, .bipush 32, 156, 0), (156, .invokevirtual 125, 159, 0), (159, .ifCond .eq 23, 162, 182), (162, .aload_n 0, 163, 0), (163, .getfield 27, 166, 0), (166, .iload 12, 168, 0), (168, .iconst 0, 169, 0), (169, .iastore, 170, 0), (170, .aload_n 0, 171, 0), (171, .iload_n 1, 172, 0), (172, .lload 7, 174, 0)]
def zl_133_4 : List (Nat × Instr × Nat × Nat) := [(174, .invokevirtual 162, 177, 0), (177, .istore 12, 179, 0), (179, .goto (-33), 182, 146), (182, .iload 12, 184, 0), (184, .ifCond .lt 22, 187, 206), (187, .aload_n 0, 188, 0), (188, .getfield 43, 191, 0), (191, .iload 9, 193, 0), (193, .aload_n 0, 194, 0), (194, .getfield 30, 197, 0), (197, .iload 12, 199, 0), (199, .laload, 200, 0), (200, .lconst 1, 201, 0), (201, .ladd, 202, 0), (202, .invokestatic 155, 205, 0), (205, .lastore, 206, 0), (206, .iload 10, 208, 0), (208, .ifCond .eq 11, 211, 219), (211, .aload_n 0, 212, 0), (212, .iload 9, 214, 0), (214, .iconst 2, 215, 0), (215, .iconst 0, 216, 0), (216, .invokevirtual 143, 219, 0), (219, .iload 12, 221, 0)]
def zl_133_5 : List (Nat × Instr × Nat × Nat) := [(221, .ifCond .lt 7, 224, 228), (224, .iconst 2, 225, 0), (225, .goto 4, 228, 229), (228, .iconst 0, 229, 0), (229, .ireturn, 230, 0)]
def zl_133 : List (Nat × List (Nat × Instr × Nat × Nat)) := [(42, zl_133_0), (85, zl_133_1), (129, zl_133_2), (174, zl_133_3), (221, zl_133_4), (230, zl_133_5)]
def zl_134_0 : List (Nat × Instr × Nat × Nat) := [(0, .iload_n 0, 1, 0), (1, .iconst 4, 2, 0), (2, .if_icmp .ne 10, 5, 12), (5, .lload_n 1, 6, 0), (6, .invokestatic 84, 9, 0), (9, .goto 25, 12, 34), (12, .iload_n 0, 13, 0), (13, .i2l, 14, 0), (14, .lconst 1, 15, 0), (15, .ldc2_w 88, 18, 0), (18, .invokestatic 57, 21, 0), (21, .ifCond .eq 10, 24, 31), (24, .iload_n 0, 25, 0), (25, .iconst 3, 26, 0), (26, .idiv, 27, 0), (27, .i2l, 28, 0), (28, .goto 6, 31, 34), (31, .ldc2_w 80, 34, 0), (34, .lreturn, 35, 0)]
def zl_134 : List (Nat × List (Nat × Instr × Nat × Nat)) := [(35, zl_134_0)]
def zl_135_0 : List (Nat × Instr × Nat × Nat) := [(0, .lload_n 0, 1, 0), (1, .bipush 52, 3, 0), (3, .lshr, 4, 0), (4, .ldc2_w 78, 7, 0), (7, .land, 8, 0), (8, .l2i, 9, 0), (9, .sipush 1023, 12, 0), (12, .isub, 13, 0), (13, .istore_n 2, 14, 0), (14, .lload_n 0, 15, 0), (15, .iconst 1, 16, 0), (16, .lshl, 17, 0), (17, .lconst 0, 18, 0), (18, .lcmp, 19, 0), (19, .ifCond .ne 5, 22, 24), (22, .lconst 0, 23, 0), (23, .lreturn, 24, 0), (24, .lload_n 0, 25, 0), (25, .lconst 0, 26, 0), (26, .lcmp, 27, 0), (27, .ifCond .lt 13, 30, 40), (30, .iload_n 2, 31, 0), (31, .ifCond .lt 9, 34, 40), (34, .iload_n 2, 35, 0)]
def zl_135_1 : List (Nat × Instr × Nat × Nat) := [(35, .bipush 31, 37, 0), (37, .if_icmp .le 7, 40, 44), (40, .ldc2_w 80, 43, 0), (43, .lreturn, 44, 0), (44, .lload_n 0, 45, 0), (45, .ldc2_w 76, 48, 0), (48, .land, 49, 0), (49, .ldc2_w 82, 52, 0), (52, .lor, 53, 0), (53, .lstore_n 3, 54, 0), (54, .lload_n 3, 55, 0), (55, .lconst 1, 56, 0), (56, .bipush 52, 58, 0), (58, .iload_n 2, 59, 0), (59, .isub, 60, 0), (60, .lshl, 61, 0), (61, .lconst 1, 62, 0), (62, .lsub, 63, 0), (63, .land, 64, 0), (64, .lconst 0, 65, 0), (65, .lcmp, 66, 0), (66, .ifCond .ne 12, 69, 78), (69, .lload_n 3, 70, 0), (70, .bipush 52, 72, 0)]
def zl_135_2 : List (Nat × Instr × Nat × Nat) := [(72, .iload_n 2, 73, 0), (73, .isub, 74, 0), (74, .lshr, 75, 0), (75, .goto 6, 78, 81), (78, .ldc2_w 80, 81, 0), (81, .lreturn, 82, 0)]
def zl_135 : List (Nat × List (Nat × Instr × Nat × Nat)) := [(35, zl_135_0), (72, zl_135_1), (82, zl_135_2)]
def zl_136_0 : List (Nat × Instr × Nat × Nat) := [(0, .aload_n 0, 1, 0), (1, .getfield 43, 4, 0), (4, .aload_n 0, 5, 0), (5, .iload_n 1, 6, 0), (6, .ldc2_w 80, 9, 0), (9, .invokevirtual 118, 12, 0), (12, .laload, 13, 0), (13, .invokestatic 84, 16, 0), (16, .lreturn, 17, 0)]
def zl_136 : List (Nat × List (Nat × Instr × Nat × Nat)) := [(17, zl_136_0)]
def zl_137_0 : List (Nat × Instr × Nat × Nat) := [(0, .iconst 0, 1, 0), (1, .istore 4, 3, 0), (3, .iload 4, 5, 0), (5, .aload_n 0, 6, 0), (6, .getfield 115, 9, 0), (9, .if_icmp .ge 35, 12, 44), (12, .aload_n 0, 13, 0), (13, .getfield 27, 16, 0), (16, .iload 4, 18, 0), (18, .iaload, 19, 0), (19, .iload_n 1, 20, 0), (20, .if_icmp .ne 18, 23, 38), (23, .aload_n 0, 24, 0), (24, .getfield 30, 27, 0), (27, .iload 4, 29, 0), (29, .laload, 30, 0), (30, .lload_n 2, 31, 0), (31, .lcmp, 32, 0), (32, .ifCond .ne 6, 35, 38), (35, .iload 4, 37, 0), (37, .ireturn, 38, 0), (38, .iinc 4 1, 41, 0), (41, .goto (-38), 44, 3), (44, .iconst (-1), 45, 0)]
def zl_137_1 : List (Nat × Instr × Nat × Nat) := [(45, .ireturn, 46, 0)]
def zl_137 : List (Nat × List (Nat × Instr × Nat × Nat)) := [(45, zl_137_0), (46, zl_137_1)]
def zl_138_0 : List (Nat × Instr × Nat × Nat) := [(0, .iconst 0, 1, 0), (1, .istore_n 2, 2, 0), (2, .lload_n 0, 3, 0), (3, .iload_n 2, 4, 0), (4, .lshr, 5, 0), (5, .lconst 1, 6, 0), (6, .lcmp, 7, 0), (7, .ifCond .le 9, 10, 16), (10, .iinc 2 1, 13, 0), (13, .goto (-11), 16, 2), (16, .lload_n 0, 17, 0), (17, .lconst 0, 18, 0), (18, .lcmp, 19, 0), (19, .ifCond .ne 7, 22, 26), (22, .lconst 0, 23, 0), (23, .goto 23, 26, 46), (26, .iload_n 2, 27, 0), (27, .sipush 1023, 30, 0), (30, .iadd, 31, 0), (31, .i2l, 32, 0), (32, .bipush 52, 34, 0), (34, .lshl, 35, 0), (35, .lload_n 0, 36, 0), (36, .bipush 52, 38, 0)]
def zl_138_1 : List (Nat × Instr × Nat × Nat) := [(38, .iload_n 2, 39, 0), (39, .isub, 40, 0), (40, .lshl, 41, 0), (41, .ldc2_w 76, 44, 0), (44, .land, 45, 0), (45, .lor, 46, 0), (46, .lreturn, 47, 0)]
def zl_138 : List (Nat × List (Nat × Instr × Nat × Nat)) := [(38, zl_138_0), (47, zl_138_1)]
def zl_139_0 : List (Nat × Instr × Nat × Nat) := [(0, .iload 9, 2, 0), (2, .sipush 4200, 5, 0), (5, .idiv, 6, 0), (6, .istore 10, 8, 0), (8, .iload 9, 10, 0), (10, .sipush 4200, 13, 0), (13, .irem, 14, 0), (14, .istore 11, 16, 0), (16, .aload_n 0, 17, 0), (17, .iload_n 1, 18, 0), (18, .lload_n 2, 19, 0), (19, .invokevirtual 118, 22, 0), (22, .istore 12, 24, 0), (24, .iload 12, 26, 0), (26, .ifCond .ge 41, 29, 67), (29, .aload_n 0, 30, 0), (30, .getfield 24, 33, 0), (33, .iload_n 1, 34, 0), (34, .baload, 35, 0), (35, .ifCond .eq 5, 38, 40), (38, .iconst 2, 39, 0), (39, .ireturn, 40, 0), (40, .aload_n 0, 41, 0), (41, .iload_n 1, 42, 0)]
def zl_139_1 : List (Nat × Instr × Nat × Nat) := [(42, .lload_n 2, 43, 0), (43, .iload 4, 45, 0), (45, .bipush 12, 47, 0), (47, .iand, 48, 0), (48, .ifCond .le 8, 51, 56), (51, .bipush 64, 53, 0), (53, .goto 4, 56, 57), (56, .iconst 0, 57, 0), (57, .iconst 0, 58, 0), (58, .lconst 0, 59, 0), (59, .invokevirtual 90, 62, 0), (62, .istore 12, 64, 0), (64, .goto 173, 67, 237), (67, .aload_n 0, 68, 0), (68, .iload 12, 70, 0), (70, .iload 4, 72, 0), (72, .iload 5, 74, 0), (74, .iload 6, 76, 0), (76, .lload 7, 78, 0), (78, .iload 10, 80, 0), (80, .iload 11, 82, 0), (82, .invokevirtual 136, 85, 0), (85, .ifCond .eq 5, 88, 90), (88, .iconst 0, 89, 0)]
def zl_139_2 : List (Nat × Instr × Nat × Nat) := [(89, .ireturn, 90, 0), (90, .aload_n 0, 91, 0), (91, .iload 12, 93, 0), (93, .bipush 32, 95, 0), (95, .invokevirtual 125, 98, 0), (98, .ifCond .ne 26, 101, 124), (101, .aload_n 0, 102, 0), (102, .iload 12, 104, 0), (104, .iload 4, 106, 0), (106, .iload 5, 108, 0), (108, .iload 6, 110, 0), (110, .lload 7, 112, 0), (112, .iload 10, 114, 0), (114, .iload 11, 116, 0), (116, .invokevirtual 140, 119, 0), (119, .ifCond .eq 5, 122, 124), (122, .iconst 2, 123, 0), (123, .ireturn, 124, 0), (124, .iload 4, 126, 0), (126, .iconst 3, 127, 0), (127, .iand, 128, 0), (128, .ifCond .le 14, 131, 142), (131, .aload_n 0, 132, 0), (132, .iload 12, 134, 0)]
def zl_139_3 : List (Nat × Instr × Nat × Nat) := [(134, .bipush 64, 136, 0), (136, .invokevirtual 125, 139, 0), (139, .ifCond .ne 22, 142, 161), (142, .iload 4, 144, 0), (144, .bipush 12, 146, 0), (146, .iand, 147, 0), (147, .ifCond .le 18, 150, 165), (150, .aload_n 0, 151, 0), (151, .iload 12, 153, 0), (153, .bipush 64, 155, 0), (155, .invokevirtual 125, 158, 0), (158, .ifCond .ne 7, 161, 165), (161, .iconst 1, 162, 0), (162, .goto 4, 165, 166), (165, .iconst 0, 166, 0), (166, .istore 13, 168, 0), (168, .iload 13, 170, 0), (170, .ifCond .eq 67, 173, 237), (173, .aload_n 0, 174, 0), (174, .iload 12, 176, 0), (176, .bipush 64, 178, 0), (178, .aload_n 0, 179, 0), (179, .iload 12, 181, 0), (181, .bipush 64, 183, 0)]
def zl_139_4 : List (Nat × Instr × Nat × Nat) := [(183, .invokevirtual 125, 186, 0), (186, .ifCond .ne 7, 189, 193), (189, .iconst 1, 190, 0), (190, .goto 4, 193, 194), (193, .iconst 0, 194, 0), (194, .invokevirtual 143, 197, 0), (197, .aload_n 0, 198, 0), (198, .iload 12, 200, 0), (200, .iconst 2, 201, 0), (201, .iconst 0, 202, 0), (202, .invokevirtual 143, 205, 0), (205, .aload_n 0, 206, 0), (206, .getfield 40, 209, 0), (209, .iload 12, 211, 0), (211, .iconst 0, 212, 0), (212, .iastore, 213, 0), (213, .aload_n 0, 214, 0), (214, .getfield 43, 217, 0), (217, .iload 12, 219, 0), (219, .lconst 0, 220, 0), (220, .lastore, 221, 0), (221, .aload_n 0, 222, 0), (222, .getfield 46, 225, 0), (225, .iload 12, 227, 0)]
def zl_139_5 : List (Nat × Instr × Nat × Nat) := [(227, .iconst 0, 228, 0), (228, .iastore, 229, 0), (229, .aload_n 0, 230, 0), (230, .getfield 49, 233, 0), (233, .iload 12, 235, 0), (235, .iconst 0, 236, 0), (236, .iastore, 237, 0), (237, .iload 4, 239, 0), (239, .iconst 1, 240, 0), (240, .invokestatic 129, 243, 0), (243, .ifCond .eq 12, 246, 255), (246, .aload_n 0, 247, 0), (247, .getfield 40, 250, 0), (250, .iload 12, 252, 0), (252, .iload 6, 254, 0), (254, .iastore, 255, 0), (255, .iload 4, 257, 0), (257, .iconst 1, 258, 0), (258, .invokestatic 129, 261, 0), (261, .ifCond .eq 12, 264, 273), (264, .aload_n 0, 265, 0), (265, .getfield 43, 268, 0), (268, .iload 12, 270, 0), (270, .lload 7, 272, 0)]
def zl_139_6 : List (Nat × Instr × Nat × Nat) := [(272, .lastore, 273, 0), (273, .iload 4, 275, 0), (275, .iconst 2, 276, 0), (276, .invokestatic 129, 279, 0), (279, .ifCond .eq 16, 282, 295), (282, .aload_n 0, 283, 0), (283, .iload 12, 285, 0), (285, .iconst 2, 286, 0), (286, .iload 5, 288, 0), (288, .iconst 2, 289, 0), (289, .invokestatic 129, 292, 0), (292, .invokevirtual 143, 295, 0), (295, .iload 4, 297, 0), (297, .bipush 16, 299, 0), (299, .invokestatic 129, 302, 0), (302, .ifCond .eq 18, 305, 320), (305, .aload_n 0, 306, 0), (306, .iload 12, 308, 0), (308, .bipush 16, 310, 0), (310, .iload 5, 312, 0), (312, .bipush 16, 314, 0), (314, .invokestatic 129, 317, 0), (317, .invokevirtual 143, 320, 0), (320, .iload 4, 322, 0)]
def zl_139_7 : List (Nat × Instr × Nat × Nat) := [(322, .bipush 32, 324, 0), (324, .invokestatic 129, 327, 0), (327, .ifCond .eq 18, 330, 345), (330, .aload_n 0, 331, 0), (331, .iload 12, 333, 0), (333, .bipush 32, 335, 0), (335, .iload 5, 337, 0), (337, .bipush 32, 339, 0), (339, .invokestatic 129, 342, 0), (342, .invokevirtual 143, 345, 0), (345, .iload 4, 347, 0), (347, .iconst 4, 348, 0), (348, .invokestatic 129, 351, 0), (351, .ifCond .eq 12, 354, 363), (354, .aload_n 0, 355, 0), (355, .getfield 46, 358, 0), (358, .iload 12, 360, 0), (360, .iload 10, 362, 0), (362, .iastore, 363, 0), (363, .iload 4, 365, 0), (365, .bipush 8, 367, 0), (367, .invokestatic 129, 370, 0), (370, .ifCond .eq 12, 373, 382), (373, .aload_n 0, 374, 0)]
def zl_139_8 : List (Nat × Instr × Nat × Nat) := [(374, .getfield 49, 377, 0), (377, .iload 12, 379, 0), (379, .iload 11, 381, 0), (381, .iastore, 382, 0), (382, .iconst 0, 383, 0), (383, .ireturn, 384, 0)]
def zl_139 : List (Nat × List (Nat × Instr × Nat × Nat)) := [(42, zl_139_0), (89, zl_139_1), (134, zl_139_2), (183, zl_139_3), (227, zl_139_4), (272, zl_139_5), (322, zl_139_6), (374, zl_139_7), (384, zl_139_8)]
def zl_140_0 : List (Nat × Instr × Nat × Nat) := [(0, .iload_n 2, 1, 0), (1, .bipush 50, 3, 0), (3, .iand, 4, 0), (4, .istore 9, 6, 0), (6, .aload_n 0, 7, 0), (7, .getfield 37, 10, 0), (10, .iload_n 1, 11, 0), (11, .iaload, 12, 0), (12, .iload_n 3, 13, 0), (13, .ixor, 14, 0), (14, .iload 9, 16, 0), (16, .iand, 17, 0), (17, .ifCond .eq 5, 20, 22), (20, .iconst 0, 21, 0), (21, .ireturn, 22, 0), (22, .iload_n 2, 23, 0), (23, .iconst 3, 24, 0), (24, .iand, 25, 0), (25, .ifCond .le 13, 28, 38), (28, .aload_n 0, 29, 0), (29, .iload_n 1, 30, 0), (30, .bipush 64, 32, 0), (32, .invokevirtual 125, 35, 0), (35, .ifCond .ne 20, 38, 55)]
def zl_140_1 : List (Nat × Instr × Nat × Nat) := [(38, .iload_n 2, 39, 0), (39, .bipush 12, 41, 0), (41, .iand, 42, 0), (42, .ifCond .le 15, 45, 57), (45, .aload_n 0, 46, 0), (46, .iload_n 1, 47, 0), (47, .bipush 64, 49, 0), (49, .invokevirtual 125, 52, 0), (52, .ifCond .ne 5, 55, 57), (55, .iconst 0, 56, 0), (56, .ireturn, 57, 0), (57, .iload_n 2, 58, 0), (58, .iconst 1, 59, 0), (59, .invokestatic 129, 62, 0), (62, .ifCond .eq 17, 65, 79), (65, .aload_n 0, 66, 0), (66, .iload_n 1, 67, 0), (67, .iload 4, 69, 0), (69, .lload 5, 71, 0), (71, .invokevirtual 132, 74, 0), (74, .ifCond .ne 5, 77, 79), (77, .iconst 0, 78, 0), (78, .ireturn, 79, 0), (79, .iload_n 2, 80, 0)]
def zl_140_2 : List (Nat × Instr × Nat × Nat) := [(80, .iconst 4, 81, 0), (81, .invokestatic 129, 84, 0), (84, .ifCond .eq 14, 87, 98), (87, .aload_n 0, 88, 0), (88, .getfield 46, 91, 0), (91, .iload_n 1, 92, 0), (92, .iaload, 93, 0), (93, .iload 7, 95, 0), (95, .if_icmp .ne 27, 98, 122), (98, .iload_n 2, 99, 0), (99, .bipush 8, 101, 0), (101, .invokestatic 129, 104, 0), (104, .ifCond .eq 14, 107, 118), (107, .aload_n 0, 108, 0), (108, .getfield 49, 111, 0), (111, .iload_n 1, 112, 0), (112, .iaload, 113, 0), (113, .iload 8, 115, 0), (115, .if_icmp .ne 7, 118, 122), (118, .iconst 1, 119, 0), (119, .goto 4, 122, 123), (122, .iconst 0, 123, 0), (123, .ireturn, 124, 0)]
def zl_140 : List (Nat × List (Nat × Instr × Nat × Nat)) := [(38, zl_140_0), (80, zl_140_1), (124, zl_140_2)]
def zl_141_0 : List (Nat × Instr × Nat × Nat) := [(0, .aload_n 0, 1, 0), (1, .getfield 37, 4, 0), (4, .iload_n 1, 5, 0), (5, .iaload, 6, 0), (6, .iload_n 2, 7, 0), (7, .iand, 8, 0), (8, .iload_n 2, 9, 0), (9, .if_icmp .ne 7, 12, 16), (12, .iconst 1, 13, 0), (13, .goto 4, 16, 17), (16, .iconst 0, 17, 0), (17, .ireturn, 18, 0)]
def zl_141 : List (Nat × List (Nat × Instr × Nat × Nat)) := [(18, zl_141_0)]
def zl_142_0 : List (Nat × Instr × Nat × Nat) := [(0, .aload_n 0, 1, 0), (1, .getfield 40, 4, 0), (4, .iload_n 1, 5, 0), (5, .iaload, 6, 0), (6, .iload_n 2, 7, 0), (7, .if_icmp .ne 18, 10, 25), (10, .aload_n 0, 11, 0), (11, .getfield 43, 14, 0), (14, .iload_n 1, 15, 0), (15, .laload, 16, 0), (16, .lload_n 3, 17, 0), (17, .lcmp, 18, 0), (18, .ifCond .ne 7, 21, 25), (21, .iconst 1, 22, 0), (22, .goto 4, 25, 26), (25, .iconst 0, 26, 0), (26, .ireturn, 27, 0)]
def zl_142 : List (Nat × List (Nat × Instr × Nat × Nat)) := [(27, zl_142_0)]
def zl_143_0 : List (Nat × Instr × Nat × Nat) := [(0, .iload_n 2, 1, 0), (1, .bipush 32, 3, 0), (3, .invokestatic 129, 6, 0), (6, .ifCond .eq 14, 9, 20), (9, .iload_n 3, 10, 0), (10, .bipush 32, 12, 0), (12, .invokestatic 129, 15, 0), (15, .ifCond .eq 5, 18, 20), (18, .iconst 1, 19, 0), (19, .ireturn, 20, 0), (20, .iload_n 2, 21, 0), (21, .bipush 16, 23, 0), (23, .invokestatic 129, 26, 0), (26, .ifCond .eq 21, 29, 47), (29, .iload_n 3, 30, 0), (30, .bipush 16, 32, 0), (32, .invokestatic 129, 35, 0), (35, .aload_n 0, 36, 0), (36, .iload_n 1, 37, 0), (37, .bipush 16, 39, 0), (39, .invokevirtual 125, 42, 0), (42, .if_icmp .eq 5, 45, 47), (45, .iconst 1, 46, 0), (46, .ireturn, 47, 0)]
def zl_143_1 : List (Nat × Instr × Nat × Nat) := [(47, .aload_n 0, 48, 0), (48, .iload_n 1, 49, 0), (49, .bipush 64, 51, 0), (51, .invokevirtual 125, 54, 0), (54, .istore 9, 56, 0), (56, .iload_n 2, 57, 0), (57, .iconst 3, 58, 0), (58, .iand, 59, 0), (59, .ifCond .le 8, 62, 67), (62, .iload 9, 64, 0), (64, .ifCond .ne 15, 67, 79), (67, .iload_n 2, 68, 0), (68, .bipush 12, 70, 0), (70, .iand, 71, 0), (71, .ifCond .le 10, 74, 81), (74, .iload 9, 76, 0), (76, .ifCond .ne 5, 79, 81), (79, .iconst 1, 80, 0), (80, .ireturn, 81, 0), (81, .iload 9, 83, 0), (83, .ifCond .eq 48, 86, 131), (86, .iload_n 2, 87, 0), (87, .iconst 4, 88, 0), (88, .invokestatic 129, 91, 0)]
def zl_143_2 : List (Nat × Instr × Nat × Nat) := [(91, .ifCond .eq 14, 94, 105), (94, .aload_n 0, 95, 0), (95, .getfield 46, 98, 0), (98, .iload_n 1, 99, 0), (99, .iaload, 100, 0), (100, .iload 7, 102, 0), (102, .if_icmp .ne 23, 105, 125), (105, .iload_n 2, 106, 0), (106, .bipush 8, 108, 0), (108, .invokestatic 129, 111, 0), (111, .ifCond .eq 18, 114, 129), (114, .aload_n 0, 115, 0), (115, .getfield 49, 118, 0), (118, .iload_n 1, 119, 0), (119, .iaload, 120, 0), (120, .iload 8, 122, 0), (122, .if_icmp .eq 7, 125, 129), (125, .iconst 1, 126, 0), (126, .goto 4, 129, 130), (129, .iconst 0, 130, 0), (130, .ireturn, 131, 0), (131, .aload_n 0, 132, 0), (132, .iload_n 1, 133, 0), (133, .iconst 2, 134, 0)]
def zl_143_3 : List (Nat × Instr × Nat × Nat) := [(134, .invokevirtual 125, 137, 0), (137, .ifCond .eq 5, 140, 142), (140, .iconst 0, 141, 0), (141, .ireturn, 142, 0), (142, .iload_n 2, 143, 0), (143, .iconst 2, 144, 0), (144, .invokestatic 129, 147, 0), (147, .ifCond .eq 11, 150, 158), (150, .iload_n 3, 151, 0), (151, .iconst 2, 152, 0), (152, .invokestatic 129, 155, 0), (155, .ifCond .ne 23, 158, 178), (158, .iload_n 2, 159, 0), (159, .iconst 1, 160, 0), (160, .invokestatic 129, 163, 0), (163, .ifCond .eq 19, 166, 182), (166, .aload_n 0, 167, 0), (167, .iload_n 1, 168, 0), (168, .iload 4, 170, 0), (170, .lload 5, 172, 0), (172, .invokevirtual 132, 175, 0), (175, .ifCond .ne 7, 178, 182), (178, .iconst 1, 179, 0), (179, .goto 4, 182, 183)]
def zl_143_4 : List (Nat × Instr × Nat × Nat) := [(182, .iconst 0, 183, 0), (183, .ireturn, 184, 0)]
def zl_143 : List (Nat × List (Nat × Instr × Nat × Nat)) := [(47, zl_143_0), (91, zl_143_1), (134, zl_143_2), (182, zl_143_3), (184, zl_143_4)]
def zl_144_0 : List (Nat × Instr × Nat × Nat) := [(0, .aload_n 0, 1, 0), (1, .getfield 37, 4, 0), (4, .iload_n 1, 5, 0), (5, .iload_n 3, 6, 0), (6, .ifCond .eq 14, 9, 20), (9, .aload_n 0, 10, 0), (10, .getfield 37, 13, 0), (13, .iload_n 1, 14, 0), (14, .iaload, 15, 0), (15, .iload_n 2, 16, 0), (16, .ior, 17, 0), (17, .goto 13, 20, 30), (20, .aload_n 0, 21, 0), (21, .getfield 37, 24, 0), (24, .iload_n 1, 25, 0), (25, .iaload, 26, 0), (26, .iload_n 2, 27, 0), (27, .iconst (-1), 28, 0), (28, .ixor, 29, 0), (29, .iand, 30, 0), (30, .iastore, 31, 0), (31, .return_, 32, 0)]
def zl_144 : List (Nat × List (Nat × Instr × Nat × Nat)) := [(32, zl_144_0)]
def zl_145_0 : List (Nat × Instr × Nat × Nat) := [(0, .iconst (-1), 1, 0), (1, .istore 4, 3, 0), (3, .iconst 0, 4, 0), (4, .istore 5, 6, 0), (6, .iload 5, 8, 0), (8, .aload_n 0, 9, 0), (9, .getfield 115, 12, 0), (12, .if_icmp .ge 59, 15, 71), (15, .aload_n 0, 16, 0), (16, .getfield 27, 19, 0), (19, .iload 5, 21, 0), (21, .iaload, 22, 0), (22, .iload_n 1, 23, 0), (23, .if_icmp .ne 42, 26, 65), (26, .aload_n 0, 27, 0), (27, .getfield 30, 30, 0), (30, .iload 5, 32, 0), (32, .laload, 33, 0), (33, .lload_n 2, 34, 0), (34, .lcmp, 35, 0), (35, .ifCond .lt 30, 38, 65), (38, .iload 4, 40, 0), (40, .ifCond .lt 21, 43, 61), (43, .aload_n 0, 44, 0)]
def zl_145_1 : List (Nat × Instr × Nat × Nat) := [(44, .getfield 30, 47, 0), (47, .iload 5, 49, 0), (49, .laload, 50, 0), (50, .aload_n 0, 51, 0), (51, .getfield 30, 54, 0), (54, .iload 4, 56, 0), (56, .laload, 57, 0), (57, .lcmp, 58, 0), (58, .ifCond .le 7, 61, 65), (61, .iload 5, 63, 0), (63, .istore 4, 65, 0), (65, .iinc 5 1, 68, 0), (68, .goto (-62), 71, 6), (71, .iload 4, 73, 0), (73, .ireturn, 74, 0)]
def zl_145 : List (Nat × List (Nat × Instr × Nat × Nat)) := [(44, zl_145_0), (74, zl_145_1)]
def zl_146_0 : List (Nat × Instr × Nat × Nat) := [(0, .aload_n 0, 1, 0), (1, .aload_n 0, 2, 0), (2, .iload_n 1, 3, 0), (3, .invokevirtual 94, 6, 0), (6, .ifCond .eq 14, 9, 20), (9, .lload_n 2, 10, 0), (10, .invokestatic 169, 13, 0), (13, .ifCond .eq 7, 16, 20), (16, .iconst 1, 17, 0), (17, .goto 4, 20, 21), (20, .iconst 0, 21, 0), (21, .invokevirtual 97, 24, 0), (24, .ifCond .ne 5, 27, 29), (27, .iconst 0, 28, 0), (28, .ireturn, 29, 0), (29, .aload_n 0, 30, 0), (30, .aload_n 0, 31, 0), (31, .getfield 9, 34, 0), (34, .iload_n 1, 35, 0), (35, .iaload, 36, 0), (36, .lload_n 2, 37, 0), (37, .invokevirtual 181, 40, 0), (40, .istore 4, 42, 0), (42, .aload_n 0, 43, 0)]
def zl_146_1 : List (Nat × Instr × Nat × Nat) := [(43, .iconst 0, 44, 0), (44, .lconst 0, 45, 0), (45, .invokevirtual 184, 48, 0), (48, .iload 4, 50, 0), (50, .ifCond .ge 5, 53, 55), (53, .iconst 0, 54, 0), (54, .ireturn, 55, 0), (55, .aload_n 0, 56, 0), (56, .iload 4, 58, 0), (58, .bipush 64, 60, 0), (60, .invokevirtual 125, 63, 0), (63, .ifCond .ne 23, 66, 86), (66, .aload_n 0, 67, 0), (67, .aload_n 0, 68, 0), (68, .getfield 40, 71, 0), (71, .iload 4, 73, 0), (73, .iaload, 74, 0), (74, .aload_n 0, 75, 0), (75, .getfield 43, 78, 0), (78, .iload 4, 80, 0), (80, .laload, 81, 0), (81, .invokevirtual 184, 84, 0), (84, .iconst 0, 85, 0), (85, .ireturn, 86, 0)]
def zl_146_2 : List (Nat × Instr × Nat × Nat) := [(86, .aload_n 0, 87, 0), (87, .getfield 46, 90, 0), (90, .iload 4, 92, 0), (92, .iaload, 93, 0), (93, .ifCond .ne 5, 96, 98), (96, .iconst 0, 97, 0), (97, .ireturn, 98, 0), (98, .aload_n 0, 99, 0), (99, .iconst 5, 100, 0), (100, .aload_n 0, 101, 0), (101, .getfield 46, 104, 0), (104, .iload 4, 106, 0), (106, .iaload, 107, 0), (107, .i2l, 108, 0), (108, .invokevirtual 184, 111, 0), (111, .iconst 1, 112, 0), (112, .ireturn, 113, 0)]
def zl_146 : List (Nat × List (Nat × Instr × Nat × Nat)) := [(43, zl_146_0), (86, zl_146_1), (113, zl_146_2)]
def zl_147_0 : List (Nat × Instr × Nat × Nat) := [(0, .iload_n 1, 1, 0), (1, .istore 4, 3, 0), (3, .aload_n 0, 4, 0), (4, .iload 4, 6, 0), (6, .lload_n 2, 7, 0), (7, .invokevirtual 118, 10, 0), (10, .istore 5, 12, 0), (12, .iload 5, 14, 0), (14, .ifCond .ge 34, 17, 48), (17, .aload_n 0, 18, 0), (18, .getfield 17, 21, 0), (21, .iload 4, 23, 0), (23, .iaload, 24, 0), (24, .ifCond .le 24, 27, 48), (27, .aload_n 0, 28, 0), (28, .getfield 17, 31, 0), (31, .iload 4, 33, 0), (33, .iaload, 34, 0), (34, .istore 4, 36, 0), (36, .aload_n 0, 37, 0), (37, .iload 4, 39, 0), (39, .lload_n 2, 40, 0), (40, .invokevirtual 118, 43, 0), (43, .istore 5, 45, 0)]
def zl_147_1 : List (Nat × Instr × Nat × Nat) := [(45, .goto (-33), 48, 12), (48, .iload 5, 50, 0), (50, .ireturn, 51, 0)]
def zl_147 : List (Nat × List (Nat × Instr × Nat × Nat)) := [(45, zl_147_0), (51, zl_147_1)]
def zl_148_0 : List (Nat × Instr × Nat × Nat) := [(0, .aload_n 0, 1, 0), (1, .iload_n 1, 2, 0), (2, .putfield 69, 5, 0), (5, .aload_n 0, 6, 0), (6, .iload_n 1, 7, 0), (7, .iconst 4, 8, 0), (8, .if_icmp .eq 8, 11, 16), (11, .iload_n 1, 12, 0), (12, .iconst 5, 13, 0), (13, .if_icmp .ne 7, 16, 20), (16, .lload_n 2, 17, 0), (17, .goto 4, 20, 21), (20, .lconst 0, 21, 0), (21, .putfield 72, 24, 0), (24, .return_, 25, 0)]
def zl_148 : List (Nat × List (Nat × Instr × Nat × Nat)) := [(25, zl_148_0)]
def zl_149_0 : List (Nat × Instr × Nat × Nat) := [(0, .aload_n 0, 1, 0), (1, .aload_n 0, 2, 0), (2, .iload_n 1, 3, 0), (3, .invokevirtual 94, 6, 0), (6, .ifCond .eq 14, 9, 20), (9, .lload_n 2, 10, 0), (10, .invokestatic 169, 13, 0), (13, .ifCond .eq 7, 16, 20), (16, .iconst 1, 17, 0), (17, .goto 4, 20, 21), (20, .iconst 0, 21, 0), (21, .invokevirtual 97, 24, 0), (24, .ifCond .ne 5, 27, 29), (27, .iconst 0, 28, 0), (28, .ireturn, 29, 0), (29, .aload_n 0, 30, 0), (30, .getfield 9, 33, 0), (33, .iload_n 1, 34, 0), (34, .iaload, 35, 0), (35, .istore 4, 37, 0), (37, .aload_n 0, 38, 0), (38, .iload 4, 40, 0), (40, .lload_n 2, 41, 0), (41, .invokevirtual 118, 44, 0)]
def zl_149_1 : List (Nat × Instr × Nat × Nat) := [(44, .istore 5, 46, 0), (46, .iload 5, 48, 0), (48, .ifCond .lt 7, 51, 55), (51, .iconst 1, 52, 0), (52, .goto 4, 55, 56), (55, .iconst 0, 56, 0), (56, .istore 6, 58, 0), (58, .iload 6, 60, 0), (60, .ifCond .eq 8, 63, 68), (63, .iload 5, 65, 0), (65, .goto 10, 68, 75), (68, .aload_n 0, 69, 0), (69, .iload 4, 71, 0), (71, .lload_n 2, 72, 0), (72, .invokevirtual 181, 75, 0), (75, .istore 5, 77, 0), (77, .aload_n 0, 78, 0), (78, .iconst 0, 79, 0), (79, .lconst 0, 80, 0), (80, .invokevirtual 184, 83, 0), (83, .iload 5, 85, 0), (85, .ifCond .lt 41, 88, 126), (88, .aload_n 0, 89, 0), (89, .iload 5, 91, 0)]
def zl_149_2 : List (Nat × Instr × Nat × Nat) := [(91, .bipush 64, 93, 0), (93, .invokevirtual 125, 96, 0), (96, .ifCond .eq 30, 99, 126), (99, .aload_n 0, 100, 0), (100, .getfield 49, 103, 0), (103, .iload 5, 105, 0), (105, .iaload, 106, 0), (106, .ifCond .ne 5, 109, 111), (109, .iconst 2, 110, 0), (110, .ireturn, 111, 0), (111, .aload_n 0, 112, 0), (112, .iconst 5, 113, 0), (113, .aload_n 0, 114, 0), (114, .getfield 49, 117, 0), (117, .iload 5, 119, 0), (119, .iaload, 120, 0), (120, .i2l, 121, 0), (121, .invokevirtual 184, 124, 0), (124, .iconst 1, 125, 0), (125, .ireturn, 126, 0), (126, .iload 5, 128, 0), (128, .ifCond .lt 13, 131, 141), (131, .aload_n 0, 132, 0), (132, .iload 5, 134, 0)]
def zl_149_3 : List (Nat × Instr × Nat × Nat) := [(134, .iconst 2, 135, 0), (135, .invokevirtual 125, 138, 0), (138, .ifCond .eq 18, 141, 156), (141, .iload 6, 143, 0), (143, .ifCond .ne 15, 146, 158), (146, .aload_n 0, 147, 0), (147, .getfield 24, 150, 0), (150, .iload 4, 152, 0), (152, .baload, 153, 0), (153, .ifCond .eq 5, 156, 158), (156, .iconst 2, 157, 0), (157, .ireturn, 158, 0), (158, .iload 6, 160, 0), (160, .ifCond .eq 22, 163, 182), (163, .aload_n 0, 164, 0), (164, .iload 4, 166, 0), (166, .lload_n 2, 167, 0), (167, .iconst 1, 168, 0), (168, .iconst 0, 169, 0), (169, .aload_n 0, 170, 0), (170, .getfield 107, 173, 0), (173, .aload_n 0, 174, 0), (174, .getfield 112, 177, 0), (177, .iconst 0, 178, 0)]
def zl_149_4 : List (Nat × Instr × Nat × Nat) := [(178, .invokevirtual 178, 181, 0), (181, .ireturn, 182, 0), (182, .aload_n 0, 183, 0), (183, .iload 4, 185, 0), (185, .lload_n 2, 186, 0), (186, .bipush 51, 188, 0), (188, .bipush 50, 190, 0), (190, .aload_n 0, 191, 0), (191, .getfield 107, 194, 0), (194, .aload_n 0, 195, 0), (195, .getfield 112, 198, 0), (198, .iconst 0, 199, 0), (199, .invokevirtual 178, 202, 0), (202, .ireturn, 203, 0)]
def zl_149 : List (Nat × List (Nat × Instr × Nat × Nat)) := [(44, zl_149_0), (91, zl_149_1), (134, zl_149_2), (178, zl_149_3), (203, zl_149_4)]
def zl_150_0 : List (Nat × Instr × Nat × Nat) := [(0, .aload_n 0, 1, 0), (1, .aload_n 0, 2, 0), (2, .iload_n 1, 3, 0), (3, .invokevirtual 94, 6, 0), (6, .ifCond .eq 14, 9, 20), (9, .lload_n 2, 10, 0), (10, .invokestatic 169, 13, 0), (13, .ifCond .eq 7, 16, 20), (16, .iconst 1, 17, 0), (17, .goto 4, 20, 21), (20, .iconst 0, 21, 0), (21, .invokevirtual 97, 24, 0), (24, .ifCond .ne 5, 27, 29), (27, .iconst 0, 28, 0), (28, .ireturn, 29, 0), (29, .aload_n 0, 30, 0), (30, .aload_n 0, 31, 0), (31, .getfield 9, 34, 0), (34, .iload_n 1, 35, 0), (35, .iaload, 36, 0), (36, .lload_n 2, 37, 0), (37, .invokevirtual 118, 40, 0), (40, .istore 4, 42, 0), (42, .aload_n 0, 43, 0)]
def zl_150_1 : List (Nat × Instr × Nat × Nat) := [(43, .iconst 0, 44, 0), (44, .lconst 0, 45, 0), (45, .invokevirtual 184, 48, 0), (48, .iload 4, 50, 0), (50, .ifCond .ge 5, 53, 55), (53, .iconst (-1), 54, 0), (54, .ireturn, 55, 0), (55, .aload_n 0, 56, 0), (56, .iload 4, 58, 0), (58, .bipush 64, 60, 0), (60, .invokevirtual 125, 63, 0), (63, .ifCond .ne 24, 66, 87), (66, .aload_n 0, 67, 0), (67, .aload_n 0, 68, 0), (68, .getfield 40, 71, 0), (71, .iload 4, 73, 0), (73, .iaload, 74, 0), (74, .aload_n 0, 75, 0), (75, .getfield 43, 78, 0), (78, .iload 4, 80, 0), (80, .laload, 81, 0), (81, .invokevirtual 184, 84, 0), (84, .goto 26, 87, 110), (87, .aload_n 0, 88, 0)]
def zl_150_2 : List (Nat × Instr × Nat × Nat) := [(88, .getfield 46, 91, 0), (91, .iload 4, 93, 0), (93, .iaload, 94, 0), (94, .ifCond .le 16, 97, 110), (97, .aload_n 0, 98, 0), (98, .iconst 5, 99, 0), (99, .aload_n 0, 100, 0), (100, .getfield 46, 103, 0), (103, .iload 4, 105, 0), (105, .iaload, 106, 0), (106, .i2l, 107, 0), (107, .invokevirtual 184, 110, 0), (110, .aload_n 0, 111, 0), (111, .getfield 37, 114, 0), (114, .iload 4, 116, 0), (116, .iaload, 117, 0), (117, .ireturn, 118, 0)]
def zl_150 : List (Nat × List (Nat × Instr × Nat × Nat)) := [(43, zl_150_0), (88, zl_150_1), (118, zl_150_2)]
def zl_151_0 : List (Nat × Instr × Nat × Nat) := [(0, .aload_n 0, 1, 0), (1, .aload_n 0, 2, 0), (2, .iload_n 1, 3, 0), (3, .invokevirtual 94, 6, 0), (6, .ifCond .eq 22, 9, 28), (9, .lload_n 2, 10, 0), (10, .invokestatic 169, 13, 0), (13, .ifCond .eq 15, 16, 28), (16, .iload 4, 18, 0), (18, .invokestatic 61, 21, 0), (21, .ifCond .eq 7, 24, 28), (24, .iconst 1, 25, 0), (25, .goto 4, 28, 29), (28, .iconst 0, 29, 0), (29, .invokevirtual 97, 32, 0), (32, .ifCond .ne 5, 35, 37), (35, .iconst 0, 36, 0), (36, .ireturn, 37, 0), (37, .aload_n 0, 38, 0), (38, .aload_n 0, 39, 0), (39, .getfield 9, 42, 0), (42, .iload_n 1, 43, 0), (43, .iaload, 44, 0), (44, .lload_n 2, 45, 0)]
def zl_151_1 : List (Nat × Instr × Nat × Nat) := [(45, .invokevirtual 118, 48, 0), (48, .istore 5, 50, 0), (50, .iload 5, 52, 0), (52, .ifCond .lt 13, 55, 65), (55, .aload_n 0, 56, 0), (56, .getfield 49, 59, 0), (59, .iload 5, 61, 0), (61, .iaload, 62, 0), (62, .ifCond .ne 5, 65, 67), (65, .iconst 0, 66, 0), (66, .ireturn, 67, 0), (67, .aload_n 0, 68, 0), (68, .getfield 9, 71, 0), (71, .iload 4, 73, 0), (73, .aload_n 0, 74, 0), (74, .getfield 49, 77, 0), (77, .iload 5, 79, 0), (79, .iaload, 80, 0), (80, .iastore, 81, 0), (81, .iconst 1, 82, 0), (82, .ireturn, 83, 0)]
def zl_151 : List (Nat × List (Nat × Instr × Nat × Nat)) := [(45, zl_151_0), (83, zl_151_1)]
def zl_152_0 : List (Nat × Instr × Nat × Nat) := [(0, .aload_n 0, 1, 0), (1, .aload_n 0, 2, 0), (2, .iload_n 1, 3, 0), (3, .invokevirtual 94, 6, 0), (6, .ifCond .eq 14, 9, 20), (9, .lload_n 2, 10, 0), (10, .invokestatic 169, 13, 0), (13, .ifCond .eq 7, 16, 20), (16, .iconst 1, 17, 0), (17, .goto 4, 20, 21), (20, .iconst 0, 21, 0), (21, .invokevirtual 97, 24, 0), (24, .ifCond .eq 21, 27, 45), (27, .aload_n 0, 28, 0), (28, .aload_n 0, 29, 0), (29, .getfield 9, 32, 0), (32, .iload_n 1, 33, 0), (33, .iaload, 34, 0), (34, .lload_n 2, 35, 0), (35, .invokevirtual 181, 38, 0), (38, .ifCond .lt 7, 41, 45), (41, .iconst 1, 42, 0), (42, .goto 4, 45, 46), (45, .iconst 0, 46, 0)]
def zl_152_1 : List (Nat × Instr × Nat × Nat) := [(46, .ireturn, 47, 0)]
def zl_152 : List (Nat × List (Nat × Instr × Nat × Nat)) := [(46, zl_152_0), (47, zl_152_1)]
def zl_153_0 : List (Nat × Instr × Nat × Nat) := [(0, .aload_n 0, 1, 0), (1, .aload_n 0, 2, 0), (2, .iload_n 1, 3, 0), (3, .invokevirtual 94, 6, 0), (6, .ifCond .eq 14, 9, 20), (9, .lload_n 2, 10, 0), (10, .invokestatic 169, 13, 0), (13, .ifCond .eq 7, 16, 20), (16, .iconst 1, 17, 0), (17, .goto 4, 20, 21), (20, .iconst 0, 21, 0), (21, .invokevirtual 97, 24, 0), (24, .ifCond .ne 5, 27, 29), (27, .iconst 0, 28, 0), (28, .ireturn, 29, 0), (29, .aload_n 0, 30, 0), (30, .aload_n 0, 31, 0), (31, .getfield 9, 34, 0), (34, .iload_n 1, 35, 0), (35, .iaload, 36, 0), (36, .lload_n 2, 37, 0), (37, .invokevirtual 118, 40, 0), (40, .istore 4, 42, 0), (42, .iload 4, 44, 0)]
def zl_153_1 : List (Nat × Instr × Nat × Nat) := [(44, .ifCond .ge 5, 47, 49), (47, .iconst 1, 48, 0), (48, .ireturn, 49, 0), (49, .aload_n 0, 50, 0), (50, .iload 4, 52, 0), (52, .bipush 32, 54, 0), (54, .invokevirtual 125, 57, 0), (57, .ifCond .ne 5, 60, 62), (60, .iconst 0, 61, 0), (61, .ireturn, 62, 0), (62, .aload_n 0, 63, 0), (63, .getfield 27, 66, 0), (66, .iload 4, 68, 0), (68, .iconst 0, 69, 0), (69, .iastore, 70, 0), (70, .iconst 1, 71, 0), (71, .ireturn, 72, 0)]
def zl_153 : List (Nat × List (Nat × Instr × Nat × Nat)) := [(44, zl_153_0), (72, zl_153_1)]
def zl_154_0 : List (Nat × Instr × Nat × Nat) := [(0, .aload_n 0, 1, 0), (1, .aload_n 0, 2, 0), (2, .iload_n 1, 3, 0), (3, .invokevirtual 94, 6, 0), (6, .invokevirtual 97, 9, 0), (9, .ifCond .eq 16, 12, 25), (12, .aload_n 0, 13, 0), (13, .aload_n 0, 14, 0), (14, .getfield 9, 17, 0), (17, .iload_n 1, 18, 0), (18, .iaload, 19, 0), (19, .invokevirtual 188, 22, 0), (22, .goto 4, 25, 26), (25, .iconst 0, 26, 0), (26, .ireturn, 27, 0)]
def zl_154 : List (Nat × List (Nat × Instr × Nat × Nat)) := [(27, zl_154_0)]
def zl_155_0 : List (Nat × Instr × Nat × Nat) := [(0, .iconst 0, 1, 0), (1, .istore_n 2, 2, 0), (2, .iconst 0, 3, 0), (3, .istore_n 3, 4, 0), (4, .iload_n 3, 5, 0), (5, .aload_n 0, 6, 0), (6, .getfield 115, 9, 0), (9, .if_icmp .ge 27, 12, 36), (12, .aload_n 0, 13, 0), (13, .getfield 27, 16, 0), (16, .iload_n 3, 17, 0), (17, .iaload, 18, 0), (18, .iload_n 1, 19, 0), (19, .if_icmp .ne 9, 22, 28), (22, .iload_n 2, 23, 0), (23, .iconst 1, 24, 0), (24, .iadd, 25, 0), (25, .goto 4, 28, 29), (28, .iload_n 2, 29, 0), (29, .istore_n 2, 30, 0), (30, .iinc 3 1, 33, 0), (33, .goto (-29), 36, 4), (36, .iload_n 2, 37, 0), (37, .ireturn, 38, 0)]
def zl_155 : List (Nat × List (Nat × Instr × Nat × Nat)) := [(38, zl_155_0)]
def zl_156_0 : List (Nat × Instr × Nat × Nat) := [(0, .aload_n 0, 1, 0), (1, .aload_n 0, 2, 0), (2, .iload_n 1, 3, 0), (3, .invokevirtual 94, 6, 0), (6, .ifCond .eq 41, 9, 47), (9, .iload_n 2, 10, 0), (10, .i2l, 11, 0), (11, .lconst 0, 12, 0), (12, .aload_n 0, 13, 0), (13, .aload_n 0, 14, 0), (14, .iload_n 1, 15, 0), (15, .invokevirtual 94, 18, 0), (18, .ifCond .eq 12, 21, 30), (21, .aload_n 0, 22, 0), (22, .getfield 9, 25, 0), (25, .iload_n 1, 26, 0), (26, .iaload, 27, 0), (27, .goto 4, 30, 31), (30, .iconst 0, 31, 0), (31, .invokevirtual 188, 34, 0), (34, .iconst 1, 35, 0), (35, .isub, 36, 0), (36, .i2l, 37, 0), (37, .invokestatic 57, 40, 0)]
def zl_156_1 : List (Nat × Instr × Nat × Nat) := [(40, .ifCond .eq 7, 43, 47), (43, .iconst 1, 44, 0), (44, .goto 4, 47, 48), (47, .iconst 0, 48, 0), (48, .invokevirtual 97, 51, 0), (51, .ifCond .ne 5, 54, 56), (54, .lconst 0, 55, 0), (55, .lreturn, 56, 0), (56, .aload_n 0, 57, 0), (57, .getfield 9, 60, 0), (60, .iload_n 1, 61, 0), (61, .iaload, 62, 0), (62, .istore_n 3, 63, 0), (63, .lconst 0, 64, 0), (64, .lstore 4, 66, 0), (66, .iconst 0, 67, 0), (67, .istore 6, 69, 0), (69, .iload 6, 71, 0), (71, .aload_n 0, 72, 0), (72, .getfield 115, 75, 0), (75, .if_icmp .ge 105, 78, 180), (78, .iconst 0, 79, 0), (79, .istore 7, 81, 0), (81, .iconst 0, 82, 0)]
def zl_156_2 : List (Nat × Instr × Nat × Nat) := [(82, .istore 8, 84, 0), (84, .iload 8, 86, 0), (86, .aload_n 0, 87, 0), (87, .getfield 115, 90, 0), (90, .if_icmp .ge 53, 93, 143), (93, .aload_n 0, 94, 0), (94, .getfield 27, 97, 0), (97, .iload 6, 99, 0), (99, .iaload, 100, 0), (100, .iload_n 3, 101, 0), (101, .if_icmp .ne 42, 104, 143), (104, .aload_n 0, 105, 0), (105, .getfield 27, 108, 0), (108, .iload 8, 110, 0), (110, .iaload, 111, 0), (111, .iload_n 3, 112, 0), (112, .if_icmp .ne 21, 115, 133), (115, .aload_n 0, 116, 0), (116, .iload 8, 118, 0), (118, .iload 6, 120, 0), (120, .invokevirtual 192, 123, 0), (123, .ifCond .eq 10, 126, 133), (126, .iload 7, 128, 0), (128, .iconst 1, 129, 0)]
def zl_156_3 : List (Nat × Instr × Nat × Nat) := [(129, .iadd, 130, 0), (130, .goto 5, 133, 135), (133, .iload 7, 135, 0), (135, .istore 7, 137, 0), (137, .iinc 8 1, 140, 0), (140, .goto (-56), 143, 84), (143, .aload_n 0, 144, 0), (144, .getfield 27, 147, 0), (147, .iload 6, 149, 0), (149, .iaload, 150, 0), (150, .iload_n 3, 151, 0), (151, .if_icmp .ne 19, 154, 170), (154, .iload 7, 156, 0), (156, .iload_n 2, 157, 0), (157, .if_icmp .ne 13, 160, 170), (160, .aload_n 0, 161, 0), (161, .getfield 30, 164, 0), (164, .iload 6, 166, 0), (166, .laload, 167, 0), (167, .goto 5, 170, 172), (170, .lload 4, 172, 0), (172, .lstore 4, 174, 0), (174, .iinc 6 1, 177, 0), (177, .goto (-108), 180, 69)]
def zl_156_4 : List (Nat × Instr × Nat × Nat) := [(180, .lload 4, 182, 0), (182, .lreturn, 183, 0)]
def zl_156 : List (Nat × List (Nat × Instr × Nat × Nat)) := [(40, zl_156_0), (82, zl_156_1), (129, zl_156_2), (180, zl_156_3), (183, zl_156_4)]
def zl_157_0 : List (Nat × Instr × Nat × Nat) := [(0, .aload_n 0, 1, 0), (1, .getfield 30, 4, 0), (4, .iload_n 1, 5, 0), (5, .laload, 6, 0), (6, .lconst 0, 7, 0), (7, .lcmp, 8, 0), (8, .ifCond .lt 36, 11, 44), (11, .aload_n 0, 12, 0), (12, .getfield 30, 15, 0), (15, .iload_n 2, 16, 0), (16, .laload, 17, 0), (17, .lconst 0, 18, 0), (18, .lcmp, 19, 0), (19, .ifCond .lt 25, 22, 44), (22, .aload_n 0, 23, 0), (23, .getfield 30, 26, 0), (26, .iload_n 1, 27, 0), (27, .laload, 28, 0), (28, .aload_n 0, 29, 0), (29, .getfield 30, 32, 0), (32, .iload_n 2, 33, 0), (33, .laload, 34, 0), (34, .lcmp, 35, 0), (35, .ifCond .ge 7, 38, 42)]
def zl_157_1 : List (Nat × Instr × Nat × Nat) := [(38, .iconst 1, 39, 0), (39, .goto 4, 42, 43), (42, .iconst 0, 43, 0), (43, .ireturn, 44, 0), (44, .aload_n 0, 45, 0), (45, .getfield 30, 48, 0), (48, .iload_n 1, 49, 0), (49, .laload, 50, 0), (50, .lconst 0, 51, 0), (51, .lcmp, 52, 0), (52, .ifCond .ge 29, 55, 81), (55, .aload_n 0, 56, 0), (56, .getfield 30, 59, 0), (59, .iload_n 2, 60, 0), (60, .laload, 61, 0), (61, .lconst 0, 62, 0), (62, .lcmp, 63, 0), (63, .ifCond .ge 22, 66, 85), (66, .aload_n 0, 67, 0), (67, .getfield 34, 70, 0), (70, .iload_n 1, 71, 0), (71, .iaload, 72, 0), (72, .aload_n 0, 73, 0), (73, .getfield 34, 76, 0)]
def zl_157_2 : List (Nat × Instr × Nat × Nat) := [(76, .iload_n 2, 77, 0), (77, .iaload, 78, 0), (78, .if_icmp .ge 7, 81, 85), (81, .iconst 1, 82, 0), (82, .goto 4, 85, 86), (85, .iconst 0, 86, 0), (86, .ireturn, 87, 0)]
def zl_157 : List (Nat × List (Nat × Instr × Nat × Nat)) := [(38, zl_157_0), (76, zl_157_1), (87, zl_157_2)]
def zl_158_0 : List (Nat × Instr × Nat × Nat) := [(0, .aload_n 0, 1, 0), (1, .aload_n 0, 2, 0), (2, .iload_n 1, 3, 0), (3, .invokevirtual 94, 6, 0), (6, .ifCond .eq 19, 9, 25), (9, .iload_n 2, 10, 0), (10, .i2l, 11, 0), (11, .lconst 0, 12, 0), (12, .ldc2_w 195, 15, 0), (15, .invokestatic 57, 18, 0), (18, .ifCond .eq 7, 21, 25), (21, .iconst 1, 22, 0), (22, .goto 4, 25, 26), (25, .iconst 0, 26, 0), (26, .invokevirtual 97, 29, 0), (29, .ifCond .ne 4, 32, 33), (32, .return_, 33, 0), (33, .aload_n 0, 34, 0), (34, .getfield 24, 37, 0), (37, .aload_n 0, 38, 0), (38, .getfield 9, 41, 0), (41, .iload_n 1, 42, 0), (42, .iaload, 43, 0), (43, .iconst 1, 44, 0)]
def zl_158_1 : List (Nat × Instr × Nat × Nat) := [(44, .bastore, 45, 0), (45, .iconst 0, 46, 0), (46, .istore_n 3, 47, 0), (47, .iload_n 3, 48, 0), (48, .aload_n 0, 49, 0), (49, .getfield 115, 52, 0), (52, .if_icmp .ge 61, 55, 113), (55, .aload_n 0, 56, 0), (56, .getfield 27, 59, 0), (59, .iload_n 3, 60, 0), (60, .iaload, 61, 0), (61, .aload_n 0, 62, 0), (62, .getfield 9, 65, 0), (65, .iload_n 1, 66, 0), (66, .iaload, 67, 0), (67, .if_icmp .eq 6, 70, 73), (70, .goto 37, 73, 107), (73, .iload_n 2, 74, 0), (74, .ifCond .le 11, 77, 85), (77, .aload_n 0, 78, 0), (78, .iload_n 3, 79, 0), (79, .bipush 32, 81, 0), (81, .iconst 0, 82, 0), (82, .invokevirtual 143, 85, 0)]
def zl_158_2 : List (Nat × Instr × Nat × Nat) := [(85, .iload_n 2, 86, 0), (86, .iconst 1, 87, 0), (87, .if_icmp .le 20, 90, 107), (90, .aload_n 0, 91, 0), (91, .iload_n 3, 92, 0), (92, .bipush 64, 94, 0), (94, .invokevirtual 125, 97, 0), (97, .ifCond .ne 10, 100, 107), (100, .aload_n 0, 101, 0), (101, .iload_n 3, 102, 0), (102, .iconst 2, 103, 0), (103, .iconst 0, 104, 0), (104, .invokevirtual 143, 107, 0), (107, .iinc 3 1, 110, 0), (110, .goto (-63), 113, 47), (113, .return_, 114, 0)]
def zl_158 : List (Nat × List (Nat × Instr × Nat × Nat)) := [(44, zl_158_0), (85, zl_158_1), (114, zl_158_2)]
def zl_159_0 : List (Nat × Instr × Nat × Nat) := [(0, .aload_n 0, 1, 0), (1, .aload_n 0, 2, 0), (2, .iload_n 1, 3, 0), (3, .invokevirtual 94, 6, 0), (6, .ifCond .eq 19, 9, 25), (9, .iload_n 2, 10, 0), (10, .i2l, 11, 0), (11, .lconst 0, 12, 0), (12, .ldc2_w 195, 15, 0), (15, .invokestatic 57, 18, 0), (18, .ifCond .eq 7, 21, 25), (21, .iconst 1, 22, 0), (22, .goto 4, 25, 26), (25, .iconst 0, 26, 0), (26, .invokevirtual 97, 29, 0), (29, .ifCond .ne 5, 32, 34), (32, .iconst 0, 33, 0), (33, .ireturn, 34, 0), (34, .aload_n 0, 35, 0), (35, .getfield 24, 38, 0), (38, .aload_n 0, 39, 0), (39, .getfield 9, 42, 0), (42, .iload_n 1, 43, 0), (43, .iaload, 44, 0)]
def zl_159_1 : List (Nat × Instr × Nat × Nat) := [(44, .baload, 45, 0), (45, .istore_n 3, 46, 0), (46, .iconst 0, 47, 0), (47, .istore 4, 49, 0), (49, .iload 4, 51, 0), (51, .aload_n 0, 52, 0), (52, .getfield 115, 55, 0), (55, .if_icmp .ge 103, 58, 158), (58, .aload_n 0, 59, 0), (59, .getfield 27, 62, 0), (62, .iload 4, 64, 0), (64, .iaload, 65, 0), (65, .aload_n 0, 66, 0), (66, .getfield 9, 69, 0), (69, .iload_n 1, 70, 0), (70, .iaload, 71, 0), (71, .if_icmp .ne 7, 74, 78), (74, .iconst 1, 75, 0), (75, .goto 4, 78, 79), (78, .iconst 0, 79, 0), (79, .istore 5, 81, 0), (81, .iload_n 3, 82, 0), (82, .ifCond .eq 27, 85, 109), (85, .iload 5, 87, 0)]
def zl_159_2 : List (Nat × Instr × Nat × Nat) := [(87, .ifCond .eq 18, 90, 105), (90, .iload_n 2, 91, 0), (91, .ifCond .eq 14, 94, 105), (94, .aload_n 0, 95, 0), (95, .iload 4, 97, 0), (97, .bipush 32, 99, 0), (99, .invokevirtual 125, 102, 0), (102, .ifCond .ne 7, 105, 109), (105, .iconst 1, 106, 0), (106, .goto 4, 109, 110), (109, .iconst 0, 110, 0), (110, .istore_n 3, 111, 0), (111, .iload_n 3, 112, 0), (112, .ifCond .eq 38, 115, 150), (115, .iload 5, 117, 0), (117, .ifCond .eq 29, 120, 146), (120, .iload_n 2, 121, 0), (121, .iconst 2, 122, 0), (122, .if_icmp .lt 24, 125, 146), (125, .aload_n 0, 126, 0), (126, .iload 4, 128, 0), (128, .bipush 64, 130, 0), (130, .invokevirtual 125, 133, 0), (133, .ifCond .ne 13, 136, 146)]
def zl_159_3 : List (Nat × Instr × Nat × Nat) := [(136, .aload_n 0, 137, 0), (137, .iload 4, 139, 0), (139, .iconst 2, 140, 0), (140, .invokevirtual 125, 143, 0), (143, .ifCond .ne 7, 146, 150), (146, .iconst 1, 147, 0), (147, .goto 4, 150, 151), (150, .iconst 0, 151, 0), (151, .istore_n 3, 152, 0), (152, .iinc 4 1, 155, 0), (155, .goto (-106), 158, 49), (158, .iload_n 3, 159, 0), (159, .ireturn, 160, 0)]
def zl_159 : List (Nat × List (Nat × Instr × Nat × Nat)) := [(44, zl_159_0), (87, zl_159_1), (136, zl_159_2), (160, zl_159_3)]
def zl_160_0 : List (Nat × Instr × Nat × Nat) := [(0, .aload_n 0, 1, 0), (1, .aload_n 0, 2, 0), (2, .iload_n 1, 3, 0), (3, .invokevirtual 94, 6, 0), (6, .ifCond .eq 14, 9, 20), (9, .iload_n 2, 10, 0), (10, .invokestatic 61, 13, 0), (13, .ifCond .eq 7, 16, 20), (16, .iconst 1, 17, 0), (17, .goto 4, 20, 21), (20, .iconst 0, 21, 0), (21, .invokevirtual 97, 24, 0), (24, .ifCond .eq 20, 27, 44), (27, .aload_n 0, 28, 0), (28, .getfield 9, 31, 0), (31, .iload_n 2, 32, 0), (32, .aload_n 0, 33, 0), (33, .getfield 17, 36, 0), (36, .aload_n 0, 37, 0), (37, .getfield 9, 40, 0), (40, .iload_n 1, 41, 0), (41, .iaload, 42, 0), (42, .iaload, 43, 0), (43, .iastore, 44, 0)]
def zl_160_1 : List (Nat × Instr × Nat × Nat) := [(44, .return_, 45, 0)]
def zl_160 : List (Nat × List (Nat × Instr × Nat × Nat)) := [(44, zl_160_0), (45, zl_160_1)]
def zl_161_0 : List (Nat × Instr × Nat × Nat) := [(0, .aload_n 0, 1, 0), (1, .iload_n 1, 2, 0), (2, .ifCond .lt 7, 5, 9), (5, .iconst 0, 6, 0), (6, .goto 4, 9, 10), (9, .iconst 1, 10, 0), (10, .putfield 52, 13, 0), (13, .return_, 14, 0)]
def zl_161 : List (Nat × List (Nat × Instr × Nat × Nat)) := [(14, zl_161_0)]
def zl_162_0 : List (Nat × Instr × Nat × Nat) := [(0, .new 8, 3, 0), (3, .dup, 4, 0), (4, .invokespecial 82, 7, 0), (7, .astore_n 1, 8, 0), (8, .new 83, 11, 0), (11, .dup, 12, 0), (12, .invokespecial 85, 15, 0), (15, .astore_n 2, 16, 0), (16, .iconst 1, 17, 0), (17, .newarray .long, 19, 0), (19, .astore_n 3, 20, 0), (20, .iconst 0, 21, 0), (21, .istore 4, 23, 0), (23, .iload 4, 25, 0), (25, .aload_n 0, 26, 0), (26, .arraylength, 27, 0), (27, .bipush 8, 29, 0), (29, .isub, 30, 0), (30, .if_icmp .gt 1598, 33, 1628), (33, .aload_n 0, 34, 0), (34, .iload 4, 36, 0), (36, .iaload, 37, 0), (37, .bipush 31, 39, 0), (39, .iand, 40, 0)]
def zl_162_1 : List (Nat × Instr × Nat × Nat) := [(40, .tableswitch 1582 0 19 #[96, 172, 220, 295, 375, 388, 431, 467, 567, 667, 819, 919, 1038, 1145, 1252, 1308, 1375, 1423, 1498, 1546], 136, 0), (136, .aload_n 1, 137, 0), (137, .aload_n 0, 138, 0), (138, .iload 4, 140, 0), (140, .iconst 1, 141, 0), (141, .iadd, 142, 0), (142, .iaload, 143, 0), (143, .aload_n 0, 144, 0), (144, .iload 4, 146, 0), (146, .iconst 2, 147, 0), (147, .iadd, 148, 0), (148, .iaload, 149, 0), (149, .aload_n 0, 150, 0), (150, .iload 4, 152, 0), (152, .iconst 3, 153, 0), (153, .iadd, 154, 0), (154, .iaload, 155, 0), (155, .ifCond .eq 7, 158, 162), (158, .iconst 1, 159, 0), (159, .goto 4, 162, 163), (162, .iconst 0, 163, 0), (163, .invokestatic 86, 166, 0), (166, .istore 5, 168, 0), (168, .aload_n 2, 169, 0)]
def zl_162_2 : List (Nat × Instr × Nat × Nat) := [(169, .aload_n 0, 170, 0), (170, .iload 4, 172, 0), (172, .iconst 1, 173, 0), (173, .iadd, 174, 0), (174, .iaload, 175, 0), (175, .aload_n 0, 176, 0), (176, .iload 4, 178, 0), (178, .iconst 2, 179, 0), (179, .iadd, 180, 0), (180, .iaload, 181, 0), (181, .aload_n 0, 182, 0), (182, .iload 4, 184, 0), (184, .iconst 3, 185, 0), (185, .iadd, 186, 0), (186, .iaload, 187, 0), (187, .ifCond .eq 7, 190, 194), (190, .iconst 1, 191, 0), (191, .goto 4, 194, 195), (194, .iconst 0, 195, 0), (195, .invokevirtual 91, 198, 0), (198, .aload_n 2, 199, 0), (199, .invokevirtual 92, 202, 0), (202, .iload 5, 204, 0), (204, .if_icmp .eq 5, 207, 209)]
def zl_162_3 : List (Nat × Instr × Nat × Nat) := [(207, .iconst 0, 208, 0), (208, .ireturn, 209, 0), (209, .goto 1413, 212, 1622), (212, .aload_n 1, 213, 0), (213, .aload_n 0, 214, 0), (214, .iload 4, 216, 0), (216, .iconst 1, 217, 0), (217, .iadd, 218, 0), (218, .iaload, 219, 0), (219, .aload_n 0, 220, 0), (220, .iload 4, 222, 0), (222, .iconst 2, 223, 0), (223, .iadd, 224, 0), (224, .iaload, 225, 0), (225, .invokestatic 96, 228, 0), (228, .istore 5, 230, 0), (230, .aload_n 2, 231, 0), (231, .aload_n 0, 232, 0), (232, .iload 4, 234, 0), (234, .iconst 1, 235, 0), (235, .iadd, 236, 0), (236, .iaload, 237, 0), (237, .aload_n 0, 238, 0), (238, .iload 4, 240, 0)]
def zl_162_4 : List (Nat × Instr × Nat × Nat) := [(240, .iconst 2, 241, 0), (241, .iadd, 242, 0), (242, .iaload, 243, 0), (243, .invokevirtual 99, 246, 0), (246, .aload_n 2, 247, 0), (247, .invokevirtual 92, 250, 0), (250, .iload 5, 252, 0), (252, .if_icmp .eq 5, 255, 257), (255, .iconst 0, 256, 0), (256, .ireturn, 257, 0), (257, .goto 1365, 260, 1622), (260, .aload_n 1, 261, 0), (261, .aload_n 0, 262, 0), (262, .iload 4, 264, 0), (264, .iconst 1, 265, 0), (265, .iadd, 266, 0), (266, .iaload, 267, 0), (267, .aload_n 0, 268, 0), (268, .iload 4, 270, 0), (270, .iconst 2, 271, 0), (271, .iadd, 272, 0), (272, .iaload, 273, 0), (273, .aload_n 3, 274, 0), (274, .invokestatic 100, 277, 0)]
def zl_162_5 : List (Nat × Instr × Nat × Nat) := [(277, .istore 5, 279, 0), (279, .aload_n 2, 280, 0), (280, .aload_n 0, 281, 0), (281, .iload 4, 283, 0), (283, .iconst 1, 284, 0), (284, .iadd, 285, 0), (285, .iaload, 286, 0), (286, .aload_n 0, 287, 0), (287, .iload 4, 289, 0), (289, .iconst 2, 290, 0), (290, .iadd, 291, 0), (291, .iaload, 292, 0), (292, .invokevirtual 103, 295, 0), (295, .istore 6, 297, 0), (297, .aload_n 2, 298, 0), (298, .invokevirtual 92, 301, 0), (301, .iload 5, 303, 0), (303, .if_icmp .eq 5, 306, 308), (306, .iconst 0, 307, 0), (307, .ireturn, 308, 0), (308, .iload 5, 310, 0), (310, .ifCond .ne 22, 313, 332), (313, .aload_n 3, 314, 0), (314, .iconst 0, 315, 0)]
def zl_162_6 : List (Nat × Instr × Nat × Nat) := [(315, .laload, 316, 0), (316, .iload 6, 318, 0), (318, .ifCond .eq 7, 321, 325), (321, .lconst 1, 322, 0), (322, .goto 4, 325, 326), (325, .lconst 0, 326, 0), (326, .lcmp, 327, 0), (327, .ifCond .eq 5, 330, 332), (330, .iconst 0, 331, 0), (331, .ireturn, 332, 0), (332, .goto 1290, 335, 1622), (335, .aload_n 1, 336, 0), (336, .aload_n 0, 337, 0), (337, .iload 4, 339, 0), (339, .iconst 1, 340, 0), (340, .iadd, 341, 0), (341, .iaload, 342, 0), (342, .aload_n 0, 343, 0), (343, .iload 4, 345, 0), (345, .iconst 2, 346, 0), (346, .iadd, 347, 0), (347, .iaload, 348, 0), (348, .i2l, 349, 0), (349, .bipush 32, 351, 0)]
def zl_162_7 : List (Nat × Instr × Nat × Nat) := [(351, .lshl, 352, 0), (352, .aload_n 0, 353, 0), (353, .iload 4, 355, 0), (355, .iconst 3, 356, 0), (356, .iadd, 357, 0), (357, .iaload, 358, 0), (358, .i2l, 359, 0), (359, .ldc2_w 104, 362, 0), (362, .land, 363, 0), (363, .lor, 364, 0), (364, .invokestatic 106, 367, 0), (367, .istore 5, 369, 0), (369, .aload_n 2, 370, 0), (370, .aload_n 0, 371, 0), (371, .iload 4, 373, 0), (373, .iconst 1, 374, 0), (374, .iadd, 375, 0), (375, .iaload, 376, 0), (376, .aload_n 0, 377, 0), (377, .iload 4, 379, 0), (379, .iconst 2, 380, 0), (380, .iadd, 381, 0), (381, .iaload, 382, 0), (382, .i2l, 383, 0)]
def zl_162_8 : List (Nat × Instr × Nat × Nat) := [(383, .bipush 32, 385, 0), (385, .lshl, 386, 0), (386, .aload_n 0, 387, 0), (387, .iload 4, 389, 0), (389, .iconst 3, 390, 0), (390, .iadd, 391, 0), (391, .iaload, 392, 0), (392, .i2l, 393, 0), (393, .ldc2_w 104, 396, 0), (396, .land, 397, 0), (397, .lor, 398, 0), (398, .invokevirtual 109, 401, 0), (401, .aload_n 2, 402, 0), (402, .invokevirtual 92, 405, 0), (405, .iload 5, 407, 0), (407, .if_icmp .eq 5, 410, 412), (410, .iconst 0, 411, 0), (411, .ireturn, 412, 0), (412, .goto 1210, 415, 1622), (415, .aload_n 1, 416, 0), (416, .invokevirtual 110, 419, 0), (419, .aload_n 2, 420, 0), (420, .invokevirtual 113, 423, 0), (423, .if_icmp .eq 1199, 426, 1622)]
def zl_162_9 : List (Nat × Instr × Nat × Nat) := [(426, .iconst 0, 427, 0), (427, .ireturn, 428, 0), (428, .aload_n 1, 429, 0), (429, .aload_n 3, 430, 0), (430, .invokestatic 114, 433, 0), (433, .istore 5, 435, 0), (435, .aload_n 2, 436, 0), (436, .invokevirtual 117, 439, 0), (439, .lstore 6, 441, 0), (441, .aload_n 2, 442, 0), (442, .invokevirtual 92, 445, 0), (445, .iload 5, 447, 0), (447, .if_icmp .eq 5, 450, 452), (450, .iconst 0, 451, 0), (451, .ireturn, 452, 0), (452, .iload 5, 454, 0), (454, .ifCond .ne 14, 457, 468), (457, .aload_n 3, 458, 0), (458, .iconst 0, 459, 0), (459, .laload, 460, 0), (460, .lload 6, 462, 0), (462, .lcmp, 463, 0), (463, .ifCond .eq 5, 466, 468), (466, .iconst 0, 467, 0)]
def zl_162_10 : List (Nat × Instr × Nat × Nat) := [(467, .ireturn, 468, 0), (468, .goto 1154, 471, 1622), (471, .aload_n 1, 472, 0), (472, .aload_n 0, 473, 0), (473, .iload 4, 475, 0), (475, .iconst 1, 476, 0), (476, .iadd, 477, 0), (477, .iaload, 478, 0), (478, .invokestatic 118, 481, 0), (481, .istore 5, 483, 0), (483, .aload_n 2, 484, 0), (484, .aload_n 0, 485, 0), (485, .iload 4, 487, 0), (487, .iconst 1, 488, 0), (488, .iadd, 489, 0), (489, .iaload, 490, 0), (490, .invokevirtual 121, 493, 0), (493, .aload_n 2, 494, 0), (494, .invokevirtual 92, 497, 0), (497, .iload 5, 499, 0), (499, .if_icmp .eq 5, 502, 504), (502, .iconst 0, 503, 0), (503, .ireturn, 504, 0), (504, .goto 1118, 507, 1622)]
def zl_162_11 : List (Nat × Instr × Nat × Nat) := [(507, .aload_n 1, 508, 0), (508, .aload_n 0, 509, 0), (509, .iload 4, 511, 0), (511, .iconst 1, 512, 0), (512, .iadd, 513, 0), (513, .iaload, 514, 0), (514, .aload_n 0, 515, 0), (515, .iload 4, 517, 0), (517, .iconst 2, 518, 0), (518, .iadd, 519, 0), (519, .iaload, 520, 0), (520, .i2l, 521, 0), (521, .bipush 32, 523, 0), (523, .lshl, 524, 0), (524, .aload_n 0, 525, 0), (525, .iload 4, 527, 0), (527, .iconst 3, 528, 0), (528, .iadd, 529, 0), (529, .iaload, 530, 0), (530, .i2l, 531, 0), (531, .ldc2_w 104, 534, 0), (534, .land, 535, 0), (535, .lor, 536, 0), (536, .aload_n 3, 537, 0)]
def zl_162_12 : List (Nat × Instr × Nat × Nat) := [(537, .invokestatic 122, 540, 0), (540, .istore 5, 542, 0), (542, .aload_n 2, 543, 0), (543, .aload_n 0, 544, 0), (544, .iload 4, 546, 0), (546, .iconst 1, 547, 0), (547, .iadd, 548, 0), (548, .iaload, 549, 0), (549, .aload_n 0, 550, 0), (550, .iload 4, 552, 0), (552, .iconst 2, 553, 0), (553, .iadd, 554, 0), (554, .iaload, 555, 0), (555, .i2l, 556, 0), (556, .bipush 32, 558, 0), (558, .lshl, 559, 0), (559, .aload_n 0, 560, 0), (560, .iload 4, 562, 0), (562, .iconst 3, 563, 0), (563, .iadd, 564, 0), (564, .iaload, 565, 0), (565, .i2l, 566, 0), (566, .ldc2_w 104, 569, 0), (569, .land, 570, 0)]
def zl_162_13 : List (Nat × Instr × Nat × Nat) := [(570, .lor, 571, 0), (571, .invokevirtual 125, 574, 0), (574, .istore 6, 576, 0), (576, .aload_n 2, 577, 0), (577, .invokevirtual 92, 580, 0), (580, .iload 5, 582, 0), (582, .if_icmp .eq 5, 585, 587), (585, .iconst 0, 586, 0), (586, .ireturn, 587, 0), (587, .iload 5, 589, 0), (589, .ifCond .ne 15, 592, 604), (592, .aload_n 3, 593, 0), (593, .iconst 0, 594, 0), (594, .laload, 595, 0), (595, .iload 6, 597, 0), (597, .i2l, 598, 0), (598, .lcmp, 599, 0), (599, .ifCond .eq 5, 602, 604), (602, .iconst 0, 603, 0), (603, .ireturn, 604, 0), (604, .goto 1018, 607, 1622), (607, .aload_n 1, 608, 0), (608, .aload_n 0, 609, 0), (609, .iload 4, 611, 0)]
def zl_162_14 : List (Nat × Instr × Nat × Nat) := [(611, .iconst 1, 612, 0), (612, .iadd, 613, 0), (613, .iaload, 614, 0), (614, .aload_n 0, 615, 0), (615, .iload 4, 617, 0), (617, .iconst 2, 618, 0), (618, .iadd, 619, 0), (619, .iaload, 620, 0), (620, .i2l, 621, 0), (621, .bipush 32, 623, 0), (623, .lshl, 624, 0), (624, .aload_n 0, 625, 0), (625, .iload 4, 627, 0), (627, .iconst 3, 628, 0), (628, .iadd, 629, 0), (629, .iaload, 630, 0), (630, .i2l, 631, 0), (631, .ldc2_w 104, 634, 0), (634, .land, 635, 0), (635, .lor, 636, 0), (636, .aload_n 3, 637, 0), (637, .invokestatic 126, 640, 0), (640, .istore 5, 642, 0), (642, .aload_n 2, 643, 0)]
def zl_162_15 : List (Nat × Instr × Nat × Nat) := [(643, .aload_n 0, 644, 0), (644, .iload 4, 646, 0), (646, .iconst 1, 647, 0), (647, .iadd, 648, 0), (648, .iaload, 649, 0), (649, .aload_n 0, 650, 0), (650, .iload 4, 652, 0), (652, .iconst 2, 653, 0), (653, .iadd, 654, 0), (654, .iaload, 655, 0), (655, .i2l, 656, 0), (656, .bipush 32, 658, 0), (658, .lshl, 659, 0), (659, .aload_n 0, 660, 0), (660, .iload 4, 662, 0), (662, .iconst 3, 663, 0), (663, .iadd, 664, 0), (664, .iaload, 665, 0), (665, .i2l, 666, 0), (666, .ldc2_w 104, 669, 0), (669, .land, 670, 0), (670, .lor, 671, 0), (671, .invokevirtual 128, 674, 0), (674, .istore 6, 676, 0)]
def zl_162_16 : List (Nat × Instr × Nat × Nat) := [(676, .aload_n 2, 677, 0), (677, .invokevirtual 92, 680, 0), (680, .iload 5, 682, 0), (682, .if_icmp .eq 5, 685, 687), (685, .iconst 0, 686, 0), (686, .ireturn, 687, 0), (687, .iload 5, 689, 0), (689, .ifCond .ne 15, 692, 704), (692, .aload_n 3, 693, 0), (693, .iconst 0, 694, 0), (694, .laload, 695, 0), (695, .iload 6, 697, 0), (697, .i2l, 698, 0), (698, .lcmp, 699, 0), (699, .ifCond .eq 5, 702, 704), (702, .iconst 0, 703, 0), (703, .ireturn, 704, 0), (704, .goto 918, 707, 1622), (707, .aload_n 1, 708, 0), (708, .aload_n 0, 709, 0), (709, .iload 4, 711, 0), (711, .iconst 1, 712, 0), (712, .iadd, 713, 0), (713, .iaload, 714, 0)]
def zl_162_17 : List (Nat × Instr × Nat × Nat) := [(714, .aload_n 0, 715, 0), (715, .iload 4, 717, 0), (717, .iconst 2, 718, 0), (718, .iadd, 719, 0), (719, .iaload, 720, 0), (720, .i2l, 721, 0), (721, .bipush 32, 723, 0), (723, .lshl, 724, 0), (724, .aload_n 0, 725, 0), (725, .iload 4, 727, 0), (727, .iconst 3, 728, 0), (728, .iadd, 729, 0), (729, .iaload, 730, 0), (730, .i2l, 731, 0), (731, .ldc2_w 104, 734, 0), (734, .land, 735, 0), (735, .lor, 736, 0), (736, .aload_n 0, 737, 0), (737, .iload 4, 739, 0), (739, .iconst 4, 740, 0), (740, .iadd, 741, 0), (741, .iaload, 742, 0), (742, .aload_n 0, 743, 0), (743, .iload 4, 745, 0)]
def zl_162_18 : List (Nat × Instr × Nat × Nat) := [(745, .iconst 5, 746, 0), (746, .iadd, 747, 0), (747, .iaload, 748, 0), (748, .aload_n 0, 749, 0), (749, .iload 4, 751, 0), (751, .bipush 6, 753, 0), (753, .iadd, 754, 0), (754, .iaload, 755, 0), (755, .aload_n 0, 756, 0), (756, .iload 4, 758, 0), (758, .bipush 7, 760, 0), (760, .iadd, 761, 0), (761, .iaload, 762, 0), (762, .aload_n 3, 763, 0), (763, .invokestatic 129, 766, 0), (766, .istore 5, 768, 0), (768, .aload_n 2, 769, 0), (769, .aload_n 0, 770, 0), (770, .iload 4, 772, 0), (772, .iconst 1, 773, 0), (773, .iadd, 774, 0), (774, .iaload, 775, 0), (775, .aload_n 0, 776, 0), (776, .iload 4, 778, 0)]
def zl_162_19 : List (Nat × Instr × Nat × Nat) := [(778, .iconst 2, 779, 0), (779, .iadd, 780, 0), (780, .iaload, 781, 0), (781, .i2l, 782, 0), (782, .bipush 32, 784, 0), (784, .lshl, 785, 0), (785, .aload_n 0, 786, 0), (786, .iload 4, 788, 0), (788, .iconst 3, 789, 0), (789, .iadd, 790, 0), (790, .iaload, 791, 0), (791, .i2l, 792, 0), (792, .ldc2_w 104, 795, 0), (795, .land, 796, 0), (796, .lor, 797, 0), (797, .aload_n 0, 798, 0), (798, .iload 4, 800, 0), (800, .iconst 4, 801, 0), (801, .iadd, 802, 0), (802, .iaload, 803, 0), (803, .aload_n 0, 804, 0), (804, .iload 4, 806, 0), (806, .iconst 5, 807, 0), (807, .iadd, 808, 0)]
def zl_162_20 : List (Nat × Instr × Nat × Nat) := [(808, .iaload, 809, 0), (809, .aload_n 0, 810, 0), (810, .iload 4, 812, 0), (812, .bipush 6, 814, 0), (814, .iadd, 815, 0), (815, .iaload, 816, 0), (816, .aload_n 0, 817, 0), (817, .iload 4, 819, 0), (819, .bipush 7, 821, 0), (821, .iadd, 822, 0), (822, .iaload, 823, 0), (823, .invokevirtual 132, 826, 0), (826, .istore 6, 828, 0), (828, .aload_n 2, 829, 0), (829, .invokevirtual 92, 832, 0), (832, .iload 5, 834, 0), (834, .if_icmp .eq 5, 837, 839), (837, .iconst 0, 838, 0), (838, .ireturn, 839, 0), (839, .iload 5, 841, 0), (841, .ifCond .ne 15, 844, 856), (844, .aload_n 3, 845, 0), (845, .iconst 0, 846, 0), (846, .laload, 847, 0)]
def zl_162_21 : List (Nat × Instr × Nat × Nat) := [(847, .iload 6, 849, 0), (849, .i2l, 850, 0), (850, .lcmp, 851, 0), (851, .ifCond .eq 5, 854, 856), (854, .iconst 0, 855, 0), (855, .ireturn, 856, 0), (856, .goto 766, 859, 1622), (859, .aload_n 1, 860, 0), (860, .aload_n 0, 861, 0), (861, .iload 4, 863, 0), (863, .iconst 1, 864, 0), (864, .iadd, 865, 0), (865, .iaload, 866, 0), (866, .aload_n 0, 867, 0), (867, .iload 4, 869, 0), (869, .iconst 2, 870, 0), (870, .iadd, 871, 0), (871, .iaload, 872, 0), (872, .i2l, 873, 0), (873, .bipush 32, 875, 0), (875, .lshl, 876, 0), (876, .aload_n 0, 877, 0), (877, .iload 4, 879, 0), (879, .iconst 3, 880, 0)]
def zl_162_22 : List (Nat × Instr × Nat × Nat) := [(880, .iadd, 881, 0), (881, .iaload, 882, 0), (882, .i2l, 883, 0), (883, .ldc2_w 104, 886, 0), (886, .land, 887, 0), (887, .lor, 888, 0), (888, .aload_n 3, 889, 0), (889, .invokestatic 133, 892, 0), (892, .istore 5, 894, 0), (894, .aload_n 2, 895, 0), (895, .aload_n 0, 896, 0), (896, .iload 4, 898, 0), (898, .iconst 1, 899, 0), (899, .iadd, 900, 0), (900, .iaload, 901, 0), (901, .aload_n 0, 902, 0), (902, .iload 4, 904, 0), (904, .iconst 2, 905, 0), (905, .iadd, 906, 0), (906, .iaload, 907, 0), (907, .i2l, 908, 0), (908, .bipush 32, 910, 0), (910, .lshl, 911, 0), (911, .aload_n 0, 912, 0)]
def zl_162_23 : List (Nat × Instr × Nat × Nat) := [(912, .iload 4, 914, 0), (914, .iconst 3, 915, 0), (915, .iadd, 916, 0), (916, .iaload, 917, 0), (917, .i2l, 918, 0), (918, .ldc2_w 104, 921, 0), (921, .land, 922, 0), (922, .lor, 923, 0), (923, .invokevirtual 135, 926, 0), (926, .istore 6, 928, 0), (928, .aload_n 2, 929, 0), (929, .invokevirtual 92, 932, 0), (932, .iload 5, 934, 0), (934, .if_icmp .eq 5, 937, 939), (937, .iconst 0, 938, 0), (938, .ireturn, 939, 0), (939, .iload 5, 941, 0), (941, .ifCond .ne 15, 944, 956), (944, .aload_n 3, 945, 0), (945, .iconst 0, 946, 0), (946, .laload, 947, 0), (947, .iload 6, 949, 0), (949, .i2l, 950, 0), (950, .lcmp, 951, 0)]
def zl_162_24 : List (Nat × Instr × Nat × Nat) := [(951, .ifCond .eq 5, 954, 956), (954, .iconst 0, 955, 0), (955, .ireturn, 956, 0), (956, .goto 666, 959, 1622), (959, .aload_n 1, 960, 0), (960, .aload_n 0, 961, 0), (961, .iload 4, 963, 0), (963, .iconst 1, 964, 0), (964, .iadd, 965, 0), (965, .iaload, 966, 0), (966, .aload_n 0, 967, 0), (967, .iload 4, 969, 0), (969, .iconst 2, 970, 0), (970, .iadd, 971, 0), (971, .iaload, 972, 0), (972, .i2l, 973, 0), (973, .bipush 32, 975, 0), (975, .lshl, 976, 0), (976, .aload_n 0, 977, 0), (977, .iload 4, 979, 0), (979, .iconst 3, 980, 0), (980, .iadd, 981, 0), (981, .iaload, 982, 0), (982, .i2l, 983, 0)]
def zl_162_25 : List (Nat × Instr × Nat × Nat) := [(983, .ldc2_w 104, 986, 0), (986, .land, 987, 0), (987, .lor, 988, 0), (988, .aload_n 0, 989, 0), (989, .iload 4, 991, 0), (991, .iconst 4, 992, 0), (992, .iadd, 993, 0), (993, .iaload, 994, 0), (994, .aload_n 3, 995, 0), (995, .invokestatic 136, 998, 0), (998, .istore 5, 1000, 0), (1000, .aload_n 2, 1001, 0), (1001, .aload_n 0, 1002, 0), (1002, .iload 4, 1004, 0), (1004, .iconst 1, 1005, 0), (1005, .iadd, 1006, 0), (1006, .iaload, 1007, 0), (1007, .aload_n 0, 1008, 0), (1008, .iload 4, 1010, 0), (1010, .iconst 2, 1011, 0), (1011, .iadd, 1012, 0), (1012, .iaload, 1013, 0), (1013, .i2l, 1014, 0), (1014, .bipush 32, 1016, 0)]
def zl_162_26 : List (Nat × Instr × Nat × Nat) := [(1016, .lshl, 1017, 0), (1017, .aload_n 0, 1018, 0), (1018, .iload 4, 1020, 0), (1020, .iconst 3, 1021, 0), (1021, .iadd, 1022, 0), (1022, .iaload, 1023, 0), (1023, .i2l, 1024, 0), (1024, .ldc2_w 104, 1027, 0), (1027, .land, 1028, 0), (1028, .lor, 1029, 0), (1029, .aload_n 0, 1030, 0), (1030, .iload 4, 1032, 0), (1032, .iconst 4, 1033, 0), (1033, .iadd, 1034, 0), (1034, .iaload, 1035, 0), (1035, .invokevirtual 139, 1038, 0), (1038, .istore 6, 1040, 0), (1040, .aload_n 2, 1041, 0), (1041, .invokevirtual 92, 1044, 0), (1044, .iload 5, 1046, 0), (1046, .if_icmp .eq 5, 1049, 1051), (1049, .iconst 0, 1050, 0), (1050, .ireturn, 1051, 0), (1051, .iload 5, 1053, 0)]
def zl_162_27 : List (Nat × Instr × Nat × Nat) := [(1053, .ifCond .ne 22, 1056, 1075), (1056, .aload_n 3, 1057, 0), (1057, .iconst 0, 1058, 0), (1058, .laload, 1059, 0), (1059, .iload 6, 1061, 0), (1061, .ifCond .eq 7, 1064, 1068), (1064, .lconst 1, 1065, 0), (1065, .goto 4, 1068, 1069), (1068, .lconst 0, 1069, 0), (1069, .lcmp, 1070, 0), (1070, .ifCond .eq 5, 1073, 1075), (1073, .iconst 0, 1074, 0), (1074, .ireturn, 1075, 0), (1075, .goto 547, 1078, 1622), (1078, .aload_n 1, 1079, 0), (1079, .aload_n 0, 1080, 0), (1080, .iload 4, 1082, 0), (1082, .iconst 1, 1083, 0), (1083, .iadd, 1084, 0), (1084, .iaload, 1085, 0), (1085, .aload_n 0, 1086, 0), (1086, .iload 4, 1088, 0), (1088, .iconst 2, 1089, 0), (1089, .iadd, 1090, 0)]
def zl_162_28 : List (Nat × Instr × Nat × Nat) := [(1090, .iaload, 1091, 0), (1091, .i2l, 1092, 0), (1092, .bipush 32, 1094, 0), (1094, .lshl, 1095, 0), (1095, .aload_n 0, 1096, 0), (1096, .iload 4, 1098, 0), (1098, .iconst 3, 1099, 0), (1099, .iadd, 1100, 0), (1100, .iaload, 1101, 0), (1101, .i2l, 1102, 0), (1102, .ldc2_w 104, 1105, 0), (1105, .land, 1106, 0), (1106, .lor, 1107, 0), (1107, .aload_n 3, 1108, 0), (1108, .invokestatic 140, 1111, 0), (1111, .istore 5, 1113, 0), (1113, .aload_n 2, 1114, 0), (1114, .aload_n 0, 1115, 0), (1115, .iload 4, 1117, 0), (1117, .iconst 1, 1118, 0), (1118, .iadd, 1119, 0), (1119, .iaload, 1120, 0), (1120, .aload_n 0, 1121, 0), (1121, .iload 4, 1123, 0)]
def zl_162_29 : List (Nat × Instr × Nat × Nat) := [(1123, .iconst 2, 1124, 0), (1124, .iadd, 1125, 0), (1125, .iaload, 1126, 0), (1126, .i2l, 1127, 0), (1127, .bipush 32, 1129, 0), (1129, .lshl, 1130, 0), (1130, .aload_n 0, 1131, 0), (1131, .iload 4, 1133, 0), (1133, .iconst 3, 1134, 0), (1134, .iadd, 1135, 0), (1135, .iaload, 1136, 0), (1136, .i2l, 1137, 0), (1137, .ldc2_w 104, 1140, 0), (1140, .land, 1141, 0), (1141, .lor, 1142, 0), (1142, .invokevirtual 142, 1145, 0), (1145, .istore 6, 1147, 0), (1147, .aload_n 2, 1148, 0), (1148, .invokevirtual 92, 1151, 0), (1151, .iload 5, 1153, 0), (1153, .if_icmp .eq 5, 1156, 1158), (1156, .iconst 0, 1157, 0), (1157, .ireturn, 1158, 0), (1158, .iload 5, 1160, 0)]
def zl_162_30 : List (Nat × Instr × Nat × Nat) := [(1160, .ifCond .ne 22, 1163, 1182), (1163, .aload_n 3, 1164, 0), (1164, .iconst 0, 1165, 0), (1165, .laload, 1166, 0), (1166, .iload 6, 1168, 0), (1168, .ifCond .eq 7, 1171, 1175), (1171, .lconst 1, 1172, 0), (1172, .goto 4, 1175, 1176), (1175, .lconst 0, 1176, 0), (1176, .lcmp, 1177, 0), (1177, .ifCond .eq 5, 1180, 1182), (1180, .iconst 0, 1181, 0), (1181, .ireturn, 1182, 0), (1182, .goto 440, 1185, 1622), (1185, .aload_n 1, 1186, 0), (1186, .aload_n 0, 1187, 0), (1187, .iload 4, 1189, 0), (1189, .iconst 1, 1190, 0), (1190, .iadd, 1191, 0), (1191, .iaload, 1192, 0), (1192, .aload_n 0, 1193, 0), (1193, .iload 4, 1195, 0), (1195, .iconst 2, 1196, 0), (1196, .iadd, 1197, 0)]
def zl_162_31 : List (Nat × Instr × Nat × Nat) := [(1197, .iaload, 1198, 0), (1198, .i2l, 1199, 0), (1199, .bipush 32, 1201, 0), (1201, .lshl, 1202, 0), (1202, .aload_n 0, 1203, 0), (1203, .iload 4, 1205, 0), (1205, .iconst 3, 1206, 0), (1206, .iadd, 1207, 0), (1207, .iaload, 1208, 0), (1208, .i2l, 1209, 0), (1209, .ldc2_w 104, 1212, 0), (1212, .land, 1213, 0), (1213, .lor, 1214, 0), (1214, .aload_n 3, 1215, 0), (1215, .invokestatic 143, 1218, 0), (1218, .istore 5, 1220, 0), (1220, .aload_n 2, 1221, 0), (1221, .aload_n 0, 1222, 0), (1222, .iload 4, 1224, 0), (1224, .iconst 1, 1225, 0), (1225, .iadd, 1226, 0), (1226, .iaload, 1227, 0), (1227, .aload_n 0, 1228, 0), (1228, .iload 4, 1230, 0)]
def zl_162_32 : List (Nat × Instr × Nat × Nat) := [(1230, .iconst 2, 1231, 0), (1231, .iadd, 1232, 0), (1232, .iaload, 1233, 0), (1233, .i2l, 1234, 0), (1234, .bipush 32, 1236, 0), (1236, .lshl, 1237, 0), (1237, .aload_n 0, 1238, 0), (1238, .iload 4, 1240, 0), (1240, .iconst 3, 1241, 0), (1241, .iadd, 1242, 0), (1242, .iaload, 1243, 0), (1243, .i2l, 1244, 0), (1244, .ldc2_w 104, 1247, 0), (1247, .land, 1248, 0), (1248, .lor, 1249, 0), (1249, .invokevirtual 145, 1252, 0), (1252, .istore 6, 1254, 0), (1254, .aload_n 2, 1255, 0), (1255, .invokevirtual 92, 1258, 0), (1258, .iload 5, 1260, 0), (1260, .if_icmp .eq 5, 1263, 1265), (1263, .iconst 0, 1264, 0), (1264, .ireturn, 1265, 0), (1265, .iload 5, 1267, 0)]
def zl_162_33 : List (Nat × Instr × Nat × Nat) := [(1267, .ifCond .ne 22, 1270, 1289), (1270, .aload_n 3, 1271, 0), (1271, .iconst 0, 1272, 0), (1272, .laload, 1273, 0), (1273, .iload 6, 1275, 0), (1275, .ifCond .eq 7, 1278, 1282), (1278, .lconst 1, 1279, 0), (1279, .goto 4, 1282, 1283), (1282, .lconst 0, 1283, 0), (1283, .lcmp, 1284, 0), (1284, .ifCond .eq 5, 1287, 1289), (1287, .iconst 0, 1288, 0), (1288, .ireturn, 1289, 0), (1289, .goto 333, 1292, 1622), (1292, .aload_n 1, 1293, 0), (1293, .aload_n 0, 1294, 0), (1294, .iload 4, 1296, 0), (1296, .iconst 1, 1297, 0), (1297, .iadd, 1298, 0), (1298, .iaload, 1299, 0), (1299, .aload_n 3, 1300, 0), (1300, .invokestatic 146, 1303, 0), (1303, .istore 5, 1305, 0), (1305, .aload_n 2, 1306, 0)]
def zl_162_34 : List (Nat × Instr × Nat × Nat) := [(1306, .aload_n 0, 1307, 0), (1307, .iload 4, 1309, 0), (1309, .iconst 1, 1310, 0), (1310, .iadd, 1311, 0), (1311, .iaload, 1312, 0), (1312, .invokevirtual 149, 1315, 0), (1315, .istore 6, 1317, 0), (1317, .aload_n 2, 1318, 0), (1318, .invokevirtual 92, 1321, 0), (1321, .iload 5, 1323, 0), (1323, .if_icmp .eq 5, 1326, 1328), (1326, .iconst 0, 1327, 0), (1327, .ireturn, 1328, 0), (1328, .iload 5, 1330, 0), (1330, .ifCond .ne 15, 1333, 1345), (1333, .aload_n 3, 1334, 0), (1334, .iconst 0, 1335, 0), (1335, .laload, 1336, 0), (1336, .iload 6, 1338, 0), (1338, .i2l, 1339, 0), (1339, .lcmp, 1340, 0), (1340, .ifCond .eq 5, 1343, 1345), (1343, .iconst 0, 1344, 0), (1344, .ireturn, 1345, 0)]
def zl_162_35 : List (Nat × Instr × Nat × Nat) := [(1345, .goto 277, 1348, 1622), (1348, .aload_n 1, 1349, 0), (1349, .aload_n 0, 1350, 0), (1350, .iload 4, 1352, 0), (1352, .iconst 1, 1353, 0), (1353, .iadd, 1354, 0), (1354, .iaload, 1355, 0), (1355, .aload_n 0, 1356, 0), (1356, .iload 4, 1358, 0), (1358, .iconst 2, 1359, 0), (1359, .iadd, 1360, 0), (1360, .iaload, 1361, 0), (1361, .aload_n 3, 1362, 0), (1362, .invokestatic 150, 1365, 0), (1365, .istore 5, 1367, 0), (1367, .aload_n 2, 1368, 0), (1368, .aload_n 0, 1369, 0), (1369, .iload 4, 1371, 0), (1371, .iconst 1, 1372, 0), (1372, .iadd, 1373, 0), (1373, .iaload, 1374, 0), (1374, .aload_n 0, 1375, 0), (1375, .iload 4, 1377, 0), (1377, .iconst 2, 1378, 0)]
def zl_162_36 : List (Nat × Instr × Nat × Nat) := [(1378, .iadd, 1379, 0), (1379, .iaload, 1380, 0), (1380, .invokevirtual 152, 1383, 0), (1383, .lstore 6, 1385, 0), (1385, .aload_n 2, 1386, 0), (1386, .invokevirtual 92, 1389, 0), (1389, .iload 5, 1391, 0), (1391, .if_icmp .eq 5, 1394, 1396), (1394, .iconst 0, 1395, 0), (1395, .ireturn, 1396, 0), (1396, .iload 5, 1398, 0), (1398, .ifCond .ne 14, 1401, 1412), (1401, .aload_n 3, 1402, 0), (1402, .iconst 0, 1403, 0), (1403, .laload, 1404, 0), (1404, .lload 6, 1406, 0), (1406, .lcmp, 1407, 0), (1407, .ifCond .eq 5, 1410, 1412), (1410, .iconst 0, 1411, 0), (1411, .ireturn, 1412, 0), (1412, .goto 210, 1415, 1622), (1415, .aload_n 1, 1416, 0), (1416, .aload_n 0, 1417, 0), (1417, .iload 4, 1419, 0)]
def zl_162_37 : List (Nat × Instr × Nat × Nat) := [(1419, .iconst 1, 1420, 0), (1420, .iadd, 1421, 0), (1421, .iaload, 1422, 0), (1422, .aload_n 0, 1423, 0), (1423, .iload 4, 1425, 0), (1425, .iconst 2, 1426, 0), (1426, .iadd, 1427, 0), (1427, .iaload, 1428, 0), (1428, .invokestatic 153, 1431, 0), (1431, .istore 5, 1433, 0), (1433, .aload_n 2, 1434, 0), (1434, .aload_n 0, 1435, 0), (1435, .iload 4, 1437, 0), (1437, .iconst 1, 1438, 0), (1438, .iadd, 1439, 0), (1439, .iaload, 1440, 0), (1440, .aload_n 0, 1441, 0), (1441, .iload 4, 1443, 0), (1443, .iconst 2, 1444, 0), (1444, .iadd, 1445, 0), (1445, .iaload, 1446, 0), (1446, .invokevirtual 155, 1449, 0), (1449, .aload_n 2, 1450, 0), (1450, .invokevirtual 92, 1453, 0)]
def zl_162_38 : List (Nat × Instr × Nat × Nat) := [(1453, .iload 5, 1455, 0), (1455, .if_icmp .eq 5, 1458, 1460), (1458, .iconst 0, 1459, 0), (1459, .ireturn, 1460, 0), (1460, .goto 162, 1463, 1622), (1463, .aload_n 1, 1464, 0), (1464, .aload_n 0, 1465, 0), (1465, .iload 4, 1467, 0), (1467, .iconst 1, 1468, 0), (1468, .iadd, 1469, 0), (1469, .iaload, 1470, 0), (1470, .aload_n 0, 1471, 0), (1471, .iload 4, 1473, 0), (1473, .iconst 2, 1474, 0), (1474, .iadd, 1475, 0), (1475, .iaload, 1476, 0), (1476, .aload_n 3, 1477, 0), (1477, .invokestatic 156, 1480, 0), (1480, .istore 5, 1482, 0), (1482, .aload_n 2, 1483, 0), (1483, .aload_n 0, 1484, 0), (1484, .iload 4, 1486, 0), (1486, .iconst 1, 1487, 0), (1487, .iadd, 1488, 0)]
def zl_162_39 : List (Nat × Instr × Nat × Nat) := [(1488, .iaload, 1489, 0), (1489, .aload_n 0, 1490, 0), (1490, .iload 4, 1492, 0), (1492, .iconst 2, 1493, 0), (1493, .iadd, 1494, 0), (1494, .iaload, 1495, 0), (1495, .invokevirtual 158, 1498, 0), (1498, .istore 6, 1500, 0), (1500, .aload_n 2, 1501, 0), (1501, .invokevirtual 92, 1504, 0), (1504, .iload 5, 1506, 0), (1506, .if_icmp .eq 5, 1509, 1511), (1509, .iconst 0, 1510, 0), (1510, .ireturn, 1511, 0), (1511, .iload 5, 1513, 0), (1513, .ifCond .ne 22, 1516, 1535), (1516, .aload_n 3, 1517, 0), (1517, .iconst 0, 1518, 0), (1518, .laload, 1519, 0), (1519, .iload 6, 1521, 0), (1521, .ifCond .eq 7, 1524, 1528), (1524, .lconst 1, 1525, 0), (1525, .goto 4, 1528, 1529), (1528, .lconst 0, 1529, 0)]
def zl_162_40 : List (Nat × Instr × Nat × Nat) := [(1529, .lcmp, 1530, 0), (1530, .ifCond .eq 5, 1533, 1535), (1533, .iconst 0, 1534, 0), (1534, .ireturn, 1535, 0), (1535, .goto 87, 1538, 1622), (1538, .aload_n 1, 1539, 0), (1539, .aload_n 0, 1540, 0), (1540, .iload 4, 1542, 0), (1542, .iconst 1, 1543, 0), (1543, .iadd, 1544, 0), (1544, .iaload, 1545, 0), (1545, .aload_n 0, 1546, 0), (1546, .iload 4, 1548, 0), (1548, .iconst 2, 1549, 0), (1549, .iadd, 1550, 0), (1550, .iaload, 1551, 0), (1551, .invokestatic 159, 1554, 0), (1554, .istore 5, 1556, 0), (1556, .aload_n 2, 1557, 0), (1557, .aload_n 0, 1558, 0), (1558, .iload 4, 1560, 0), (1560, .iconst 1, 1561, 0), (1561, .iadd, 1562, 0), (1562, .iaload, 1563, 0)]
def zl_162_41 : List (Nat × Instr × Nat × Nat) := [(1563, .aload_n 0, 1564, 0), (1564, .iload 4, 1566, 0), (1566, .iconst 2, 1567, 0), (1567, .iadd, 1568, 0), (1568, .iaload, 1569, 0), (1569, .invokevirtual 161, 1572, 0), (1572, .aload_n 2, 1573, 0), (1573, .invokevirtual 92, 1576, 0), (1576, .iload 5, 1578, 0), (1578, .if_icmp .eq 5, 1581, 1583), (1581, .iconst 0, 1582, 0), (1582, .ireturn, 1583, 0), (1583, .goto 39, 1586, 1622), (1586, .aload_n 1, 1587, 0), (1587, .aload_n 0, 1588, 0), (1588, .iload 4, 1590, 0), (1590, .iconst 1, 1591, 0), (1591, .iadd, 1592, 0), (1592, .iaload, 1593, 0), (1593, .invokestatic 162, 1596, 0), (1596, .istore 5, 1598, 0), (1598, .aload_n 2, 1599, 0), (1599, .aload_n 0, 1600, 0), (1600, .iload 4, 1602, 0)]
def zl_162_42 : List (Nat × Instr × Nat × Nat) := [(1602, .iconst 1, 1603, 0), (1603, .iadd, 1604, 0), (1604, .iaload, 1605, 0), (1605, .invokevirtual 164, 1608, 0), (1608, .aload_n 2, 1609, 0), (1609, .invokevirtual 92, 1612, 0), (1612, .iload 5, 1614, 0), (1614, .if_icmp .eq 5, 1617, 1619), (1617, .iconst 0, 1618, 0), (1618, .ireturn, 1619, 0), (1619, .goto 3, 1622, 1622), (1622, .iinc 4 8, 1625, 0), (1625, .goto (-1602), 1628, 23), (1628, .iconst 1, 1629, 0), (1629, .ireturn, 1630, 0)]
def zl_162 : List (Nat × List (Nat × Instr × Nat × Nat)) := [(40, zl_162_0), (169, zl_162_1), (207, zl_162_2), (240, zl_162_3), (277, zl_162_4), (315, zl_162_5), (351, zl_162_6), (383, zl_162_7), (426, zl_162_8), (467, zl_162_9), (507, zl_162_10), (537, zl_162_11), (570, zl_162_12), (611, zl_162_13), (643, zl_162_14), (676, zl_162_15), (714, zl_162_16), (745, zl_162_17), (778, zl_162_18), (808, zl_162_19), (847, zl_162_20), (880, zl_162_21), (912, zl_162_22), (951, zl_162_23), (983, zl_162_24), (1016, zl_162_25), (1053, zl_162_26), (1090, zl_162_27), (1123, zl_162_28), (1160, zl_162_29), (1197, zl_162_30), (1230, zl_162_31), (1267, zl_162_32), (1306, zl_162_33), (1345, zl_162_34), (1378, zl_162_35), (1419, zl_162_36), (1453, zl_162_37), (1488, zl_162_38), (1529, zl_162_39), (1563, zl_162_40), (1602, zl_162_41), (1630, zl_162_42)]
def zk_codes : List (List (Nat × List (Nat × Instr × Nat × Nat))) := [zl_0, zl_1, zl_2, zl_3, zl_4, zl_5, zl_6, zl_7, zl_8, zl_9, zl_10, zl_11, zl_12, zl_13, zl_14, zl_15, zl_16, zl_17, zl_18, zl_19, zl_20, zl_21, zl_22, zl_23, zl_24, zl_25, zl_26, zl_27, zl_28, zl_29, zl_30, zl_31, zl_32, zl_33, zl_34, zl_35, zl_36, zl_37, zl_38, zl_39, zl_40, zl_41, zl_42, zl_43, zl_44, zl_45, zl_46, zl_47, zl_48, zl_49, zl_50, zl_51, zl_52, zl_53, zl_54, zl_55, zl_56, zl_57, zl_58, zl_59, zl_60, zl_61, zl_62, zl_63, zl_64, zl_65, zl_66, zl_67, zl_68, zl_69, zl_70, zl_71, zl_72, zl_73, zl_74, zl_75, zl_76, zl_77, zl_78, zl_79, zl_80, zl_81, zl_82, zl_83, zl_84, zl_85, zl_86, zl_87, zl_88, zl_89, zl_90, zl_91, zl_92, zl_93, zl_94, zl_95, zl_96, zl_97, zl_98, zl_99, zl_100, zl_101, zl_102, zl_103, zl_104, zl_105, zl_106, zl_107, zl_108, zl_109, zl_110, zl_111, zl_112, zl_113, zl_114, zl_115, zl_116, zl_117, zl_118, zl_119, zl_120, zl_121, zl_122, zl_123, zl_124, zl_125, zl_126, zl_127, zl_128, zl_129, zl_130, zl_131, zl_132, zl_133, zl_134, zl_135, zl_136, zl_137, zl_138, zl_139, zl_140, zl_141, zl_142, zl_143, zl_144, zl_145, zl_146, zl_147, zl_148, zl_149, zl_150, zl_151, zl_152, zl_153, zl_154, zl_155, zl_156, zl_157, zl_158, zl_159, zl_160, zl_161, zl_162]
abbrev m_X_init : Nat := 0
abbrev m_O_init : Nat := 1
abbrev m_M_init : Nat := 2
abbrev m_M_release : Nat := 3
abbrev m_M_setWord : Nat := 4
abbrev m_D_init : Nat := 5
abbrev m_X_kind : Nat := 6
abbrev m_L_object : Nat := 7
abbrev m_X_object : Nat := 8
abbrev m_X_needRoot : Nat := 9
abbrev m_X_heldOrNone : Nat := 10
abbrev m_X_held : Nat := 11
abbrev m_M_kept : Nat := 12
abbrev m_O_makeObject : Nat := 13
abbrev m_M_make : Nat := 14
abbrev m_M_isCollectionDue : Nat := 15
abbrev m_M_markAll : Nat := 16
abbrev m_M_mark : Nat := 17
abbrev m_M_word : Nat := 18
abbrev m_M_sweep : Nat := 19
abbrev m_M_widenIfTight : Nat := 20
abbrev m_JM_min : Nat := 21
abbrev m_JA_copyOf : Nat := 22
abbrev m_M_keep : Nat := 23
abbrev m_O_writeLength : Nat := 24
abbrev m_N_ofLength : Nat := 25
abbrev m_JL_numberOfLeadingZeros : Nat := 26
abbrev m_JI_numberOfLeadingZeros : Nat := 27
abbrev m_O_writeValue : Nat := 28
abbrev m_L_copy : Nat := 29
abbrev m_X_copy : Nat := 30
abbrev m_L_same : Nat := 31
abbrev m_X_same : Nat := 32
abbrev m_L_operand : Nat := 33
abbrev m_X_operand : Nat := 34
abbrev m_N_withOneNaN : Nat := 35
abbrev m_L_bits : Nat := 36
abbrev m_X_bits : Nat := 37
abbrev m_L_hold : Nat := 38
abbrev m_X_hold : Nat := 39
abbrev m_L_get : Nat := 40
abbrev m_X_get : Nat := 41
abbrev m_X_heldWithKey : Nat := 42
abbrev m_O_find : Nat := 43
abbrev m_O_findOwn : Nat := 44
abbrev m_O_first : Nat := 45
abbrev m_O_keyOf : Nat := 46
abbrev m_O_next : Nat := 47
abbrev m_O_prototypeOf : Nat := 48
abbrev m_X_giveValue : Nat := 49
abbrev m_O_kindOf : Nat := 50
abbrev m_O_numberOf : Nat := 51
abbrev m_O_objectOf : Nat := 52
abbrev m_O_isAccessor : Nat := 53
abbrev m_L_put : Nat := 54
abbrev m_X_put : Nat := 55
abbrev m_O_setterOf : Nat := 56
abbrev m_X_giveObject : Nat := 57
abbrev m_O_isAny : Nat := 58
abbrev m_O_isExtensible : Nat := 59
abbrev m_D_tell : Nat := 60
abbrev m_D_tellValue : Nat := 61
abbrev m_O_defineProperty : Nat := 62
abbrev m_O_definePlainly : Nat := 63
abbrev m_O_change : Nat := 64
abbrev m_O_isFixed : Nat := 65
abbrev m_D_tellsTrue : Nat := 66
abbrev m_D_tells : Nat := 67
abbrev m_O_isValue : Nat := 68
abbrev m_O_become : Nat := 69
abbrev m_O_turnOver : Nat := 70
abbrev m_O_attributesOf : Nat := 71
abbrev m_O_add : Nat := 72
abbrev m_O_staysAhead : Nat := 73
abbrev m_O_linkBehind : Nat := 74
abbrev m_O_defineLength : Nat := 75
abbrev m_N_asLength : Nat := 76
abbrev m_N_wholeLength : Nat := 77
abbrev m_O_readLength : Nat := 78
abbrev m_D_tellsFalse : Nat := 79
abbrev m_O_cut : Nat := 80
abbrev m_JM_max : Nat := 81
abbrev m_L_define : Nat := 82
abbrev m_X_define : Nat := 83
abbrev m_D_tellAccessor : Nat := 84
abbrev m_L_own : Nat := 85
abbrev m_X_own : Nat := 86
abbrev m_L_setter : Nat := 87
abbrev m_X_setter : Nat := 88
abbrev m_L_has : Nat := 89
abbrev m_X_has : Nat := 90
abbrev m_L_delete : Nat := 91
abbrev m_X_delete : Nat := 92
abbrev m_O_remove : Nat := 93
abbrev m_L_keys : Nat := 94
abbrev m_X_keys : Nat := 95
abbrev m_O_count : Nat := 96
abbrev m_L_key : Nat := 97
abbrev m_X_key : Nat := 98
abbrev m_O_nth : Nat := 99
abbrev m_L_lock : Nat := 100
abbrev m_X_lock : Nat := 101
abbrev m_X_heldWithLock : Nat := 102
abbrev m_X_lockedAttributes : Nat := 103
abbrev m_O_close : Nat := 104
abbrev m_L_locked : Nat := 105
abbrev m_X_locked : Nat := 106
abbrev m_O_isClosed : Nat := 107
abbrev m_L_prototype : Nat := 108
abbrev m_X_prototype : Nat := 109
abbrev m_L_stress : Nat := 110
abbrev m_X_stress : Nat := 111
abbrev m_M_collectBeforeEach : Nat := 112
abbrev m_R_init : Nat := 113
abbrev m_R_thrown : Nat := 114
abbrev m_R_object : Nat := 115
abbrev m_R_isRoot : Nat := 116
abbrev m_R_in : Nat := 117
abbrev m_R_holds : Nat := 118
abbrev m_R_says : Nat := 119
abbrev m_R_newObject : Nat := 120
abbrev m_R_add : Nat := 121
abbrev m_R_copy : Nat := 122
abbrev m_R_same : Nat := 123
abbrev m_R_operand : Nat := 124
abbrev m_R_kind : Nat := 125
abbrev m_R_bits : Nat := 126
abbrev m_R_hold : Nat := 127
abbrev m_R_define : Nat := 128
abbrev m_R_isKey : Nat := 129
abbrev m_R_isTold : Nat := 130
abbrev m_R_isPart : Nat := 131
abbrev m_R_defineOwn : Nat := 132
abbrev m_R_defineLength : Nat := 133
abbrev m_R_asLength : Nat := 134
abbrev m_R_wholeOf : Nat := 135
abbrev m_R_lengthOf : Nat := 136
abbrev m_R_find : Nat := 137
abbrev m_R_bitsOf : Nat := 138
abbrev m_R_defineAny : Nat := 139
abbrev m_R_isSo : Nat := 140
abbrev m_R_has_0 : Nat := 141
abbrev m_R_isSame : Nat := 142
abbrev m_R_resists : Nat := 143
abbrev m_R_put_0 : Nat := 144
abbrev m_R_highest : Nat := 145
abbrev m_R_get : Nat := 146
abbrev m_R_lookUp : Nat := 147
abbrev m_R_result : Nat := 148
abbrev m_R_put_1 : Nat := 149
abbrev m_R_own : Nat := 150
abbrev m_R_setter : Nat := 151
abbrev m_R_has_1 : Nat := 152
abbrev m_R_delete : Nat := 153
abbrev m_R_keys : Nat := 154
abbrev m_R_count : Nat := 155
abbrev m_R_key : Nat := 156
abbrev m_R_isBefore : Nat := 157
abbrev m_R_lock : Nat := 158
abbrev m_R_locked : Nat := 159
abbrev m_R_prototype : Nat := 160
abbrev m_R_stress : Nat := 161
abbrev m_L_law : Nat := 162
def zk_nth {α : Type} : List α → Nat → Option α
  | [], _ => none
  | a :: _, 0 => some a
  | _ :: l, n + 1 => zk_nth l n
def zk_at (pc : Nat) : List (Nat × Instr × Nat × Nat) → Option (Instr × Nat × Nat)
  | [] => none
  | q :: r => bif Nat.beq q.1 pc then some q.2 else zk_at pc r
def zk_at2 (pc : Nat) : List (Nat × List (Nat × Instr × Nat × Nat)) → Option (Instr × Nat × Nat)
  | [] => none
  | q :: r => bif Nat.blt pc q.1 then zk_at pc q.2 else zk_at2 pc r
def zk_ins (M pc : Nat) : Option (Instr × Nat × Nat) := match zk_nth zk_codes M with
  | some c => zk_at2 pc c
  | none => none
abbrev zkI : Type := MethodName × ByteArray × Nat × Option FieldType × List (Nat × Nat × Nat × Nat) × Nat
def zi_0 : zkI := (⟨"PropertyStore", "<init>", "()V"⟩, prog_1_method_1_code, 1, none, [], 0)
def zi_1 : zkI := (⟨"PropertyStore$ObjectSpace", "<init>", "()V"⟩, prog_5_method_1_code, 1, none, [], 4)
def zi_2 : zkI := (⟨"PropertyStore$Memory", "<init>", "()V"⟩, prog_3_method_1_code, 2, none, [], 2)
def zi_3 : zkI := (⟨"PropertyStore$Memory", "release", "(I)V"⟩, prog_3_method_12_code, 2, none, [], 2)
def zi_4 : zkI := (⟨"PropertyStore$Memory", "setWord", "(IIJ)V"⟩, prog_3_method_5_code, 6, none, [], 2)
def zi_5 : zkI := (⟨"PropertyStore$Description", "<init>", "()V"⟩, prog_2_method_1_code, 1, none, [], 1)
def zi_6 : zkI := (⟨"PropertyStore", "kind", "()I"⟩, prog_1_method_6_code, 1, (some .int), [], 0)
def zi_7 : zkI := (⟨"PropertyStoreLaw", "object", "(LPropertyStore;IIZ)I"⟩, method_3_code, 5, (some .int), [(0, 7, 10, 13)], 6)
def zi_8 : zkI := (⟨"PropertyStore", "object", "(IIZ)V"⟩, prog_1_method_2_code, 5, none, [], 0)
def zi_9 : zkI := (⟨"PropertyStore", "needRoot", "(I)V"⟩, prog_1_method_22_code, 1, none, [], 0)
def zi_10 : zkI := (⟨"PropertyStore", "heldOrNone", "(I)I"⟩, prog_1_method_24_code, 2, (some .int), [], 0)
def zi_11 : zkI := (⟨"PropertyStore", "held", "(I)I"⟩, prog_1_method_23_code, 3, (some .int), [], 0)
def zi_12 : zkI := (⟨"PropertyStore$Memory", "kept", "(I)I"⟩, prog_3_method_2_code, 2, (some .int), [], 2)
def zi_13 : zkI := (⟨"PropertyStore$ObjectSpace", "makeObject", "(IZ)I"⟩, prog_5_method_2_code, 5, (some .int), [], 4)
def zi_14 : zkI := (⟨"PropertyStore$Memory", "make", "()I"⟩, prog_3_method_7_code, 3, (some .int), [], 2)
def zi_15 : zkI := (⟨"PropertyStore$Memory", "isCollectionDue", "()Z"⟩, prog_3_method_8_code, 1, (some .boolean), [], 2)
def zi_16 : zkI := (⟨"PropertyStore$Memory", "markAll", "()V"⟩, prog_3_method_9_code, 5, none, [], 2)
def zi_17 : zkI := (⟨"PropertyStore$Memory", "mark", "(II)I"⟩, prog_3_method_10_code, 3, (some .int), [], 2)
def zi_18 : zkI := (⟨"PropertyStore$Memory", "word", "(II)J"⟩, prog_3_method_4_code, 4, (some .long), [], 2)
def zi_19 : zkI := (⟨"PropertyStore$Memory", "sweep", "()V"⟩, prog_3_method_11_code, 2, none, [], 2)
def zi_20 : zkI := (⟨"PropertyStore$Memory", "widenIfTight", "()V"⟩, prog_3_method_13_code, 3, none, [], 2)
def zi_21 : zkI := (⟨"java/lang/Math", "min", "(II)I"⟩, prog_14_method_69_code, 2, (some .int), [], 9)
def zi_22 : zkI := (⟨"java/util/Arrays", "copyOf", "([JI)[J"⟩, prog_19_method_124_code, 3, (some (.array .long)), [], 10)
def zi_23 : zkI := (⟨"PropertyStore$Memory", "keep", "(II)V"⟩, prog_3_method_3_code, 3, none, [], 2)
def zi_24 : zkI := (⟨"PropertyStore$ObjectSpace", "writeLength", "(IJ)V"⟩, prog_5_method_34_code, 4, none, [], 4)
def zi_25 : zkI := (⟨"PropertyStore$Numbers", "ofLength", "(J)J"⟩, prog_4_method_5_code, 5, (some .long), [], 3)
def zi_26 : zkI := (⟨"java/lang/Long", "numberOfLeadingZeros", "(J)I"⟩, prog_13_method_48_code, 3, (some .int), [], 8)
def zi_27 : zkI := (⟨"java/lang/Integer", "numberOfLeadingZeros", "(I)I"⟩, prog_12_method_47_code, 2, (some .int), [], 7)
def zi_28 : zkI := (⟨"PropertyStore$ObjectSpace", "writeValue", "(IIJI)V"⟩, prog_5_method_32_code, 6, none, [], 4)
def zi_29 : zkI := (⟨"PropertyStoreLaw", "copy", "(LPropertyStore;II)I"⟩, method_4_code, 4, (some .int), [(0, 6, 9, 13)], 6)
def zi_30 : zkI := (⟨"PropertyStore", "copy", "(II)V"⟩, prog_1_method_3_code, 3, none, [], 0)
def zi_31 : zkI := (⟨"PropertyStoreLaw", "same", "(LPropertyStore;II[J)I"⟩, method_5_code, 5, (some .int), [(0, 17, 20, 13)], 6)
def zi_32 : zkI := (⟨"PropertyStore", "same", "(II)Z"⟩, prog_1_method_4_code, 3, (some .boolean), [], 0)
def zi_33 : zkI := (⟨"PropertyStoreLaw", "operand", "(LPropertyStore;IJ)I"⟩, method_6_code, 5, (some .int), [(0, 6, 9, 13)], 6)
def zi_34 : zkI := (⟨"PropertyStore", "operand", "(IJ)V"⟩, prog_1_method_5_code, 5, none, [], 0)
def zi_35 : zkI := (⟨"PropertyStore$Numbers", "withOneNaN", "(J)J"⟩, prog_4_method_2_code, 3, (some .long), [], 3)
def zi_36 : zkI := (⟨"PropertyStoreLaw", "bits", "(LPropertyStore;[J)I"⟩, method_7_code, 3, (some .int), [(0, 7, 10, 31)], 6)
def zi_37 : zkI := (⟨"PropertyStore", "bits", "()J"⟩, prog_1_method_7_code, 1, (some .long), [], 0)
def zi_38 : zkI := (⟨"PropertyStoreLaw", "hold", "(LPropertyStore;I)I"⟩, method_8_code, 3, (some .int), [(0, 5, 8, 13), (0, 5, 11, 31)], 6)
def zi_39 : zkI := (⟨"PropertyStore", "hold", "(I)V"⟩, prog_1_method_8_code, 2, none, [], 0)
def zi_40 : zkI := (⟨"PropertyStoreLaw", "get", "(LPropertyStore;IJ[J)I"⟩, method_9_code, 6, (some .int), [(0, 11, 14, 13)], 6)
def zi_41 : zkI := (⟨"PropertyStore", "get", "(IJ)I"⟩, prog_1_method_9_code, 6, (some .int), [], 0)
def zi_42 : zkI := (⟨"PropertyStore", "heldWithKey", "(IJ)I"⟩, prog_1_method_25_code, 5, (some .int), [], 0)
def zi_43 : zkI := (⟨"PropertyStore$ObjectSpace", "find", "(IJ)I"⟩, prog_5_method_16_code, 7, (some .int), [], 4)
def zi_44 : zkI := (⟨"PropertyStore$ObjectSpace", "findOwn", "(IJ)I"⟩, prog_5_method_15_code, 6, (some .int), [], 4)
def zi_45 : zkI := (⟨"PropertyStore$ObjectSpace", "first", "(I)I"⟩, prog_5_method_5_code, 2, (some .int), [], 4)
def zi_46 : zkI := (⟨"PropertyStore$ObjectSpace", "keyOf", "(I)J"⟩, prog_5_method_7_code, 2, (some .long), [], 4)
def zi_47 : zkI := (⟨"PropertyStore$ObjectSpace", "next", "(I)I"⟩, prog_5_method_6_code, 2, (some .int), [], 4)
def zi_48 : zkI := (⟨"PropertyStore$ObjectSpace", "prototypeOf", "(I)I"⟩, prog_5_method_3_code, 2, (some .int), [], 4)
def zi_49 : zkI := (⟨"PropertyStore", "giveValue", "(I)V"⟩, prog_1_method_28_code, 2, none, [], 0)
def zi_50 : zkI := (⟨"PropertyStore$ObjectSpace", "kindOf", "(I)I"⟩, prog_5_method_11_code, 2, (some .int), [], 4)
def zi_51 : zkI := (⟨"PropertyStore$ObjectSpace", "numberOf", "(I)J"⟩, prog_5_method_12_code, 2, (some .long), [], 4)
def zi_52 : zkI := (⟨"PropertyStore$ObjectSpace", "objectOf", "(I)I"⟩, prog_5_method_13_code, 2, (some .int), [], 4)
def zi_53 : zkI := (⟨"PropertyStore$ObjectSpace", "isAccessor", "(I)Z"⟩, prog_5_method_10_code, 2, (some .boolean), [], 4)
def zi_54 : zkI := (⟨"PropertyStoreLaw", "put", "(LPropertyStore;IJ[J)I"⟩, method_10_code, 6, (some .int), [(0, 11, 14, 13)], 6)
def zi_55 : zkI := (⟨"PropertyStore", "put", "(IJ)I"⟩, prog_1_method_10_code, 9, (some .int), [], 0)
def zi_56 : zkI := (⟨"PropertyStore$ObjectSpace", "setterOf", "(I)I"⟩, prog_5_method_14_code, 2, (some .int), [], 4)
def zi_57 : zkI := (⟨"PropertyStore", "giveObject", "(I)V"⟩, prog_1_method_29_code, 2, none, [], 0)
def zi_58 : zkI := (⟨"PropertyStore$ObjectSpace", "isAny", "(II)Z"⟩, prog_5_method_9_code, 3, (some .boolean), [], 4)
def zi_59 : zkI := (⟨"PropertyStore$ObjectSpace", "isExtensible", "(I)Z"⟩, prog_5_method_4_code, 2, (some .boolean), [], 4)
def zi_60 : zkI := (⟨"PropertyStore$Description", "tell", "(II)V"⟩, prog_2_method_2_code, 3, none, [], 1)
def zi_61 : zkI := (⟨"PropertyStore$Description", "tellValue", "(IJI)V"⟩, prog_2_method_3_code, 5, none, [], 1)
def zi_62 : zkI := (⟨"PropertyStore$ObjectSpace", "defineProperty", "(IJLPropertyStore$Description;)I"⟩, prog_5_method_23_code, 7, (some .int), [], 4)
def zi_63 : zkI := (⟨"PropertyStore$ObjectSpace", "definePlainly", "(IJLPropertyStore$Description;)I"⟩, prog_5_method_24_code, 6, (some .int), [], 4)
def zi_64 : zkI := (⟨"PropertyStore$ObjectSpace", "change", "(ILPropertyStore$Description;)I"⟩, prog_5_method_27_code, 3, (some .int), [], 4)
def zi_65 : zkI := (⟨"PropertyStore$ObjectSpace", "isFixed", "(ILPropertyStore$Description;)Z"⟩, prog_5_method_28_code, 3, (some .boolean), [], 4)
def zi_66 : zkI := (⟨"PropertyStore$Description", "tellsTrue", "(I)Z"⟩, prog_2_method_6_code, 2, (some .boolean), [], 1)
def zi_67 : zkI := (⟨"PropertyStore$Description", "tells", "(I)Z"⟩, prog_2_method_5_code, 2, (some .boolean), [], 1)
def zi_68 : zkI := (⟨"PropertyStore$ObjectSpace", "isValue", "(ILPropertyStore$Description;)Z"⟩, prog_5_method_29_code, 3, (some .boolean), [], 4)
def zi_69 : zkI := (⟨"PropertyStore$ObjectSpace", "become", "(ILPropertyStore$Description;)V"⟩, prog_5_method_30_code, 4, none, [], 4)
def zi_70 : zkI := (⟨"PropertyStore$ObjectSpace", "turnOver", "(I)V"⟩, prog_5_method_31_code, 4, none, [], 4)
def zi_71 : zkI := (⟨"PropertyStore$ObjectSpace", "attributesOf", "(I)I"⟩, prog_5_method_8_code, 2, (some .int), [], 4)
def zi_72 : zkI := (⟨"PropertyStore$ObjectSpace", "add", "(IJLPropertyStore$Description;)I"⟩, prog_5_method_25_code, 9, (some .int), [], 4)
def zi_73 : zkI := (⟨"PropertyStore$ObjectSpace", "staysAhead", "(JJ)Z"⟩, prog_5_method_26_code, 4, (some .boolean), [], 4)
def zi_74 : zkI := (⟨"PropertyStore$ObjectSpace", "linkBehind", "(III)V"⟩, prog_5_method_22_code, 4, none, [], 4)
def zi_75 : zkI := (⟨"PropertyStore$ObjectSpace", "defineLength", "(IILPropertyStore$Description;)I"⟩, prog_5_method_35_code, 9, (some .int), [], 4)
def zi_76 : zkI := (⟨"PropertyStore$Numbers", "asLength", "(IJ)J"⟩, prog_4_method_3_code, 3, (some .long), [], 3)
def zi_77 : zkI := (⟨"PropertyStore$Numbers", "wholeLength", "(J)J"⟩, prog_4_method_4_code, 8, (some .long), [], 3)
def zi_78 : zkI := (⟨"PropertyStore$ObjectSpace", "readLength", "(I)J"⟩, prog_5_method_33_code, 2, (some .long), [], 4)
def zi_79 : zkI := (⟨"PropertyStore$Description", "tellsFalse", "(I)Z"⟩, prog_2_method_7_code, 2, (some .boolean), [], 1)
def zi_80 : zkI := (⟨"PropertyStore$ObjectSpace", "cut", "(IJ)J"⟩, prog_5_method_36_code, 11, (some .long), [], 4)
def zi_81 : zkI := (⟨"java/lang/Math", "max", "(JJ)J"⟩, prog_14_method_66_code, 4, (some .long), [], 9)
def zi_82 : zkI := (⟨"PropertyStoreLaw", "define", "(LPropertyStore;IJIIII[J)I"⟩, method_11_code, 10, (some .int), [(0, 19, 22, 13)], 6)
def zi_83 : zkI := (⟨"PropertyStore", "define", "(IJIIII)I"⟩, prog_1_method_11_code, 13, (some .int), [], 0)
def zi_84 : zkI := (⟨"PropertyStore$Description", "tellAccessor", "(II)V"⟩, prog_2_method_4_code, 3, none, [], 1)
def zi_85 : zkI := (⟨"PropertyStoreLaw", "own", "(LPropertyStore;IJ[J)I"⟩, method_12_code, 6, (some .int), [(0, 11, 14, 13)], 6)
def zi_86 : zkI := (⟨"PropertyStore", "own", "(IJ)I"⟩, prog_1_method_12_code, 5, (some .int), [], 0)
def zi_87 : zkI := (⟨"PropertyStoreLaw", "setter", "(LPropertyStore;IJI[J)I"⟩, method_13_code, 7, (some .int), [(0, 20, 23, 13)], 6)
def zi_88 : zkI := (⟨"PropertyStore", "setter", "(IJI)Z"⟩, prog_1_method_13_code, 7, (some .boolean), [], 0)
def zi_89 : zkI := (⟨"PropertyStoreLaw", "has", "(LPropertyStore;IJ[J)I"⟩, method_14_code, 6, (some .int), [(0, 18, 21, 13)], 6)
def zi_90 : zkI := (⟨"PropertyStore", "has", "(IJ)Z"⟩, prog_1_method_14_code, 4, (some .boolean), [], 0)
def zi_91 : zkI := (⟨"PropertyStoreLaw", "delete", "(LPropertyStore;IJ[J)I"⟩, method_15_code, 6, (some .int), [(0, 18, 21, 13)], 6)
def zi_92 : zkI := (⟨"PropertyStore", "delete", "(IJ)Z"⟩, prog_1_method_15_code, 4, (some .boolean), [], 0)
def zi_93 : zkI := (⟨"PropertyStore$ObjectSpace", "remove", "(IJ)Z"⟩, prog_5_method_21_code, 7, (some .boolean), [], 4)
def zi_94 : zkI := (⟨"PropertyStoreLaw", "keys", "(LPropertyStore;I[J)I"⟩, method_16_code, 4, (some .int), [(0, 9, 12, 13)], 6)
def zi_95 : zkI := (⟨"PropertyStore", "keys", "(I)I"⟩, prog_1_method_16_code, 2, (some .int), [], 0)
def zi_96 : zkI := (⟨"PropertyStore$ObjectSpace", "count", "(I)I"⟩, prog_5_method_17_code, 5, (some .int), [], 4)
def zi_97 : zkI := (⟨"PropertyStoreLaw", "key", "(LPropertyStore;II[J)I"⟩, method_17_code, 5, (some .int), [(0, 9, 12, 13)], 6)
def zi_98 : zkI := (⟨"PropertyStore", "key", "(II)J"⟩, prog_1_method_17_code, 4, (some .long), [], 0)
def zi_99 : zkI := (⟨"PropertyStore$ObjectSpace", "nth", "(II)I"⟩, prog_5_method_18_code, 5, (some .int), [], 4)
def zi_100 : zkI := (⟨"PropertyStoreLaw", "lock", "(LPropertyStore;II)I"⟩, method_18_code, 4, (some .int), [(0, 6, 9, 13)], 6)
def zi_101 : zkI := (⟨"PropertyStore", "lock", "(II)V"⟩, prog_1_method_18_code, 3, none, [], 0)
def zi_102 : zkI := (⟨"PropertyStore", "heldWithLock", "(II)I"⟩, prog_1_method_26_code, 4, (some .int), [], 0)
def zi_103 : zkI := (⟨"PropertyStore", "lockedAttributes", "(I)I"⟩, prog_1_method_27_code, 1, (some .int), [], 0)
def zi_104 : zkI := (⟨"PropertyStore$ObjectSpace", "close", "(II)V"⟩, prog_5_method_19_code, 5, none, [], 4)
def zi_105 : zkI := (⟨"PropertyStoreLaw", "locked", "(LPropertyStore;II[J)I"⟩, method_19_code, 5, (some .int), [(0, 17, 20, 13)], 6)
def zi_106 : zkI := (⟨"PropertyStore", "locked", "(II)Z"⟩, prog_1_method_19_code, 3, (some .boolean), [], 0)
def zi_107 : zkI := (⟨"PropertyStore$ObjectSpace", "isClosed", "(II)Z"⟩, prog_5_method_20_code, 6, (some .boolean), [], 4)
def zi_108 : zkI := (⟨"PropertyStoreLaw", "prototype", "(LPropertyStore;II)I"⟩, method_20_code, 4, (some .int), [(0, 6, 9, 13)], 6)
def zi_109 : zkI := (⟨"PropertyStore", "prototype", "(II)V"⟩, prog_1_method_20_code, 4, none, [], 0)
def zi_110 : zkI := (⟨"PropertyStoreLaw", "stress", "(LPropertyStore;I)I"⟩, method_21_code, 3, (some .int), [(0, 5, 8, 13)], 6)
def zi_111 : zkI := (⟨"PropertyStore", "stress", "(I)V"⟩, prog_1_method_21_code, 2, none, [], 0)
def zi_112 : zkI := (⟨"PropertyStore$Memory", "collectBeforeEach", "(I)V"⟩, prog_3_method_6_code, 2, none, [], 2)
def zi_113 : zkI := (⟨"PropertyStoreModel", "<init>", "()V"⟩, prog_7_method_1_code, 1, none, [], 5)
def zi_114 : zkI := (⟨"PropertyStoreModel", "thrown", "()I"⟩, prog_7_method_2_code, 1, (some .int), [], 5)
def zi_115 : zkI := (⟨"PropertyStoreModel", "object", "(IIZ)V"⟩, prog_7_method_13_code, 4, none, [], 5)
def zi_116 : zkI := (⟨"PropertyStoreModel", "isRoot", "(I)Z"⟩, prog_7_method_5_code, 1, (some .boolean), [], 5)
def zi_117 : zkI := (⟨"PropertyStoreModel", "in", "(JJJ)Z"⟩, prog_7_method_3_code, 6, (some .boolean), [], 5)
def zi_118 : zkI := (⟨"PropertyStoreModel", "holds", "(I)Z"⟩, prog_7_method_6_code, 2, (some .boolean), [], 5)
def zi_119 : zkI := (⟨"PropertyStoreModel", "says", "(Z)Z"⟩, prog_7_method_4_code, 2, (some .boolean), [], 5)
def zi_120 : zkI := (⟨"PropertyStoreModel", "newObject", "(IZ)I"⟩, prog_7_method_12_code, 3, (some .int), [], 5)
def zi_121 : zkI := (⟨"PropertyStoreModel", "add", "(IJIIJ)I"⟩, prog_7_method_22_code, 9, (some .int), [], 5)
def zi_122 : zkI := (⟨"PropertyStoreModel", "copy", "(II)V"⟩, prog_7_method_14_code, 3, none, [], 5)
def zi_123 : zkI := (⟨"PropertyStoreModel", "same", "(II)Z"⟩, prog_7_method_15_code, 3, (some .boolean), [], 5)
def zi_124 : zkI := (⟨"PropertyStoreModel", "operand", "(IJ)V"⟩, prog_7_method_16_code, 6, none, [], 5)
def zi_125 : zkI := (⟨"PropertyStoreModel", "kind", "()I"⟩, prog_7_method_17_code, 1, (some .int), [], 5)
def zi_126 : zkI := (⟨"PropertyStoreModel", "bits", "()J"⟩, prog_7_method_18_code, 1, (some .long), [], 5)
def zi_127 : zkI := (⟨"PropertyStoreModel", "hold", "(I)V"⟩, prog_7_method_19_code, 2, none, [], 5)
def zi_128 : zkI := (⟨"PropertyStoreModel", "define", "(IJIIII)I"⟩, prog_7_method_35_code, 11, (some .int), [], 5)
def zi_129 : zkI := (⟨"PropertyStoreModel", "isKey", "(J)Z"⟩, prog_7_method_7_code, 2, (some .boolean), [], 5)
def zi_130 : zkI := (⟨"PropertyStoreModel", "isTold", "(II)Z"⟩, prog_7_method_25_code, 2, (some .boolean), [], 5)
def zi_131 : zkI := (⟨"PropertyStoreModel", "isPart", "(I)Z"⟩, prog_7_method_34_code, 2, (some .boolean), [], 5)
def zi_132 : zkI := (⟨"PropertyStoreModel", "defineOwn", "(IJIIIJI)I"⟩, prog_7_method_33_code, 12, (some .int), [], 5)
def zi_133 : zkI := (⟨"PropertyStoreModel", "defineLength", "(IIIIJ)I"⟩, prog_7_method_32_code, 13, (some .int), [], 5)
def zi_134 : zkI := (⟨"PropertyStoreModel", "asLength", "(IJ)J"⟩, prog_7_method_11_code, 3, (some .long), [], 5)
def zi_135 : zkI := (⟨"PropertyStoreModel", "wholeOf", "(J)J"⟩, prog_7_method_10_code, 5, (some .long), [], 5)
def zi_136 : zkI := (⟨"PropertyStoreModel", "lengthOf", "(I)J"⟩, prog_7_method_30_code, 2, (some .long), [], 5)
def zi_137 : zkI := (⟨"PropertyStoreModel", "find", "(IJ)I"⟩, prog_7_method_20_code, 5, (some .int), [], 5)
def zi_138 : zkI := (⟨"PropertyStoreModel", "bitsOf", "(J)J"⟩, prog_7_method_9_code, 3, (some .long), [], 5)
def zi_139 : zkI := (⟨"PropertyStoreModel", "defineAny", "(IJIIIJI)I"⟩, prog_7_method_29_code, 14, (some .int), [], 5)
def zi_140 : zkI := (⟨"PropertyStoreModel", "isSo", "(IIIIJII)Z"⟩, prog_7_method_26_code, 10, (some .boolean), [], 5)
def zi_141 : zkI := (⟨"PropertyStoreModel", "has", "(II)Z"⟩, prog_7_method_23_code, 3, (some .boolean), [], 5)
def zi_142 : zkI := (⟨"PropertyStoreModel", "isSame", "(IIJ)Z"⟩, prog_7_method_27_code, 5, (some .boolean), [], 5)
def zi_143 : zkI := (⟨"PropertyStoreModel", "resists", "(IIIIJII)Z"⟩, prog_7_method_28_code, 10, (some .boolean), [], 5)
def zi_144 : zkI := (⟨"PropertyStoreModel", "put", "(IIZ)V"⟩, prog_7_method_24_code, 4, none, [], 5)
def zi_145 : zkI := (⟨"PropertyStoreModel", "highest", "(IJ)I"⟩, prog_7_method_31_code, 6, (some .int), [], 5)
def zi_146 : zkI := (⟨"PropertyStoreModel", "get", "(IJ)I"⟩, prog_7_method_36_code, 5, (some .int), [], 5)
def zi_147 : zkI := (⟨"PropertyStoreModel", "lookUp", "(IJ)I"⟩, prog_7_method_21_code, 6, (some .int), [], 5)
def zi_148 : zkI := (⟨"PropertyStoreModel", "result", "(IJ)V"⟩, prog_7_method_8_code, 4, none, [], 5)
def zi_149 : zkI := (⟨"PropertyStoreModel", "put", "(IJ)I"⟩, prog_7_method_37_code, 7, (some .int), [], 5)
def zi_150 : zkI := (⟨"PropertyStoreModel", "own", "(IJ)I"⟩, prog_7_method_38_code, 5, (some .int), [], 5)
def zi_151 : zkI := (⟨"PropertyStoreModel", "setter", "(IJI)Z"⟩, prog_7_method_39_code, 6, (some .boolean), [], 5)
def zi_152 : zkI := (⟨"PropertyStoreModel", "has", "(IJ)Z"⟩, prog_7_method_40_code, 4, (some .boolean), [], 5)
def zi_153 : zkI := (⟨"PropertyStoreModel", "delete", "(IJ)Z"⟩, prog_7_method_41_code, 5, (some .boolean), [], 5)
def zi_154 : zkI := (⟨"PropertyStoreModel", "keys", "(I)I"⟩, prog_7_method_43_code, 2, (some .int), [], 5)
def zi_155 : zkI := (⟨"PropertyStoreModel", "count", "(I)I"⟩, prog_7_method_42_code, 4, (some .int), [], 5)
def zi_156 : zkI := (⟨"PropertyStoreModel", "key", "(II)J"⟩, prog_7_method_45_code, 9, (some .long), [], 5)
def zi_157 : zkI := (⟨"PropertyStoreModel", "isBefore", "(II)Z"⟩, prog_7_method_44_code, 3, (some .boolean), [], 5)
def zi_158 : zkI := (⟨"PropertyStoreModel", "lock", "(II)V"⟩, prog_7_method_46_code, 4, none, [], 5)
def zi_159 : zkI := (⟨"PropertyStoreModel", "locked", "(II)Z"⟩, prog_7_method_47_code, 6, (some .boolean), [], 5)
def zi_160 : zkI := (⟨"PropertyStoreModel", "prototype", "(II)V"⟩, prog_7_method_48_code, 3, none, [], 5)
def zi_161 : zkI := (⟨"PropertyStoreModel", "stress", "(I)V"⟩, prog_7_method_49_code, 2, none, [], 5)
def zi_162 : zkI := (⟨"PropertyStoreLaw", "law", "([I)Z"⟩, code, 8, (some .boolean), [], 6)
def zk_infos : List zkI := [zi_0, zi_1, zi_2, zi_3, zi_4, zi_5, zi_6, zi_7, zi_8, zi_9, zi_10, zi_11, zi_12, zi_13, zi_14, zi_15, zi_16, zi_17, zi_18, zi_19, zi_20, zi_21, zi_22, zi_23, zi_24, zi_25, zi_26, zi_27, zi_28, zi_29, zi_30, zi_31, zi_32, zi_33, zi_34, zi_35, zi_36, zi_37, zi_38, zi_39, zi_40, zi_41, zi_42, zi_43, zi_44, zi_45, zi_46, zi_47, zi_48, zi_49, zi_50, zi_51, zi_52, zi_53, zi_54, zi_55, zi_56, zi_57, zi_58, zi_59, zi_60, zi_61, zi_62, zi_63, zi_64, zi_65, zi_66, zi_67, zi_68, zi_69, zi_70, zi_71, zi_72, zi_73, zi_74, zi_75, zi_76, zi_77, zi_78, zi_79, zi_80, zi_81, zi_82, zi_83, zi_84, zi_85, zi_86, zi_87, zi_88, zi_89, zi_90, zi_91, zi_92, zi_93, zi_94, zi_95, zi_96, zi_97, zi_98, zi_99, zi_100, zi_101, zi_102, zi_103, zi_104, zi_105, zi_106, zi_107, zi_108, zi_109, zi_110, zi_111, zi_112, zi_113, zi_114, zi_115, zi_116, zi_117, zi_118, zi_119, zi_120, zi_121, zi_122, zi_123, zi_124, zi_125, zi_126, zi_127, zi_128, zi_129, zi_130, zi_131, zi_132, zi_133, zi_134, zi_135, zi_136, zi_137, zi_138, zi_139, zi_140, zi_141, zi_142, zi_143, zi_144, zi_145, zi_146, zi_147, zi_148, zi_149, zi_150, zi_151, zi_152, zi_153, zi_154, zi_155, zi_156, zi_157, zi_158, zi_159, zi_160, zi_161, zi_162]
def zk_inf (M : Nat) : zkI := match zk_nth zk_infos M with
  | some q => q
  | none => (⟨"", "", ""⟩, .mk #[], 0, none, [], 99)
def zk_yn (M : Nat) : MethodName := (zk_inf M).1
def zk_own (M : Nat) : String := (zk_inf M).1.cls
def zk_by (M : Nat) : ByteArray := (zk_inf M).2.1
def zk_mxl (M : Nat) : Nat := (zk_inf M).2.2.1
def zk_rt (M : Nat) : Option FieldType := (zk_inf M).2.2.2.1
def zk_hd (M : Nat) : List (Nat × Nat × Nat × Nat) := (zk_inf M).2.2.2.2.1
def zk_pl (M : Nat) : Nat := (zk_inf M).2.2.2.2.2
def zk_cw (M : Nat) : Cond := match zk_hd M with
  | [] => .code (zk_yn M) (zk_by M) (zk_mxl M) (zk_rt M)
  | h :: r => .codeWith (zk_yn M) (zk_by M) (zk_mxl M) (zk_rt M) (h :: r)
/-- an entry of a pool -/
def zk_lk {α : Type} (k : Nat) : List (Nat × α) → Option α
  | [] => none
  | q :: r => bif Nat.beq q.1 k then some q.2 else zk_lk k r
def zk_lk2 {α : Type} (c k : Nat) (l : List (List (Nat × α))) : Option α := match zk_nth l c with
  | some t => zk_lk k t
  | none => none
def zT0 : u_T := fun k => match k with
  | 0 => ("PropertyStore$Description", "told", "I", false)
  | 1 => ("PropertyStore$Description", "flags", "I", false)
  | 2 => ("PropertyStore$Description", "kind", "I", false)
  | 3 => ("PropertyStore$Description", "number", "J", false)
  | 4 => ("PropertyStore$Description", "object", "I", false)
  | 5 => ("PropertyStore$Description", "getter", "I", false)
  | _ => ("PropertyStore$Description", "setter", "I", false)
def zty0 : Nat → FieldType := fun k => match k with
  | 0 => .int
  | 1 => .int
  | 2 => .int
  | 3 => .long
  | 4 => .int
  | 5 => .int
  | _ => .int
def zdf0 : List Value := [.int 0, .int 0, .int 0, .long 0, .int 0, .int 0, .int 0]
def zT1 : u_T := fun k => match k with
  | 0 => ("PropertyStore$Memory", "slots", "[I", true)
  | 1 => ("PropertyStore$Memory", "words", "[J", false)
  | 2 => ("PropertyStore$Memory", "blocks", "I", false)
  | 3 => ("PropertyStore$Memory", "firstFree", "I", false)
  | 4 => ("PropertyStore$Memory", "freeBlocks", "I", false)
  | 5 => ("PropertyStore$Memory", "stressed", "I", false)
  | _ => ("PropertyStore$Memory", "madeSince", "I", false)
def zty1 : Nat → FieldType := fun k => match k with
  | 0 => .array .int
  | 1 => .array .long
  | 2 => .int
  | 3 => .int
  | 4 => .int
  | 5 => .int
  | _ => .int
def zdf1 : List Value := [.null, .null, .int 0, .int 0, .int 0, .int 0, .int 0]
def zT2 : u_T := fun k => match k with
  | _ => ("PropertyStore$ObjectSpace", "memory", "LPropertyStore$Memory;", true)
def zty2 : Nat → FieldType := fun k => match k with
  | _ => .object "PropertyStore$Memory"
def zdf2 : List Value := [.null]
def zT3 : u_T := fun k => match k with
  | 0 => ("PropertyStore", "objects", "LPropertyStore$ObjectSpace;", true)
  | 1 => ("PropertyStore", "memory", "LPropertyStore$Memory;", true)
  | 2 => ("PropertyStore", "description", "LPropertyStore$Description;", true)
  | 3 => ("PropertyStore", "operandKind", "I", false)
  | 4 => ("PropertyStore", "operandNumber", "J", false)
  | 5 => ("PropertyStore", "resultKind", "I", false)
  | _ => ("PropertyStore", "resultNumber", "J", false)
def zty3 : Nat → FieldType := fun k => match k with
  | 0 => .object "PropertyStore$ObjectSpace"
  | 1 => .object "PropertyStore$Memory"
  | 2 => .object "PropertyStore$Description"
  | 3 => .int
  | 4 => .long
  | 5 => .int
  | _ => .long
def zdf3 : List Value := [.null, .null, .null, .int 0, .long 0, .int 0, .long 0]
def zT4 : u_T := fun k => match k with
  | 0 => ("PropertyStoreModel", "thrown", "I", false)
  | 1 => ("PropertyStoreModel", "root", "[I", true)
  | 2 => ("PropertyStoreModel", "objects", "I", false)
  | 3 => ("PropertyStoreModel", "prototype", "[I", true)
  | 4 => ("PropertyStoreModel", "array", "[Z", true)
  | 5 => ("PropertyStoreModel", "fixed", "[Z", true)
  | 6 => ("PropertyStoreModel", "rows", "I", false)
  | 7 => ("PropertyStoreModel", "made", "I", false)
  | 8 => ("PropertyStoreModel", "owner", "[I", true)
  | 9 => ("PropertyStoreModel", "key", "[J", true)
  | 10 => ("PropertyStoreModel", "order", "[I", true)
  | 11 => ("PropertyStoreModel", "flags", "[I", true)
  | 12 => ("PropertyStoreModel", "kind", "[I", true)
  | 13 => ("PropertyStoreModel", "bits", "[J", true)
  | 14 => ("PropertyStoreModel", "getter", "[I", true)
  | 15 => ("PropertyStoreModel", "setter", "[I", true)
  | 16 => ("PropertyStoreModel", "operandKind", "I", false)
  | 17 => ("PropertyStoreModel", "operandBits", "J", false)
  | 18 => ("PropertyStoreModel", "resultKind", "I", false)
  | _ => ("PropertyStoreModel", "resultBits", "J", false)
def zty4 : Nat → FieldType := fun k => match k with
  | 0 => .int
  | 1 => .array .int
  | 2 => .int
  | 3 => .array .int
  | 4 => .array .boolean
  | 5 => .array .boolean
  | 6 => .int
  | 7 => .int
  | 8 => .array .int
  | 9 => .array .long
  | 10 => .array .int
  | 11 => .array .int
  | 12 => .array .int
  | 13 => .array .long
  | 14 => .array .int
  | 15 => .array .int
  | 16 => .int
  | 17 => .long
  | 18 => .int
  | _ => .long
def zdf4 : List Value := [.int 0, .null, .int 0, .null, .null, .null, .int 0, .int 0, .null, .null, .null, .null, .null, .null, .null, .null, .int 0, .long 0, .int 0, .long 0]
abbrev zkCl : List vw_C := [("PropertyStore$Description", zT0, 7), ("PropertyStore$Memory", zT1, 7), ("PropertyStore$ObjectSpace", zT2, 1), ("PropertyStore", zT3, 7), ("PropertyStoreModel", zT4, 20)]
def zk_fty (ci j : Nat) : FieldType := match ci with
  | 0 => zty0 j
  | 1 => zty1 j
  | 2 => zty2 j
  | 3 => zty3 j
  | _ => zty4 j
def zk_df (ci : Nat) : List Value := match ci with
  | 0 => zdf0
  | 1 => zdf1
  | 2 => zdf2
  | 3 => zdf3
  | _ => zdf4
def zk_fnl : List (List Bool) := [[false, false, false, false, false, false, false], [true, false, false, false, false, false, false], [true], [true, true, true, false, false, false, false], [false, true, false, true, true, true, false, false, true, true, true, true, true, true, true, true, false, false, false, false]]
def zk_isf (ci j : Nat) : Bool := match zk_nth zk_fnl ci with
  | some l => match zk_nth l j with
    | some b => b
    | none => true
  | none => true
def zk_ini : List (Nat × Nat) := [(5, 0), (2, 1), (1, 2), (0, 3), (113, 4)]
/-- may a method write this field: it is not final, or the method is the constructor -/
def zk_fin (M ci j : Nat) : Bool := bif zk_isf ci j then (match zk_lk M zk_ini with
  | some c => Nat.beq c ci
  | none => false) else true
/-- the classes whose pools these are -/
def zk_pn : List String := ["PropertyStore", "PropertyStore$Description", "PropertyStore$Memory", "PropertyStore$Numbers", "PropertyStore$ObjectSpace", "PropertyStoreModel", "PropertyStoreLaw", "java/lang/Integer", "java/lang/Long", "java/lang/Math", "java/util/Arrays"]
/-- an entry: its place in the pool; what it names; where the word of it stands in lw_tbl -/
def zk_flL : List (List (Nat × Nat × Nat × Nat × Bool)) := [[(16, 2, 0, 118, true), (12, 3, 0, 157, false), (20, 3, 1, 158, false), (24, 3, 2, 159, false), (63, 3, 3, 160, false), (73, 3, 4, 161, false), (77, 3, 5, 162, false), (85, 3, 6, 163, false)], [(9, 0, 0, 128, false), (15, 0, 1, 130, false), (18, 0, 2, 132, false), (21, 0, 3, 134, false), (25, 0, 4, 136, false), (28, 0, 5, 138, false), (31, 0, 6, 140, false)], [(9, 1, 0, 93, false), (15, 1, 1, 94, false), (19, 1, 2, 95, false), (37, 1, 3, 96, false), (53, 1, 4, 97, false), (27, 1, 5, 98, false), (30, 1, 6, 99, false)], [], [(12, 2, 0, 117, false), (154, 0, 0, 129, true), (157, 0, 1, 131, true), (137, 0, 2, 133, true), (143, 0, 3, 135, true), (147, 0, 4, 137, true), (118, 0, 5, 139, true), (125, 0, 6, 141, true)], [(52, 4, 0, 717, false), (9, 4, 1, 718, false), (13, 4, 2, 719, false), (17, 4, 3, 720, false), (20, 4, 4, 721, false), (24, 4, 5, 722, false), (115, 4, 6, 723, false), (122, 4, 7, 724, false), (27, 4, 8, 725, false), (30, 4, 9, 726, false), (34, 4, 10, 727, false), (37, 4, 11, 728, false), (40, 4, 12, 729, false), (43, 4, 13, 730, false), (46, 4, 14, 731, false), (49, 4, 15, 732, false), (107, 4, 16, 733, false), (112, 4, 17, 734, false), (69, 4, 18, 735, false), (72, 4, 19, 736, false)], [], [], [], [], []]
def zk_fl (M k : Nat) : Option (Nat × Nat) := match zk_lk2 (zk_pl M) k zk_flL with
  | some q => some (q.1, q.2.1)
  | none => none
def zk_mtL : List (List (Nat × Nat × Nat × Nat × Nat × Nat × Nat × Nat)) := [[(3, 1000, 3, 0, 0, 70, 0, 0), (11, 1, 2, 0, 2, 75, 76, 0), (23, 5, 2, 0, 0, 124, 125, 0), (28, 9, 1, 1, 3, 191, 192, 0), (32, 10, 0, 1, 3, 261, 263, 2), (60, 11, 0, 1, 3, 265, 267, 3), (53, 12, 0, 1, 1, 269, 270, 271), (36, 13, 0, 2, 2, 274, 275, 276), (47, 23, 0, 2, 1, 350, 325, 326), (67, 35, 1, 1, 0, 374, 375, 0), (90, 42, 0, 2, 3, 418, 420, 11), (94, 43, 0, 2, 2, 425, 426, 427), (97, 49, 0, 1, 3, 450, 452, 14), (188, 50, 0, 1, 2, 454, 455, 456), (191, 51, 0, 1, 2, 458, 459, 460), (194, 52, 0, 1, 2, 462, 463, 464), (100, 53, 0, 1, 2, 466, 467, 468), (104, 56, 0, 1, 2, 478, 479, 480), (107, 57, 0, 1, 3, 482, 484, 15), (110, 44, 0, 2, 2, 486, 430, 431), (113, 58, 0, 2, 2, 487, 488, 489), (117, 59, 0, 1, 2, 491, 492, 493), (120, 60, 0, 2, 0, 495, 496, 497), (123, 61, 0, 3, 0, 499, 500, 501), (127, 62, 0, 3, 2, 503, 504, 505), (133, 84, 0, 2, 0, 600, 601, 602), (136, 71, 0, 1, 2, 611, 546, 547), (139, 93, 0, 2, 2, 633, 634, 635), (143, 96, 0, 1, 2, 644, 645, 646), (146, 99, 0, 2, 2, 655, 656, 657), (152, 46, 0, 1, 2, 660, 439, 440), (156, 102, 0, 2, 3, 668, 670, 27), (159, 103, 1, 1, 3, 673, 674, 0), (162, 104, 0, 2, 2, 676, 677, 678), (165, 107, 0, 2, 2, 687, 688, 689), (168, 48, 0, 1, 2, 698, 447, 448), (173, 112, 0, 1, 1, 707, 708, 709)], [(3, 1000, 3, 0, 0, 127, 0, 0), (34, 67, 0, 1, 0, 583, 525, 526), (38, 66, 0, 1, 0, 584, 521, 522)], [(3, 1000, 3, 0, 0, 84, 0, 0), (23, 3, 0, 1, 1, 85, 87, 0), (56, 4, 0, 3, 1, 89, 90, 91), (33, 15, 0, 0, 1, 282, 284, 4), (40, 16, 0, 0, 1, 286, 288, 5), (60, 17, 0, 2, 1, 290, 292, 6), (49, 18, 0, 2, 1, 294, 295, 296), (43, 19, 0, 0, 1, 298, 300, 7), (46, 20, 0, 0, 1, 302, 304, 8), (64, 21, 1, 2, 0, 306, 307, 0), (69, 22, 1, 2, 0, 309, 310, 0)], [(27, 26, 1, 1, 0, 337, 338, 0), (17, 77, 1, 1, 0, 568, 569, 0)], [(5, 1000, 3, 0, 0, 78, 0, 0), (11, 2, 2, 0, 1, 81, 82, 0), (18, 14, 0, 0, 1, 278, 279, 280), (22, 4, 0, 3, 1, 323, 90, 91), (26, 23, 0, 2, 1, 324, 325, 326), (34, 24, 0, 2, 2, 330, 332, 9), (170, 25, 1, 1, 0, 334, 335, 0), (160, 28, 0, 4, 2, 345, 347, 10), (55, 44, 0, 2, 2, 429, 430, 431), (44, 45, 0, 1, 2, 433, 435, 12), (38, 18, 0, 2, 1, 437, 295, 296), (48, 46, 0, 1, 2, 438, 439, 440), (52, 47, 0, 1, 2, 442, 444, 13), (59, 48, 0, 1, 2, 446, 447, 448), (77, 63, 0, 3, 2, 507, 509, 16), (93, 64, 0, 2, 2, 511, 513, 17), (69, 58, 0, 2, 2, 515, 488, 489), (108, 65, 0, 2, 2, 516, 518, 18), (112, 66, 0, 1, 0, 520, 521, 522), (81, 67, 0, 1, 0, 524, 525, 526), (115, 53, 0, 1, 2, 528, 467, 468), (122, 52, 0, 1, 2, 529, 463, 464), (128, 56, 0, 1, 2, 530, 479, 480), (131, 68, 0, 2, 2, 531, 533, 19), (134, 50, 0, 1, 2, 535, 455, 456), (140, 51, 0, 1, 2, 536, 459, 460), (100, 69, 0, 2, 2, 537, 539, 20), (150, 70, 0, 1, 2, 541, 543, 21), (62, 71, 0, 1, 2, 545, 546, 547), (65, 59, 0, 1, 2, 549, 492, 493), (97, 72, 0, 3, 2, 550, 552, 22), (104, 73, 1, 2, 2, 554, 555, 0), (73, 74, 0, 3, 2, 557, 559, 23), (86, 75, 0, 3, 2, 561, 563, 24), (164, 76, 1, 2, 0, 565, 566, 0), (174, 61, 0, 3, 0, 574, 500, 501), (90, 78, 0, 1, 2, 575, 577, 25), (178, 79, 0, 1, 0, 579, 580, 581), (181, 80, 0, 2, 2, 585, 587, 26), (184, 81, 1, 2, 0, 589, 590, 0)], [(1, 1000, 3, 0, 0, 716, 0, 0), (61, 116, 1, 1, 4, 787, 788, 0), (57, 117, 1, 3, 4, 791, 792, 0), (94, 118, 0, 1, 4, 794, 796, 28), (97, 119, 0, 1, 4, 798, 800, 29), (101, 120, 0, 2, 4, 802, 804, 30), (90, 121, 0, 5, 4, 807, 809, 31), (169, 129, 1, 1, 4, 842, 843, 0), (129, 130, 1, 2, 4, 848, 849, 0), (175, 131, 0, 1, 4, 851, 853, 32), (178, 132, 0, 7, 4, 855, 857, 33), (165, 133, 0, 5, 4, 859, 861, 34), (147, 134, 1, 2, 4, 863, 864, 0), (84, 135, 1, 1, 4, 866, 867, 0), (151, 136, 0, 1, 4, 872, 874, 35), (118, 137, 0, 2, 4, 876, 878, 36), (155, 138, 1, 1, 4, 880, 881, 0), (158, 139, 0, 7, 4, 883, 885, 37), (136, 140, 0, 7, 4, 887, 889, 38), (125, 141, 0, 2, 4, 891, 893, 39), (132, 142, 0, 3, 4, 895, 897, 40), (140, 143, 0, 7, 4, 899, 901, 41), (143, 144, 0, 3, 4, 903, 905, 42), (162, 145, 0, 2, 4, 907, 909, 43), (181, 147, 0, 2, 4, 915, 917, 44), (184, 148, 0, 2, 4, 919, 921, 45), (188, 155, 0, 1, 4, 947, 949, 46), (192, 157, 0, 2, 4, 955, 957, 47)], [(82, 0, 2, 0, 3, 67, 68, 0), (110, 6, 0, 0, 3, 179, 180, 181), (86, 7, 1, 4, 0, 183, 184, 0), (7, 8, 0, 3, 3, 187, 188, 189), (96, 29, 1, 3, 0, 351, 352, 0), (15, 30, 0, 2, 3, 354, 355, 356), (100, 31, 1, 4, 0, 358, 359, 0), (19, 32, 0, 2, 3, 361, 362, 363), (106, 33, 1, 3, 0, 365, 366, 0), (23, 34, 0, 2, 3, 368, 369, 370), (114, 36, 1, 2, 0, 379, 380, 0), (27, 37, 0, 0, 3, 383, 384, 385), (118, 38, 1, 2, 0, 403, 404, 0), (33, 39, 0, 1, 3, 406, 407, 408), (122, 40, 1, 4, 0, 411, 412, 0), (37, 41, 0, 2, 3, 414, 415, 416), (126, 54, 1, 4, 0, 471, 472, 0), (41, 55, 0, 2, 3, 474, 475, 476), (129, 82, 1, 8, 0, 592, 593, 0), (44, 83, 0, 6, 3, 595, 596, 597), (133, 85, 1, 4, 0, 604, 605, 0), (48, 86, 0, 2, 3, 607, 608, 609), (136, 87, 1, 5, 0, 612, 613, 0), (51, 88, 0, 3, 3, 615, 616, 617), (140, 89, 1, 4, 0, 619, 620, 0), (55, 90, 0, 2, 3, 622, 623, 624), (143, 91, 1, 4, 0, 626, 627, 0), (59, 92, 0, 2, 3, 629, 630, 631), (146, 94, 1, 3, 0, 637, 638, 0), (62, 95, 0, 1, 3, 640, 641, 642), (150, 97, 1, 4, 0, 648, 649, 0), (66, 98, 0, 2, 3, 651, 652, 653), (153, 100, 1, 3, 0, 661, 662, 0), (70, 101, 0, 2, 3, 664, 665, 666), (156, 105, 1, 4, 0, 680, 681, 0), (73, 106, 0, 2, 3, 683, 684, 685), (159, 108, 1, 3, 0, 691, 692, 0), (76, 109, 0, 2, 3, 694, 695, 696), (162, 110, 1, 2, 0, 699, 700, 0), (79, 111, 0, 1, 3, 702, 703, 704), (85, 113, 2, 0, 4, 713, 714, 0), (92, 114, 0, 0, 4, 779, 780, 781), (91, 115, 0, 3, 4, 783, 784, 785), (99, 122, 0, 2, 4, 811, 812, 813), (103, 123, 0, 2, 4, 815, 816, 817), (109, 124, 0, 2, 4, 819, 820, 821), (113, 125, 0, 0, 4, 826, 827, 828), (117, 126, 0, 0, 4, 830, 831, 832), (121, 127, 0, 1, 4, 834, 835, 836), (132, 128, 0, 6, 4, 838, 839, 840), (125, 146, 0, 2, 4, 911, 912, 913), (128, 149, 0, 2, 4, 923, 924, 925), (135, 150, 0, 2, 4, 927, 928, 929), (139, 151, 0, 3, 4, 931, 932, 933), (142, 152, 0, 2, 4, 935, 936, 937), (145, 153, 0, 2, 4, 939, 940, 941), (149, 154, 0, 1, 4, 943, 944, 945), (152, 156, 0, 2, 4, 951, 952, 953), (155, 158, 0, 2, 4, 959, 960, 961), (158, 159, 0, 2, 4, 964, 965, 966), (161, 160, 0, 2, 4, 968, 969, 970), (164, 161, 0, 1, 4, 972, 973, 974)], [], [(308, 27, 1, 1, 0, 340, 341, 0)], [], [(304, 21, 1, 2, 0, 319, 307, 0), (150, 2000, 4, 5, 0, 320, 0, 0)]]
def zk_mt (M k : Nat) : Option (Nat × Nat × Nat × Nat) := match zk_lk2 (zk_pl M) k zk_mtL with
  | some q => some (q.1, q.2.1, q.2.2.1, q.2.2.2.1)
  | none => none
def zk_clL : List (List (Nat × Nat × Nat)) := [[(9, 2, 73), (21, 0, 122)], [], [], [], [(1, 1, 79)], [], [(8, 3, 65), (83, 4, 711)], [], [], [], []]
def zk_cl (M k : Nat) : Option Nat := match zk_lk2 (zk_pl M) k zk_clL with
  | some q => some q.1
  | none => none
def zk_xcL : List (List (Nat × Nat × Nat)) := [[(40, 0, 194), (80, 1, 387)], [], [], [], [], [], [(13, 0, 186), (31, 1, 382)], [], [], [], []]
def zk_xc (M k : Nat) : Option Nat := match zk_lk2 (zk_pl M) k zk_xcL with
  | some q => some q.1
  | none => none
def zk_xk (M k : Nat) : Option Nat := zk_xc M k
def zk_kiL : List (List (Nat × Int32 × Nat)) := [[], [], [], [], [], [], [], [(264, 65536, 343)], [], [], []]
def zk_ki (M k : Nat) : Option Int32 := match zk_lk2 (zk_pl M) k zk_kiL with
  | some q => some q.1
  | none => none
def zk_klL : List (List (Nat × Int64 × Nat)) := [[(58, 24, 373), (180, (-64), 422), (182, 4294967294, 423)], [], [], [(13, 4503599627370495, 344), (11, 9218868437227405312, 377), (15, 9221120237041090560, 378), (23, (-9223372036854775808), 571), (21, (-1), 572), (25, 4503599627370496, 573)], [(30, (-1), 328), (32, 2, 329), (42, 64, 470)], [(55, 23, 790), (80, (-1), 806), (105, 5, 823), (78, 2047, 824), (110, 9221120237041090560, 825), (65, (-64), 845), (67, 4294967294, 846), (173, 63, 847), (76, 4503599627370495, 869), (82, 4503599627370496, 870), (88, 3, 871), (195, 2, 963)], [(104, 4294967295, 976)], [], [], [], []]
def zk_kl (M k : Nat) : Option Int64 := match zk_lk2 (zk_pl M) k zk_klL with
  | some q => some q.1
  | none => none
/-- where a method's code word stands; its class's initialized word -/
def zk_cwP : List (Nat × Nat) := [(69, 49), (77, 50), (83, 51), (88, 51), (92, 51), (126, 52), (182, 49), (185, 48), (190, 49), (193, 49), (264, 49), (268, 49), (272, 51), (277, 50), (281, 51), (285, 51), (289, 51), (293, 51), (297, 51), (301, 51), (305, 51), (308, 58), (311, 59), (327, 51), (333, 50), (336, 61), (339, 62), (342, 63), (348, 50), (353, 48), (357, 49), (360, 48), (364, 49), (367, 48), (371, 49), (376, 61), (381, 48), (386, 49), (405, 48), (409, 49), (413, 48), (417, 49), (421, 49), (428, 50), (432, 50), (436, 50), (441, 50), (445, 50), (449, 50), (453, 49), (457, 50), (461, 50), (465, 50), (469, 50), (473, 48), (477, 49), (481, 50), (485, 49), (490, 50), (494, 50), (498, 52), (502, 52), (506, 50), (510, 50), (514, 50), (519, 50), (523, 52), (527, 52), (534, 50), (540, 50), (544, 50), (548, 50), (553, 50), (556, 50), (560, 50), (564, 50), (567, 61), (570, 61), (578, 50), (582, 52), (588, 50), (591, 58), (594, 48), (598, 49), (603, 52), (606, 48), (610, 49), (614, 48), (618, 49), (621, 48), (625, 49), (628, 48), (632, 49), (636, 50), (639, 48), (643, 49), (647, 50), (650, 48), (654, 49), (658, 50), (663, 48), (667, 49), (671, 49), (675, 49), (679, 50), (682, 48), (686, 49), (690, 50), (693, 48), (697, 49), (701, 48), (705, 49), (710, 51), (715, 53), (782, 53), (786, 53), (789, 53), (793, 53), (797, 53), (801, 53), (805, 53), (810, 53), (814, 53), (818, 53), (822, 53), (829, 53), (833, 53), (837, 53), (841, 53), (844, 53), (850, 53), (854, 53), (858, 53), (862, 53), (865, 53), (868, 53), (875, 53), (879, 53), (882, 53), (886, 53), (890, 53), (894, 53), (898, 53), (902, 53), (906, 53), (910, 53), (914, 53), (918, 53), (922, 53), (926, 53), (930, 53), (934, 53), (938, 53), (942, 53), (946, 53), (950, 53), (954, 53), (958, 53), (962, 53), (967, 53), (971, 53), (975, 53), (0, 48)]
/-- per class of the worlds: its instantiable and initialized words -/
def zk_ciP : List (Nat × Nat) := [(123, 52), (80, 51), (74, 50), (66, 49), (712, 53)]
def zk_lyP : List (List Nat) := [[142, 144, 146, 148, 150, 152, 154], [100, 102, 104, 106, 108, 110, 112], [119], [164, 166, 168, 170, 172, 174, 176], [737, 739, 741, 743, 745, 747, 749, 751, 753, 755, 757, 759, 761, 763, 765, 767, 769, 771, 773, 775]]
def zk_oiP : Nat × Nat := (71, 72)
def zk_acP : Nat × Nat × Nat := (322, 321, 60)
def zk_xn (x : Nat) : String := bif Nat.beq x 0 then "java/lang/IllegalArgumentException" else "java/lang/IllegalStateException"
def zk_xs : List (Nat × String) := [(176, "no such root"), (178, "the root holds nothing"), (42, "no room"), (56, "no such kind"), (82, "the result is no number"), (88, "the result is no object"), (184, "no such key"), (131, "no such description"), (150, "no such turn among the keys"), (186, "no such lock"), (171, "below 0")]
def zk_xok (M x j ic : Nat) : Bool := Nat.beq (zk_pl M) 0 && ((Nat.beq x 0 && Nat.beq ic 44) || (Nat.beq x 1 && Nat.beq ic 84)) && (zk_lk j zk_xs).isSome
end
section
/-! AN ABSTRACT MACHINE: the bytecode of the methods of the tables, over a heap that is a list of cells. A reference is a place in that list. What it computes is a function; the real machine does the same (part 80). -/
abbrev zkE : Type := (FieldType × vp_A) ⊕ (Nat × List Value)
/-- slots made so far; the cells (none: a cell that nobody looks at any more) -/
abbrev zkH : Type := Nat × List (Option zkE)
abbrev zkL : Type := List (Nat × Value)
/-- pc, locals, stack, heap -/
abbrev zkS : Type := Nat × zkL × List Value × zkH
/-- returned (with what), or threw (which kind) -/
abbrev zkO : Type := (Option Value ⊕ Nat) × zkH
def zk_get (lv : zkL) (i : Nat) : Option Value := match lv with
  | [] => none
  | q :: r => bif Nat.beq q.1 i then some q.2 else zk_get r i
def zk_put1 (lv : zkL) (i : Nat) (v : Value) : zkL := (i, v) :: lv.filter (fun q => !(q.1 == i) && !(q.1 + 1 == i && q.2.category == 2))
def zk_put2 (lv : zkL) (i : Nat) (v : Value) : zkL := (i, v) :: lv.filter (fun q => !(q.1 == i) && (!(q.1 == i + 1) && !(q.1 + 1 == i && q.2.category == 2)))
def zk_del (lv : zkL) (i : Nat) : zkL := lv.filter (fun q => !(q.1 == i) && !(q.1 + 1 == i && q.2.category == 2))
def zk_cell (h : zkH) (a : Nat) : Option zkE := match h.2[a]? with
  | some (some e) => some e
  | _ => none
def zk_set (h : zkH) (a : Nat) (e : zkE) : zkH := (h.1, h.2.set a (some e))
def zk_push (h : zkH) (n : Nat) (e : Option zkE) : zkH := (h.1 + n, h.2 ++ [e])
def zk_len (h : zkH) : Nat := h.2.length
/-- what may lie in a field of a type -/
def zk_fit (ty : FieldType) (v : Value) : Bool := match ty, v with
  | .int, .int _ => true
  | .long, .long _ => true
  | .object _, .ref _ => true
  | .array _, .ref _ => true
  | _, _ => false
/-- elements of arrays: of ints, booleans, longs -/
def zk_aldi (e : zkE) (i : Int32) : Option Value := match e with
  | .inl (.int, n, .inl f) => if 0 ≤ i ∧ i.toNatClampNeg < n then some (.int (f i.toNatClampNeg)) else none
  | _ => none
def zk_aldz (e : zkE) (i : Int32) : Option Value := match e with
  | .inl (.boolean, n, .inl f) => if 0 ≤ i ∧ i.toNatClampNeg < n then some (.int (f i.toNatClampNeg)) else none
  | _ => none
def zk_aldl (e : zkE) (i : Int32) : Option Value := match e with
  | .inl (.long, n, .inr (.inl f)) => if 0 ≤ i ∧ i.toNatClampNeg < n then some (.long (f i.toNatClampNeg)) else none
  | _ => none
def zk_asti (e : zkE) (i x : Int32) : Option zkE := match e with
  | .inl (.int, n, .inl f) => if 0 ≤ i ∧ i.toNatClampNeg < n then some (.inl (.int, n, .inl (upd f i.toNatClampNeg x))) else none
  | _ => none
def zk_astz (e : zkE) (i x : Int32) : Option zkE := match e with
  | .inl (.boolean, n, .inl f) => if 0 ≤ i ∧ i.toNatClampNeg < n then some (.inl (.boolean, n, .inl (upd f i.toNatClampNeg (vp_nar .boolean x)))) else none
  | _ => none
def zk_astl (e : zkE) (i : Int32) (x : Int64) : Option zkE := match e with
  | .inl (.long, n, .inr (.inl f)) => if 0 ≤ i ∧ i.toNatClampNeg < n then some (.inl (.long, n, .inr (.inl (vp_updL f i.toNatClampNeg x)))) else none
  | _ => none
/-- the conditions of the branches -/
def zk_if (c : ClassFile.Cond) (x : Int32) : Bool := match c with
  | .eq => decide (x = 0)
  | .ne => decide (¬ x = 0)
  | .lt => decide (x < 0)
  | .ge => decide (0 ≤ x)
  | .gt => decide (0 < x)
  | .le => decide (x ≤ 0)
def zk_icmp (c : ClassFile.Cond) (x y : Int32) : Bool := match c with
  | .eq => decide (x = y)
  | .ne => decide (¬ x = y)
  | .lt => decide (x < y)
  | .ge => decide (y ≤ x)
  | .gt => decide (y < x)
  | .le => decide (x ≤ y)
/-- the law's script: its length, its ints; place 0 is it -/
abbrev zkX : Type := Nat × (Nat → Int32)
def zk_arr (X : zkX) (h : zkH) (a : Nat) : Option zkE := bif Nat.beq a 0 then some (.inl (.int, X.1, .inl X.2)) else zk_cell h a
def zk_alen (e : zkE) : Option Int32 := match e with
  | .inl (.int, n, .inl _) => some (Int32.ofNat n)
  | .inl (.boolean, n, .inl _) => some (Int32.ofNat n)
  | .inl (.long, n, .inr (.inl _)) => some (Int32.ofNat n)
  | _ => none
/-- instructions that stay in the frame: locals, stack, arithmetic, branches -/
def zk_loc1 (M : Nat) (i : Instr) (nx tg : Nat) (lv : zkL) (st : List Value) : Option (Nat × zkL × List Value) := match i with
  | .aload k => match zk_get lv k with
    | some (.ref a) => some (nx, lv, .ref a :: st)
    | _ => none
  | .aload_n k => match zk_get lv k.val with
    | some (.ref a) => some (nx, lv, .ref a :: st)
    | _ => none
  | .iload k => match zk_get lv k with
    | some (.int x) => some (nx, lv, .int x :: st)
    | _ => none
  | .iload_n k => match zk_get lv k.val with
    | some (.int x) => some (nx, lv, .int x :: st)
    | _ => none
  | .lload k => match zk_get lv k with
    | some (.long x) => some (nx, lv, .long x :: st)
    | _ => none
  | .lload_n k => match zk_get lv k.val with
    | some (.long x) => some (nx, lv, .long x :: st)
    | _ => none
  | .istore k => match st with
    | .int x :: r => bif Nat.blt k (zk_mxl M) then some (nx, zk_put1 lv k (.int x), r) else none
    | _ => none
  | .istore_n k => match st with
    | .int x :: r => bif Nat.blt k.val (zk_mxl M) then some (nx, zk_put1 lv k.val (.int x), r) else none
    | _ => none
  | .lstore k => match st with
    | .long x :: r => bif Nat.blt (k + 1) (zk_mxl M) then some (nx, zk_put2 lv k (.long x), r) else none
    | _ => none
  | .lstore_n k => match st with
    | .long x :: r => bif Nat.blt (k.val + 1) (zk_mxl M) then some (nx, zk_put2 lv k.val (.long x), r) else none
    | _ => none
  | .astore k => match st with
    | .ref x :: r => bif Nat.blt k (zk_mxl M) then some (nx, zk_put1 lv k (.ref x), r) else none
    | _ => none
  | .astore_n k => match st with
    | .ref x :: r => bif Nat.blt k.val (zk_mxl M) then some (nx, zk_put1 lv k.val (.ref x), r) else none
    | _ => none
  | .iinc k n => match zk_get lv k with
    | some (.int x) => bif Nat.blt k (zk_mxl M) then some (nx, zk_put1 lv k (.int (x + Int32.ofInt n)), st) else none
    | _ => none
  | .iconst n => some (nx, lv, .int (Int32.ofInt n) :: st)
  | .lconst n => some (nx, lv, .long (Int64.ofNat n.val) :: st)
  | .bipush n => some (nx, lv, .int (Int8.ofInt n).toInt32 :: st)
  | .sipush n => some (nx, lv, .int (Int16.ofInt n).toInt32 :: st)
  | .ldc k => match zk_ki M k with
    | some v => some (nx, lv, .int v :: st)
    | none => none
  | .ldc_w k => match zk_ki M k with
    | some v => some (nx, lv, .int v :: st)
    | none => none
  | .ldc2_w k => match zk_kl M k with
    | some v => some (nx, lv, .long v :: st)
    | none => none
  | .dup => match st with
    | .int x :: r => some (nx, lv, .int x :: .int x :: r)
    | .ref x :: r => some (nx, lv, .ref x :: .ref x :: r)
    | _ => none
  | .pop => match st with
    | .int _ :: r => some (nx, lv, r)
    | .ref _ :: r => some (nx, lv, r)
    | _ => none
  | _ => none
def zk_loc2 (i : Instr) (nx : Nat) (st : List Value) : Option (Nat × List Value) := match i with
  | .iadd => match st with
    | .int y :: .int x :: r => some (nx, .int (x + y) :: r)
    | _ => none
  | .isub => match st with
    | .int y :: .int x :: r => some (nx, .int (x - y) :: r)
    | _ => none
  | .imul => match st with
    | .int y :: .int x :: r => some (nx, .int (x * y) :: r)
    | _ => none
  | .idiv => match st with
    | .int y :: .int x :: r => if y = 0 then none else some (nx, .int (x / y) :: r)
    | _ => none
  | .irem => match st with
    | .int y :: .int x :: r => if y = 0 then none else some (nx, .int (x - x / y * y) :: r)
    | _ => none
  | .iand => match st with
    | .int y :: .int x :: r => some (nx, .int (x &&& y) :: r)
    | _ => none
  | .ior => match st with
    | .int y :: .int x :: r => some (nx, .int (x ||| y) :: r)
    | _ => none
  | .ixor => match st with
    | .int y :: .int x :: r => some (nx, .int (x ^^^ y) :: r)
    | _ => none
  | .ishl => match st with
    | .int y :: .int x :: r => some (nx, .int (x <<< (y &&& 31)) :: r)
    | _ => none
  | .iushr => match st with
    | .int y :: .int x :: r => some (nx, .int (x.toUInt32 >>> (y.toUInt32 &&& Int32.toUInt32 31)).toInt32 :: r)
    | _ => none
  | .ladd => match st with
    | .long y :: .long x :: r => some (nx, .long (x + y) :: r)
    | _ => none
  | .lsub => match st with
    | .long y :: .long x :: r => some (nx, .long (x - y) :: r)
    | _ => none
  | .land => match st with
    | .long y :: .long x :: r => some (nx, .long (x &&& y) :: r)
    | _ => none
  | .lor => match st with
    | .long y :: .long x :: r => some (nx, .long (x ||| y) :: r)
    | _ => none
  | .lshl => match st with
    | .int y :: .long x :: r => some (nx, .long (x <<< (y.toInt64 &&& 63)) :: r)
    | _ => none
  | .lshr => match st with
    | .int y :: .long x :: r => some (nx, .long (x >>> (y.toInt64 &&& 63)) :: r)
    | _ => none
  | .lushr => match st with
    | .int y :: .long x :: r => some (nx, .long (x.toUInt64 >>> (y.toInt64.toUInt64 &&& Int64.toUInt64 63)).toInt64 :: r)
    | _ => none
  | .i2l => match st with
    | .int x :: r => some (nx, .long x.toInt64 :: r)
    | _ => none
  | .l2i => match st with
    | .long x :: r => some (nx, .int x.toInt32 :: r)
    | _ => none
  | .lcmp => match st with
    | .long y :: .long x :: r => some (nx, .int (lg_cmp x y) :: r)
    | _ => none
  | _ => none
def zk_loc3 (i : Instr) (pc nx tg : Nat) (st : List Value) : Option (Nat × List Value) := match i with
  | .goto _ => some (tg, st)
  | .ifCond c _ => match st with
    | .int x :: r => some (bif zk_if c x then tg else nx, r)
    | _ => none
  | .if_icmp c _ => match st with
    | .int y :: .int x :: r => some (bif zk_icmp c x y then tg else nx, r)
    | _ => none
  | .tableswitch d lo hi offs => match st with
    | .int x :: r => if x.toInt < lo ∨ hi < x.toInt then some (((pc : Int) + d).toNat, r) else
      match offs[(x.toInt - lo).toNat]? with
      | some o => some (((pc : Int) + o).toNat, r)
      | none => none
    | _ => none
  | _ => none
def zk_blank (t : ArrayType) (n : Nat) : Option zkE := match t with
  | .int => some (.inl (.int, n, .inl (fun _ => 0)))
  | .long => some (.inl (.long, n, .inr (.inl (fun _ => 0))))
  | .boolean => some (.inl (.boolean, n, .inl (fun _ => 0)))
  | _ => none
/-- instructions that look at the heap -/
def zk_loc4 (X : zkX) (M : Nat) (i : Instr) (nx : Nat) (st : List Value) (h : zkH) : Option (Nat × List Value × zkH) := match i with
  | .getfield k => match st with
    | .ref a :: r => match zk_cell h a, zk_fl M k with
      | some (.inr (ci, fs)), some (c2, j) => bif Nat.beq ci c2 then
          match fs[j]? with
          | some v => some (nx, v :: r, h)
          | none => none
        else none
      | _, _ => none
    | _ => none
  | .putfield k => match st with
    | v :: .ref a :: r => match zk_cell h a, zk_fl M k with
      | some (.inr (ci, fs)), some (c2, j) => bif Nat.beq ci c2 && zk_fit (zk_fty ci j) v && Nat.blt j fs.length && zk_fin M ci j then some (nx, r, zk_set h a (.inr (ci, fs.set j v))) else none
      | _, _ => none
    | _ => none
  | .iaload => match st with
    | .int x :: .ref a :: r => match zk_arr X h a with
      | some e => match zk_aldi e x with
        | some v => some (nx, v :: r, h)
        | none => none
      | none => none
    | _ => none
  | .laload => match st with
    | .int x :: .ref a :: r => match zk_cell h a with
      | some e => match zk_aldl e x with
        | some v => some (nx, v :: r, h)
        | none => none
      | none => none
    | _ => none
  | .baload => match st with
    | .int x :: .ref a :: r => match zk_cell h a with
      | some e => match zk_aldz e x with
        | some v => some (nx, v :: r, h)
        | none => none
      | none => none
    | _ => none
  | .iastore => match st with
    | .int v :: .int x :: .ref a :: r => match zk_cell h a with
      | some e => match zk_asti e x v with
        | some e2 => some (nx, r, zk_set h a e2)
        | none => none
      | none => none
    | _ => none
  | .lastore => match st with
    | .long v :: .int x :: .ref a :: r => match zk_cell h a with
      | some e => match zk_astl e x v with
        | some e2 => some (nx, r, zk_set h a e2)
        | none => none
      | none => none
    | _ => none
  | .bastore => match st with
    | .int v :: .int x :: .ref a :: r => match zk_cell h a with
      | some e => match zk_astz e x v with
        | some e2 => some (nx, r, zk_set h a e2)
        | none => none
      | none => none
    | _ => none
  | .arraylength => match st with
    | .ref a :: r => match zk_arr X h a with
      | some e => match zk_alen e with
        | some v => some (nx, .int v :: r, h)
        | none => none
      | none => none
    | _ => none
  | .newarray t => match st with
    | .int x :: r => match zk_blank t x.toNatClampNeg with
      | some e => if 0 ≤ x ∧ x.toNatClampNeg ≤ 1000000 then some (nx, .ref (zk_len h) :: r, zk_push h x.toNatClampNeg (some e)) else none
      | none => none
    | _ => none
  | .new k => match zk_cl M k with
    | some ci => some (nx, .ref (zk_len h) :: st, zk_push h (zk_df ci).length (some (.inr (ci, zk_df ci))))
    | none => none
  | _ => none
/-- calls that are done in place: Object's constructor, System.arraycopy of longs -/
def zk_loc5 (M : Nat) (i : Instr) (nx : Nat) (st : List Value) (h : zkH) : Option (Nat × List Value × zkH) := match i with
  | .invokespecial k => match zk_mt M k with
    | some (_, 3, _, _) => match st with
      | .ref _ :: r => bif Nat.ble ((r.map Value.category).sum) 8 then some (nx, r, h) else none
      | _ => none
    | _ => none
  | .invokestatic k => match zk_mt M k with
    | some (_, 4, _, _) => match st with
      | .int n :: .int dp :: .ref d :: .int sp :: .ref a :: r => match zk_cell h a, zk_cell h d with
        | some (.inl (.long, n0, .inr (.inl f))), some (.inl (.long, n1, .inr (.inl g))) =>
          if (0 ≤ sp ∧ 0 ≤ dp ∧ 0 ≤ n) ∧ sp.toNatClampNeg + n.toNatClampNeg ≤ n0 ∧ dp.toNatClampNeg + n.toNatClampNeg ≤ n1 ∧ (r.map Value.category).sum ≤ 8 then some (nx, r, zk_set h d (.inl (.long, n1, .inr (.inl (va_cpy f g sp.toNatClampNeg dp.toNatClampNeg n.toNatClampNeg))))) else none
        | _, _ => none
      | _ => none
    | _ => none
  | _ => none
def zk_loc (X : zkX) (M : Nat) (i : Instr) (nx tg : Nat) (s : zkS) : Option zkS := match zk_loc1 M i nx tg s.2.1 s.2.2.1 with
  | some (pc', lv', st') => some (pc', lv', st', s.2.2.2)
  | none => match zk_loc2 i nx s.2.2.1 with
    | some (pc', st') => some (pc', s.2.1, st', s.2.2.2)
    | none => match zk_loc3 i s.1 nx tg s.2.2.1 with
      | some (pc', st') => some (pc', s.2.1, st', s.2.2.2)
      | none => match zk_loc4 X M i nx s.2.2.1 s.2.2.2 with
        | some (pc', st', h') => some (pc', s.2.1, st', h')
        | none => match zk_loc5 M i nx s.2.2.1 s.2.2.2 with
          | some (pc', st', h') => some (pc', s.2.1, st', h')
          | none => none
/-- the end of a frame: a return -/
def zk_end (M : Nat) (i : Instr) (s : zkS) : Option zkO := match i with
  | .ireturn => match s.2.2.1 with
    | [.int x] => match zk_rt M with
      | some .int => some (.inl (some (.int x)), s.2.2.2)
      | some .boolean => if vp_nar .boolean x = x then some (.inl (some (.int x)), s.2.2.2) else none
      | _ => none
    | _ => none
  | .lreturn => match s.2.2.1 with
    | [.long x] => match zk_rt M with
      | some .long => some (.inl (some (.long x)), s.2.2.2)
      | _ => none
    | _ => none
  | .areturn => match s.2.2.1 with
    | [.ref x] => match zk_rt M with
      | some (.array _) => some (.inl (some (.ref x)), s.2.2.2)
      | _ => none
    | _ => none
  | .return_ => match s.2.2.1 with
    | [] => match zk_rt M with
      | none => some (.inl none, s.2.2.2)
      | _ => none
    | _ => none
  | _ => none
/-- the end of a frame: new X; dup; ldc; invokespecial; athrow, in a method without a handler -/
def zk_thr (M : Nat) (i : Instr) (nx : Nat) (s : zkS) : Option zkO := match i with
  | .new k => match zk_xc M k with
    | some x => match zk_ins M nx with
      | some (.dup, n2, _) => match zk_ins M n2 with
        | some (.ldc j, n3, _) => match zk_ins M n3 with
          | some (.invokespecial ic, n4, _) => match zk_ins M n4 with
            | some (.athrow, _, _) => bif (zk_hd M).isEmpty && zk_xok M x j ic && Nat.ble ((s.2.2.1.map Value.category).sum) 8 then some (.inr x, zk_push s.2.2.2 6 none) else none
            | _ => none
          | _ => none
        | _ => none
      | _ => none
    | none => none
  | _ => none
/-- the arguments of a call, from the stack -/
def zk_pop : Nat → List Value → List Value → Option (List Value × List Value)
  | 0, acc, st => some (acc, st)
  | n + 1, acc, v :: st => zk_pop n (v :: acc) st
  | _ + 1, _, [] => none
def zk_inv (M : Nat) (i : Instr) (st : List Value) (h : zkH) : Option (Nat × List Value × List Value) := match i with
  | .invokevirtual k => match zk_mt M k with
    | some (M2, 0, n, ci) => match zk_pop n [] st with
      | some (as, .ref b :: r) => match zk_cell h b with
        | some (.inr (c2, _)) => bif Nat.beq ci c2 && Nat.ble ((r.map Value.category).sum) 8 then some (M2, .ref b :: as, r) else none
        | _ => none
      | _ => none
    | _ => none
  | .invokestatic k => match zk_mt M k with
    | some (M2, 1, n, _) => match zk_pop n [] st with
      | some (as, r) => bif Nat.ble ((r.map Value.category).sum) 8 then some (M2, as, r) else none
      | _ => none
    | _ => none
  | .invokespecial k => match zk_mt M k with
    | some (M2, 2, n, _) => match zk_pop n [] st with
      | some (as, .ref b :: r) => bif Nat.ble ((r.map Value.category).sum) 8 then some (M2, .ref b :: as, r) else none
      | _ => none
    | _ => none
  | _ => none
def zk_catch (M pc x : Nat) : List (Nat × Nat × Nat × Nat) → Option (Option Nat)
  | [] => some none
  | q :: r => bif Nat.ble q.1 pc && Nat.blt pc q.2.1 then
      match zk_xk M q.2.2.2 with
      | none => none
      | some y => bif Nat.beq y x then some (some q.2.2.1) else zk_catch M pc x r
    else zk_catch M pc x r
/-- at a handler: the exception goes into a local that is known no more -/
def zk_hnd (M hp : Nat) (lv : zkL) : Option (Nat × zkL) := match zk_ins M hp with
  | some (.astore k, nx, _) => bif Nat.blt k (zk_mxl M) then some (nx, zk_del lv k) else none
  | some (.astore_n k, nx, _) => bif Nat.blt k.val (zk_mxl M) then some (nx, zk_del lv k.val) else none
  | _ => none
/-- what follows a call that came back with o -/
def zk_back (go : zkS → Option zkO) (M pc nx : Nat) (lv : zkL) (rest : List Value) (o : zkO) : Option zkO := match o.1 with
  | .inl v => go (nx, lv, v.toList ++ rest, o.2)
  | .inr x => match zk_catch M pc x (zk_hd M) with
    | none => none
    | some none => some (.inr x, o.2)
    | some (some hp) => match zk_hnd M hp lv with
      | none => none
      | some (n2, lv2) => go (n2, lv2, [], o.2)
/-- how many frames more an instruction wants -/
def zk_bud (d M : Nat) (i : Instr) : Bool := match i with
  | .invokespecial k => match zk_mt M k with
    | some (_, 3, _, _) => Nat.ble 1 d
    | _ => true
  | .invokestatic k => match zk_mt M k with
    | some (_, 4, _, _) => Nat.ble 1 d
    | _ => true
  | .new k => match zk_xc M k with
    | some _ => Nat.ble 6 d
    | none => true
  | _ => true
theorem zk_bud_mono {d d2 M : Nat} {i : Instr} (hd : d ≤ d2) (h : zk_bud d M i = true) : zk_bud d2 M i = true := by
  unfold zk_bud at h ⊢
  have key : ∀ k : Nat, Nat.ble k d = true → Nat.ble k d2 = true := fun k hk => Nat.ble_eq_true_of_le (Nat.le_trans (Nat.le_of_ble_eq_true hk) hd)
  split at h
  · split at h
    · exact key 1 h
    · rfl
  · split at h
    · exact key 1 h
    · rfl
  · split at h
    · exact key 6 h
    · rfl
  · rfl
def zk_run (X : zkX) (call : Nat → List Value → zkH → Option zkO) (d M : Nat) : Nat → zkS → Option zkO
  | 0, _ => none
  | n + 1, s => match zk_ins M s.1 with
    | none => none
    | some (i, nx, tg) => bif zk_bud d M i then
      match zk_loc X M i nx tg s with
      | some s2 => zk_run X call d M n s2
      | none => match zk_end M i s with
        | some o => some o
        | none => match zk_thr M i nx s with
          | some o => some o
          | none => match zk_inv M i s.2.2.1 s.2.2.2 with
            | none => none
            | some (M2, as, rest) => match call M2 as s.2.2.2 with
              | none => none
              | some o => zk_back (zk_run X call d M n) M s.1 nx s.2.1 rest o
      else none
def zk_call (X : zkX) (n : Nat) : Nat → Nat → List Value → zkH → Option zkO
  | 0, _, _, _ => none
  | d + 1, M, as, h => bif Nat.ble (lg_sl as).length (zk_mxl M) then zk_run X (zk_call X n d) d M n (0, lv_args 0 as, [], h) else none
/-- a frame comes to an end with Q; a call comes back with Q -/
def zk_W (X : zkX) (d M : Nat) (s : zkS) (Q : zkO → Prop) : Prop := ∃ n o, zk_run X (zk_call X n d) d M n s = some o ∧ Q o
def zk_C (X : zkX) (d M : Nat) (as : List Value) (h : zkH) (Q : zkO → Prop) : Prop := ∃ n o, zk_call X n d M as h = some o ∧ Q o
theorem zk_back_mono {go1 go2 : zkS → Option zkO} (hg : ∀ s o, go1 s = some o → go2 s = some o) {M pc nx : Nat} {lv : zkL} {rest : List Value} {o q : zkO} (h : zk_back go1 M pc nx lv rest o = some q) : zk_back go2 M pc nx lv rest o = some q := by
  unfold zk_back at h ⊢
  split at h
  · rename_i v hv
    try simp only [hv]
    exact hg _ _ h
  · rename_i x hx
    try simp only [hx]
    split at h
    · cases h
    · rename_i hc
      try simp only [hc]
      exact h
    · rename_i hp hc
      try simp only [hc]
      split at h
      · cases h
      · rename_i n2 lv2 hh
        try simp only [hh]
        exact hg _ _ h
theorem zk_run_mono {X : zkX} {c1 c2 : Nat → List Value → zkH → Option zkO} (hc : ∀ M as h o, c1 M as h = some o → c2 M as h = some o) {d d2 : Nat} (hd : d ≤ d2) (M : Nat) : ∀ (n n2 : Nat), n ≤ n2 → ∀ (s : zkS) (o : zkO), zk_run X c1 d M n s = some o → zk_run X c2 d2 M n2 s = some o := by
  intro n
  induction n with
  | zero => intro n2 _ s o h; cases h
  | succ n ih =>
    intro n2 hn s o h
    obtain ⟨k, rfl⟩ : ∃ k, n2 = k + 1 := ⟨n2 - 1, by omega⟩
    have hk : n ≤ k := by omega
    unfold zk_run at h ⊢
    split at h
    · cases h
    · rename_i i nx tg hi
      try simp only [hi]
      cases hbd : zk_bud d M i with
      | false => rw [hbd] at h; cases h
      | true =>
      rw [hbd, cond_true] at h
      rw [zk_bud_mono hd hbd, cond_true]
      split at h
      · rename_i s2 h2
        try simp only [h2]
        exact ih k hk _ _ h
      · rename_i h2
        try simp only [h2]
        split at h
        · rename_i o2 h3
          try simp only [h3]
          exact h
        · rename_i h3
          try simp only [h3]
          split at h
          · rename_i o2 h4
            try simp only [h4]
            exact h
          · rename_i h4
            try simp only [h4]
            split at h
            · cases h
            · rename_i M2 as rest h5
              try simp only [h5]
              split at h
              · cases h
              · rename_i o2 h6
                try simp only [hc _ _ _ _ h6]
                exact zk_back_mono (fun s o q => ih k hk s o q) h
theorem zk_call_mono {X : zkX} {n n2 : Nat} (hn : n ≤ n2) : ∀ (d d2 : Nat), d ≤ d2 → ∀ (M : Nat) (as : List Value) (h : zkH) (o : zkO), zk_call X n d M as h = some o → zk_call X n2 d2 M as h = some o := by
  intro d
  induction d with
  | zero => intro d2 _ M as h o q; cases q
  | succ d ih =>
    intro d2 hd M as h o q
    obtain ⟨k, rfl⟩ : ∃ k, d2 = k + 1 := ⟨d2 - 1, by omega⟩
    unfold zk_call at q ⊢
    cases hb : Nat.ble (lg_sl as).length (zk_mxl M) with
    | false => rw [hb] at q; cases q
    | true =>
      rw [hb] at q
      exact zk_run_mono (fun M as h o => ih k (by omega) M as h o) (by omega) M n n2 hn _ _ q
theorem zk_C.up {X : zkX} {d d2 M : Nat} {as : List Value} {h : zkH} {Q : zkO → Prop} (hd : d ≤ d2) (k : zk_C X d M as h Q) : zk_C X d2 M as h Q := by
  obtain ⟨n, o, h1, h2⟩ := k
  exact ⟨n, o, zk_call_mono (Nat.le_refl n) d d2 hd M as h o h1, h2⟩
theorem zk_C.to {X : zkX} {d M : Nat} {as : List Value} {h : zkH} {Q Q2 : zkO → Prop} (k : zk_C X d M as h Q) (hq : ∀ o, Q o → Q2 o) : zk_C X d M as h Q2 := by
  obtain ⟨n, o, h1, h2⟩ := k
  exact ⟨n, o, h1, hq o h2⟩
theorem zk_W.to {X : zkX} {d M : Nat} {s : zkS} {Q Q2 : zkO → Prop} (k : zk_W X d M s Q) (hq : ∀ o, Q o → Q2 o) : zk_W X d M s Q2 := by
  obtain ⟨n, o, h1, h2⟩ := k
  exact ⟨n, o, h1, hq o h2⟩
/-- into a method -/
theorem zk_enter {X : zkX} {d M : Nat} {as : List Value} {h : zkH} {Q : zkO → Prop} {lv : zkL} (hl : Nat.ble (lg_sl as).length (zk_mxl M) = true) (hv : lv_args 0 as = lv) (k : zk_W X d M (0, lv, [], h) Q) : zk_C X (d + 1) M as h Q := by
  obtain ⟨n, o, h1, h2⟩ := k
  subst hv
  refine ⟨n, o, ?_, h2⟩
  unfold zk_call
  rw [hl]
  exact h1
theorem zk_w_loc {X : zkX} {d M pc nx tg : Nat} {i : Instr} {lv : zkL} {st : List Value} {h : zkH} {s2 : zkS} {Q : zkO → Prop} (hi : zk_ins M pc = some (i, nx, tg)) (hbd : zk_bud d M i = true) (hl : zk_loc X M i nx tg (pc, lv, st, h) = some s2) (k : zk_W X d M s2 Q) : zk_W X d M (pc, lv, st, h) Q := by
  obtain ⟨n, o, h1, h2⟩ := k
  refine ⟨n + 1, o, ?_, h2⟩
  unfold zk_run
  simp only [hi, hbd, hl, cond_true]
  exact zk_run_mono (fun M as h o q => zk_call_mono (Nat.le_succ n) d d (Nat.le_refl d) M as h o q) (Nat.le_refl d) M n n (Nat.le_refl n) _ _ h1
theorem zk_w_end {X : zkX} {d M pc nx tg : Nat} {i : Instr} {lv : zkL} {st : List Value} {h : zkH} {o : zkO} {Q : zkO → Prop} (hi : zk_ins M pc = some (i, nx, tg)) (hbd : zk_bud d M i = true) (hl : zk_loc X M i nx tg (pc, lv, st, h) = none) (he : zk_end M i (pc, lv, st, h) = some o) (k : Q o) : zk_W X d M (pc, lv, st, h) Q := by
  refine ⟨1, o, ?_, k⟩
  unfold zk_run
  simp only [hi, hbd, hl, he, cond_true]
theorem zk_w_thr {X : zkX} {d M pc nx tg : Nat} {i : Instr} {lv : zkL} {st : List Value} {h : zkH} {o : zkO} {Q : zkO → Prop} (hi : zk_ins M pc = some (i, nx, tg)) (hbd : zk_bud d M i = true) (hl : zk_loc X M i nx tg (pc, lv, st, h) = none) (he : zk_end M i (pc, lv, st, h) = none) (ht : zk_thr M i nx (pc, lv, st, h) = some o) (k : Q o) : zk_W X d M (pc, lv, st, h) Q := by
  refine ⟨1, o, ?_, k⟩
  unfold zk_run
  simp only [hi, hbd, hl, he, ht, cond_true]
/-- what must hold behind a call -/
def zk_K (X : zkX) (d M pc nx : Nat) (lv : zkL) (rest : List Value) (Q : zkO → Prop) (o : zkO) : Prop := match o.1 with
  | .inl v => zk_W X d M (nx, lv, v.toList ++ rest, o.2) Q
  | .inr x => match zk_catch M pc x (zk_hd M) with
    | none => False
    | some none => Q (.inr x, o.2)
    | some (some hp) => match zk_hnd M hp lv with
      | none => False
      | some (n2, lv2) => zk_W X d M (n2, lv2, [], o.2) Q
theorem zk_back_of {X : zkX} {d M pc nx : Nat} {lv : zkL} {rest : List Value} {Q : zkO → Prop} {o : zkO} (h : zk_K X d M pc nx lv rest Q o) : ∃ n q, zk_back (zk_run X (zk_call X n d) d M n) M pc nx lv rest o = some q ∧ Q q := by
  unfold zk_K at h
  unfold zk_back
  split at h
  · obtain ⟨n, q, h1, h2⟩ := h
    exact ⟨n, q, h1, h2⟩
  · split at h
    · exact h.elim
    · exact ⟨0, _, rfl, h⟩
    · split at h
      · exact h.elim
      · obtain ⟨n, q, h1, h2⟩ := h
        exact ⟨n, q, h1, h2⟩
theorem zk_w_call {X : zkX} {d M M2 pc nx tg : Nat} {i : Instr} {lv : zkL} {st as rest : List Value} {h : zkH} {Q : zkO → Prop} (hi : zk_ins M pc = some (i, nx, tg)) (hbd : zk_bud d M i = true) (hl : zk_loc X M i nx tg (pc, lv, st, h) = none) (he : zk_end M i (pc, lv, st, h) = none) (ht : zk_thr M i nx (pc, lv, st, h) = none) (hv : zk_inv M i st h = some (M2, as, rest)) (k : zk_C X d M2 as h (zk_K X d M pc nx lv rest Q)) : zk_W X d M (pc, lv, st, h) Q := by
  obtain ⟨n1, o, h1, h2⟩ := k
  obtain ⟨n2, q, h3, h4⟩ := zk_back_of h2
  refine ⟨n1 + n2 + 1, q, ?_, h4⟩
  unfold zk_run
  simp only [hi, hbd, hl, he, ht, hv, cond_true]
  rw [zk_call_mono (show n1 ≤ n1 + n2 + 1 by omega) d d (Nat.le_refl d) M2 as h o h1]
  exact zk_back_mono (fun s o q => zk_run_mono (fun M as h o q => zk_call_mono (show n2 ≤ n1 + n2 + 1 by omega) d d (Nat.le_refl d) M as h o q) (Nat.le_refl d) M n2 (n1 + n2) (by omega) s o q) h3
end
section
/-! a row an instruction, over the abstract machine -/
section ZR
variable {X : zkX} {d M pc nx tg : Nat} {lv lv2 : zkL} {st : List Value} {h : zkH} {Q : zkO → Prop}
theorem zi_aload {k a : Nat} (hi : zk_ins M pc = some (.aload k, nx, tg)) (hx : zk_get lv k = some (.ref a)) (kk : zk_W X d M (nx, lv, .ref a :: st, h) Q) : zk_W X d M (pc, lv, st, h) Q := zk_w_loc hi rfl (by simp only [zk_loc, zk_loc1, hx]) kk
theorem zi_aload_n {k : Fin 4} {a : Nat} (hi : zk_ins M pc = some (.aload_n k, nx, tg)) (hx : zk_get lv k.val = some (.ref a)) (kk : zk_W X d M (nx, lv, .ref a :: st, h) Q) : zk_W X d M (pc, lv, st, h) Q := zk_w_loc hi rfl (by simp only [zk_loc, zk_loc1, hx]) kk
theorem zi_iload {k : Nat} {x : Int32} (hi : zk_ins M pc = some (.iload k, nx, tg)) (hx : zk_get lv k = some (.int x)) (kk : zk_W X d M (nx, lv, .int x :: st, h) Q) : zk_W X d M (pc, lv, st, h) Q := zk_w_loc hi rfl (by simp only [zk_loc, zk_loc1, hx]) kk
theorem zi_iload_n {k : Fin 4} {x : Int32} (hi : zk_ins M pc = some (.iload_n k, nx, tg)) (hx : zk_get lv k.val = some (.int x)) (kk : zk_W X d M (nx, lv, .int x :: st, h) Q) : zk_W X d M (pc, lv, st, h) Q := zk_w_loc hi rfl (by simp only [zk_loc, zk_loc1, hx]) kk
theorem zi_lload {k : Nat} {x : Int64} (hi : zk_ins M pc = some (.lload k, nx, tg)) (hx : zk_get lv k = some (.long x)) (kk : zk_W X d M (nx, lv, .long x :: st, h) Q) : zk_W X d M (pc, lv, st, h) Q := zk_w_loc hi rfl (by simp only [zk_loc, zk_loc1, hx]) kk
theorem zi_lload_n {k : Fin 4} {x : Int64} (hi : zk_ins M pc = some (.lload_n k, nx, tg)) (hx : zk_get lv k.val = some (.long x)) (kk : zk_W X d M (nx, lv, .long x :: st, h) Q) : zk_W X d M (pc, lv, st, h) Q := zk_w_loc hi rfl (by simp only [zk_loc, zk_loc1, hx]) kk
theorem zi_istore {k : Nat} {x : Int32} (hi : zk_ins M pc = some (.istore k, nx, tg)) (hb : Nat.blt k (zk_mxl M) = true) (hl : zk_put1 lv k (.int x) = lv2) (kk : zk_W X d M (nx, lv2, st, h) Q) : zk_W X d M (pc, lv, .int x :: st, h) Q := zk_w_loc hi rfl (by simp only [zk_loc, zk_loc1, hb, hl, cond_true]) kk
theorem zi_istore_n {k : Fin 4} {x : Int32} (hi : zk_ins M pc = some (.istore_n k, nx, tg)) (hb : Nat.blt k.val (zk_mxl M) = true) (hl : zk_put1 lv k.val (.int x) = lv2) (kk : zk_W X d M (nx, lv2, st, h) Q) : zk_W X d M (pc, lv, .int x :: st, h) Q := zk_w_loc hi rfl (by simp only [zk_loc, zk_loc1, hb, hl, cond_true]) kk
theorem zi_lstore {k : Nat} {x : Int64} (hi : zk_ins M pc = some (.lstore k, nx, tg)) (hb : Nat.blt (k + 1) (zk_mxl M) = true) (hl : zk_put2 lv k (.long x) = lv2) (kk : zk_W X d M (nx, lv2, st, h) Q) : zk_W X d M (pc, lv, .long x :: st, h) Q := zk_w_loc hi rfl (by simp only [zk_loc, zk_loc1, hb, hl, cond_true]) kk
theorem zi_lstore_n {k : Fin 4} {x : Int64} (hi : zk_ins M pc = some (.lstore_n k, nx, tg)) (hb : Nat.blt (k.val + 1) (zk_mxl M) = true) (hl : zk_put2 lv k.val (.long x) = lv2) (kk : zk_W X d M (nx, lv2, st, h) Q) : zk_W X d M (pc, lv, .long x :: st, h) Q := zk_w_loc hi rfl (by simp only [zk_loc, zk_loc1, hb, hl, cond_true]) kk
theorem zi_astore {k a : Nat} (hi : zk_ins M pc = some (.astore k, nx, tg)) (hb : Nat.blt k (zk_mxl M) = true) (hl : zk_put1 lv k (.ref a) = lv2) (kk : zk_W X d M (nx, lv2, st, h) Q) : zk_W X d M (pc, lv, .ref a :: st, h) Q := zk_w_loc hi rfl (by simp only [zk_loc, zk_loc1, hb, hl, cond_true]) kk
theorem zi_astore_n {k : Fin 4} {a : Nat} (hi : zk_ins M pc = some (.astore_n k, nx, tg)) (hb : Nat.blt k.val (zk_mxl M) = true) (hl : zk_put1 lv k.val (.ref a) = lv2) (kk : zk_W X d M (nx, lv2, st, h) Q) : zk_W X d M (pc, lv, .ref a :: st, h) Q := zk_w_loc hi rfl (by simp only [zk_loc, zk_loc1, hb, hl, cond_true]) kk
theorem zi_iinc {k : Nat} {n : Int} {x y : Int32} (hi : zk_ins M pc = some (.iinc k n, nx, tg)) (hx : zk_get lv k = some (.int x)) (hb : Nat.blt k (zk_mxl M) = true) (hy : x + Int32.ofInt n = y) (hl : zk_put1 lv k (.int y) = lv2) (kk : zk_W X d M (nx, lv2, st, h) Q) : zk_W X d M (pc, lv, st, h) Q := zk_w_loc hi rfl (by simp only [zk_loc, zk_loc1, hx, hb, hy, hl, cond_true]) kk
theorem zi_iconst {n : Int} {v : Int32} (hi : zk_ins M pc = some (.iconst n, nx, tg)) (hv : Int32.ofInt n = v) (kk : zk_W X d M (nx, lv, .int v :: st, h) Q) : zk_W X d M (pc, lv, st, h) Q := zk_w_loc hi rfl (by simp only [zk_loc, zk_loc1, hv]) kk
theorem zi_lconst {n : Fin 2} {v : Int64} (hi : zk_ins M pc = some (.lconst n, nx, tg)) (hv : Int64.ofNat n.val = v) (kk : zk_W X d M (nx, lv, .long v :: st, h) Q) : zk_W X d M (pc, lv, st, h) Q := zk_w_loc hi rfl (by simp only [zk_loc, zk_loc1, hv]) kk
theorem zi_bipush {n : Int} {v : Int32} (hi : zk_ins M pc = some (.bipush n, nx, tg)) (hv : (Int8.ofInt n).toInt32 = v) (kk : zk_W X d M (nx, lv, .int v :: st, h) Q) : zk_W X d M (pc, lv, st, h) Q := zk_w_loc hi rfl (by simp only [zk_loc, zk_loc1, hv]) kk
theorem zi_sipush {n : Int} {v : Int32} (hi : zk_ins M pc = some (.sipush n, nx, tg)) (hv : (Int16.ofInt n).toInt32 = v) (kk : zk_W X d M (nx, lv, .int v :: st, h) Q) : zk_W X d M (pc, lv, st, h) Q := zk_w_loc hi rfl (by simp only [zk_loc, zk_loc1, hv]) kk
theorem zi_ldc {k : Nat} {v : Int32} (hi : zk_ins M pc = some (.ldc k, nx, tg)) (hv : zk_ki M k = some v) (kk : zk_W X d M (nx, lv, .int v :: st, h) Q) : zk_W X d M (pc, lv, st, h) Q := zk_w_loc hi rfl (by simp only [zk_loc, zk_loc1, hv]) kk
theorem zi_ldc_w {k : Nat} {v : Int32} (hi : zk_ins M pc = some (.ldc_w k, nx, tg)) (hv : zk_ki M k = some v) (kk : zk_W X d M (nx, lv, .int v :: st, h) Q) : zk_W X d M (pc, lv, st, h) Q := zk_w_loc hi rfl (by simp only [zk_loc, zk_loc1, hv]) kk
theorem zi_ldc2_w {k : Nat} {v : Int64} (hi : zk_ins M pc = some (.ldc2_w k, nx, tg)) (hv : zk_kl M k = some v) (kk : zk_W X d M (nx, lv, .long v :: st, h) Q) : zk_W X d M (pc, lv, st, h) Q := zk_w_loc hi rfl (by simp only [zk_loc, zk_loc1, hv]) kk
theorem zi_dupi {x : Int32} (hi : zk_ins M pc = some (.dup, nx, tg)) (kk : zk_W X d M (nx, lv, .int x :: .int x :: st, h) Q) : zk_W X d M (pc, lv, .int x :: st, h) Q := zk_w_loc hi rfl rfl kk
theorem zi_dupa {x : Nat} (hi : zk_ins M pc = some (.dup, nx, tg)) (kk : zk_W X d M (nx, lv, .ref x :: .ref x :: st, h) Q) : zk_W X d M (pc, lv, .ref x :: st, h) Q := zk_w_loc hi rfl rfl kk
theorem zi_popi {x : Int32} (hi : zk_ins M pc = some (.pop, nx, tg)) (kk : zk_W X d M (nx, lv, st, h) Q) : zk_W X d M (pc, lv, .int x :: st, h) Q := zk_w_loc hi rfl rfl kk
theorem zi_iadd {x y : Int32} (hi : zk_ins M pc = some (.iadd, nx, tg)) (kk : zk_W X d M (nx, lv, .int (x + y) :: st, h) Q) : zk_W X d M (pc, lv, .int y :: .int x :: st, h) Q := zk_w_loc hi rfl rfl kk
theorem zi_isub {x y : Int32} (hi : zk_ins M pc = some (.isub, nx, tg)) (kk : zk_W X d M (nx, lv, .int (x - y) :: st, h) Q) : zk_W X d M (pc, lv, .int y :: .int x :: st, h) Q := zk_w_loc hi rfl rfl kk
theorem zi_imul {x y : Int32} (hi : zk_ins M pc = some (.imul, nx, tg)) (kk : zk_W X d M (nx, lv, .int (x * y) :: st, h) Q) : zk_W X d M (pc, lv, .int y :: .int x :: st, h) Q := zk_w_loc hi rfl rfl kk
theorem zi_idiv {x y : Int32} (hi : zk_ins M pc = some (.idiv, nx, tg)) (hne : ¬ y = 0) (kk : zk_W X d M (nx, lv, .int (x / y) :: st, h) Q) : zk_W X d M (pc, lv, .int y :: .int x :: st, h) Q := zk_w_loc hi rfl (by simp only [zk_loc, zk_loc1, zk_loc2, if_neg hne]) kk
theorem zi_irem {x y : Int32} (hi : zk_ins M pc = some (.irem, nx, tg)) (hne : ¬ y = 0) (kk : zk_W X d M (nx, lv, .int (x - x / y * y) :: st, h) Q) : zk_W X d M (pc, lv, .int y :: .int x :: st, h) Q := zk_w_loc hi rfl (by simp only [zk_loc, zk_loc1, zk_loc2, if_neg hne]) kk
theorem zi_iand {x y : Int32} (hi : zk_ins M pc = some (.iand, nx, tg)) (kk : zk_W X d M (nx, lv, .int (x &&& y) :: st, h) Q) : zk_W X d M (pc, lv, .int y :: .int x :: st, h) Q := zk_w_loc hi rfl rfl kk
theorem zi_ior {x y : Int32} (hi : zk_ins M pc = some (.ior, nx, tg)) (kk : zk_W X d M (nx, lv, .int (x ||| y) :: st, h) Q) : zk_W X d M (pc, lv, .int y :: .int x :: st, h) Q := zk_w_loc hi rfl rfl kk
theorem zi_ixor {x y : Int32} (hi : zk_ins M pc = some (.ixor, nx, tg)) (kk : zk_W X d M (nx, lv, .int (x ^^^ y) :: st, h) Q) : zk_W X d M (pc, lv, .int y :: .int x :: st, h) Q := zk_w_loc hi rfl rfl kk
theorem zi_iushr {x y : Int32} (hi : zk_ins M pc = some (.iushr, nx, tg)) (kk : zk_W X d M (nx, lv, .int (x.toUInt32 >>> (y.toUInt32 &&& Int32.toUInt32 31)).toInt32 :: st, h) Q) : zk_W X d M (pc, lv, .int y :: .int x :: st, h) Q := zk_w_loc hi rfl rfl kk
theorem zi_ladd {x y : Int64} (hi : zk_ins M pc = some (.ladd, nx, tg)) (kk : zk_W X d M (nx, lv, .long (x + y) :: st, h) Q) : zk_W X d M (pc, lv, .long y :: .long x :: st, h) Q := zk_w_loc hi rfl rfl kk
theorem zi_lsub {x y : Int64} (hi : zk_ins M pc = some (.lsub, nx, tg)) (kk : zk_W X d M (nx, lv, .long (x - y) :: st, h) Q) : zk_W X d M (pc, lv, .long y :: .long x :: st, h) Q := zk_w_loc hi rfl rfl kk
theorem zi_land {x y : Int64} (hi : zk_ins M pc = some (.land, nx, tg)) (kk : zk_W X d M (nx, lv, .long (x &&& y) :: st, h) Q) : zk_W X d M (pc, lv, .long y :: .long x :: st, h) Q := zk_w_loc hi rfl rfl kk
theorem zi_lor {x y : Int64} (hi : zk_ins M pc = some (.lor, nx, tg)) (kk : zk_W X d M (nx, lv, .long (x ||| y) :: st, h) Q) : zk_W X d M (pc, lv, .long y :: .long x :: st, h) Q := zk_w_loc hi rfl rfl kk
theorem zi_lshl {x : Int64} {y : Int32} (hi : zk_ins M pc = some (.lshl, nx, tg)) (kk : zk_W X d M (nx, lv, .long (x <<< (y.toInt64 &&& 63)) :: st, h) Q) : zk_W X d M (pc, lv, .int y :: .long x :: st, h) Q := zk_w_loc hi rfl rfl kk
theorem zi_lshr {x : Int64} {y : Int32} (hi : zk_ins M pc = some (.lshr, nx, tg)) (kk : zk_W X d M (nx, lv, .long (x >>> (y.toInt64 &&& 63)) :: st, h) Q) : zk_W X d M (pc, lv, .int y :: .long x :: st, h) Q := zk_w_loc hi rfl rfl kk
theorem zi_lushr {x : Int64} {y : Int32} (hi : zk_ins M pc = some (.lushr, nx, tg)) (kk : zk_W X d M (nx, lv, .long (x.toUInt64 >>> (y.toInt64.toUInt64 &&& Int64.toUInt64 63)).toInt64 :: st, h) Q) : zk_W X d M (pc, lv, .int y :: .long x :: st, h) Q := zk_w_loc hi rfl rfl kk
theorem zi_i2l {x : Int32} (hi : zk_ins M pc = some (.i2l, nx, tg)) (kk : zk_W X d M (nx, lv, .long x.toInt64 :: st, h) Q) : zk_W X d M (pc, lv, .int x :: st, h) Q := zk_w_loc hi rfl rfl kk
theorem zi_l2i {x : Int64} (hi : zk_ins M pc = some (.l2i, nx, tg)) (kk : zk_W X d M (nx, lv, .int x.toInt32 :: st, h) Q) : zk_W X d M (pc, lv, .long x :: st, h) Q := zk_w_loc hi rfl rfl kk
theorem zi_lcmp {x y : Int64} (hi : zk_ins M pc = some (.lcmp, nx, tg)) (kk : zk_W X d M (nx, lv, .int (lg_cmp x y) :: st, h) Q) : zk_W X d M (pc, lv, .long y :: .long x :: st, h) Q := zk_w_loc hi rfl rfl kk
theorem zi_goto {off : Int} (hi : zk_ins M pc = some (.goto off, nx, tg)) (kk : zk_W X d M (tg, lv, st, h) Q) : zk_W X d M (pc, lv, st, h) Q := zk_w_loc hi rfl rfl kk
theorem zi_topi {x y : Int32} (hy : x = y) (kk : zk_W X d M (pc, lv, .int y :: st, h) Q) : zk_W X d M (pc, lv, .int x :: st, h) Q := by rw [hy]; exact kk
theorem zi_topl {x y : Int64} (hy : x = y) (kk : zk_W X d M (pc, lv, .long y :: st, h) Q) : zk_W X d M (pc, lv, .long x :: st, h) Q := by rw [hy]; exact kk
theorem zk_ifT {c : ClassFile.Cond} {off : Int} {x : Int32} (hi : zk_ins M pc = some (.ifCond c off, nx, tg)) (hc : zk_if c x = true) (kk : zk_W X d M (tg, lv, st, h) Q) : zk_W X d M (pc, lv, .int x :: st, h) Q := zk_w_loc hi rfl (by simp only [zk_loc, zk_loc1, zk_loc2, zk_loc3, hc, cond_true]) kk
theorem zk_ifF {c : ClassFile.Cond} {off : Int} {x : Int32} (hi : zk_ins M pc = some (.ifCond c off, nx, tg)) (hc : zk_if c x = false) (kk : zk_W X d M (nx, lv, st, h) Q) : zk_W X d M (pc, lv, .int x :: st, h) Q := zk_w_loc hi rfl (by simp only [zk_loc, zk_loc1, zk_loc2, zk_loc3, hc, cond_false]) kk
theorem zk_icT {c : ClassFile.Cond} {off : Int} {x y : Int32} (hi : zk_ins M pc = some (.if_icmp c off, nx, tg)) (hc : zk_icmp c x y = true) (kk : zk_W X d M (tg, lv, st, h) Q) : zk_W X d M (pc, lv, .int y :: .int x :: st, h) Q := zk_w_loc hi rfl (by simp only [zk_loc, zk_loc1, zk_loc2, zk_loc3, hc, cond_true]) kk
theorem zk_icF {c : ClassFile.Cond} {off : Int} {x y : Int32} (hi : zk_ins M pc = some (.if_icmp c off, nx, tg)) (hc : zk_icmp c x y = false) (kk : zk_W X d M (nx, lv, st, h) Q) : zk_W X d M (pc, lv, .int y :: .int x :: st, h) Q := zk_w_loc hi rfl (by simp only [zk_loc, zk_loc1, zk_loc2, zk_loc3, hc, cond_false]) kk
theorem zi_ifeqT {off : Int} {x : Int32} (hi : zk_ins M pc = some (.ifCond .eq off, nx, tg)) (hc : x = 0) (kk : zk_W X d M (tg, lv, st, h) Q) : zk_W X d M (pc, lv, .int x :: st, h) Q := zk_ifT hi (by simp only [zk_if]; exact decide_eq_true hc) kk
theorem zi_ifeqF {off : Int} {x : Int32} (hi : zk_ins M pc = some (.ifCond .eq off, nx, tg)) (hc : ¬ x = 0) (kk : zk_W X d M (nx, lv, st, h) Q) : zk_W X d M (pc, lv, .int x :: st, h) Q := zk_ifF hi (by simp only [zk_if]; exact decide_eq_false hc) kk
theorem zi_ifeq {off : Int} {x : Int32} (hi : zk_ins M pc = some (.ifCond .eq off, nx, tg)) (kt : x = 0 → zk_W X d M (tg, lv, st, h) Q) (kf : ¬ x = 0 → zk_W X d M (nx, lv, st, h) Q) : zk_W X d M (pc, lv, .int x :: st, h) Q := by
  by_cases hc : x = 0
  · exact zi_ifeqT hi hc (kt hc)
  · exact zi_ifeqF hi hc (kf hc)
theorem zi_ifneT {off : Int} {x : Int32} (hi : zk_ins M pc = some (.ifCond .ne off, nx, tg)) (hc : ¬ x = 0) (kk : zk_W X d M (tg, lv, st, h) Q) : zk_W X d M (pc, lv, .int x :: st, h) Q := zk_ifT hi (by simp only [zk_if]; exact decide_eq_true hc) kk
theorem zi_ifneF {off : Int} {x : Int32} (hi : zk_ins M pc = some (.ifCond .ne off, nx, tg)) (hc : x = 0) (kk : zk_W X d M (nx, lv, st, h) Q) : zk_W X d M (pc, lv, .int x :: st, h) Q := zk_ifF hi (by simp only [zk_if]; exact decide_eq_false (fun q => q hc)) kk
theorem zi_ifne {off : Int} {x : Int32} (hi : zk_ins M pc = some (.ifCond .ne off, nx, tg)) (kt : ¬ x = 0 → zk_W X d M (tg, lv, st, h) Q) (kf : x = 0 → zk_W X d M (nx, lv, st, h) Q) : zk_W X d M (pc, lv, .int x :: st, h) Q := by
  by_cases hc : x = 0
  · exact zi_ifneF hi hc (kf hc)
  · exact zi_ifneT hi hc (kt hc)
theorem zi_ifltT {off : Int} {x : Int32} (hi : zk_ins M pc = some (.ifCond .lt off, nx, tg)) (hc : x < 0) (kk : zk_W X d M (tg, lv, st, h) Q) : zk_W X d M (pc, lv, .int x :: st, h) Q := zk_ifT hi (by simp only [zk_if]; exact decide_eq_true hc) kk
theorem zi_ifltF {off : Int} {x : Int32} (hi : zk_ins M pc = some (.ifCond .lt off, nx, tg)) (hc : ¬ x < 0) (kk : zk_W X d M (nx, lv, st, h) Q) : zk_W X d M (pc, lv, .int x :: st, h) Q := zk_ifF hi (by simp only [zk_if]; exact decide_eq_false hc) kk
theorem zi_iflt {off : Int} {x : Int32} (hi : zk_ins M pc = some (.ifCond .lt off, nx, tg)) (kt : x < 0 → zk_W X d M (tg, lv, st, h) Q) (kf : ¬ x < 0 → zk_W X d M (nx, lv, st, h) Q) : zk_W X d M (pc, lv, .int x :: st, h) Q := by
  by_cases hc : x < 0
  · exact zi_ifltT hi hc (kt hc)
  · exact zi_ifltF hi hc (kf hc)
theorem zi_ifgeT {off : Int} {x : Int32} (hi : zk_ins M pc = some (.ifCond .ge off, nx, tg)) (hc : 0 ≤ x) (kk : zk_W X d M (tg, lv, st, h) Q) : zk_W X d M (pc, lv, .int x :: st, h) Q := zk_ifT hi (by simp only [zk_if]; exact decide_eq_true hc) kk
theorem zi_ifgeF {off : Int} {x : Int32} (hi : zk_ins M pc = some (.ifCond .ge off, nx, tg)) (hc : ¬ 0 ≤ x) (kk : zk_W X d M (nx, lv, st, h) Q) : zk_W X d M (pc, lv, .int x :: st, h) Q := zk_ifF hi (by simp only [zk_if]; exact decide_eq_false hc) kk
theorem zi_ifge {off : Int} {x : Int32} (hi : zk_ins M pc = some (.ifCond .ge off, nx, tg)) (kt : 0 ≤ x → zk_W X d M (tg, lv, st, h) Q) (kf : ¬ 0 ≤ x → zk_W X d M (nx, lv, st, h) Q) : zk_W X d M (pc, lv, .int x :: st, h) Q := by
  by_cases hc : 0 ≤ x
  · exact zi_ifgeT hi hc (kt hc)
  · exact zi_ifgeF hi hc (kf hc)
theorem zi_ifgtT {off : Int} {x : Int32} (hi : zk_ins M pc = some (.ifCond .gt off, nx, tg)) (hc : 0 < x) (kk : zk_W X d M (tg, lv, st, h) Q) : zk_W X d M (pc, lv, .int x :: st, h) Q := zk_ifT hi (by simp only [zk_if]; exact decide_eq_true hc) kk
theorem zi_ifgtF {off : Int} {x : Int32} (hi : zk_ins M pc = some (.ifCond .gt off, nx, tg)) (hc : ¬ 0 < x) (kk : zk_W X d M (nx, lv, st, h) Q) : zk_W X d M (pc, lv, .int x :: st, h) Q := zk_ifF hi (by simp only [zk_if]; exact decide_eq_false hc) kk
theorem zi_ifgt {off : Int} {x : Int32} (hi : zk_ins M pc = some (.ifCond .gt off, nx, tg)) (kt : 0 < x → zk_W X d M (tg, lv, st, h) Q) (kf : ¬ 0 < x → zk_W X d M (nx, lv, st, h) Q) : zk_W X d M (pc, lv, .int x :: st, h) Q := by
  by_cases hc : 0 < x
  · exact zi_ifgtT hi hc (kt hc)
  · exact zi_ifgtF hi hc (kf hc)
theorem zi_ifleT {off : Int} {x : Int32} (hi : zk_ins M pc = some (.ifCond .le off, nx, tg)) (hc : x ≤ 0) (kk : zk_W X d M (tg, lv, st, h) Q) : zk_W X d M (pc, lv, .int x :: st, h) Q := zk_ifT hi (by simp only [zk_if]; exact decide_eq_true hc) kk
theorem zi_ifleF {off : Int} {x : Int32} (hi : zk_ins M pc = some (.ifCond .le off, nx, tg)) (hc : ¬ x ≤ 0) (kk : zk_W X d M (nx, lv, st, h) Q) : zk_W X d M (pc, lv, .int x :: st, h) Q := zk_ifF hi (by simp only [zk_if]; exact decide_eq_false hc) kk
theorem zi_ifle {off : Int} {x : Int32} (hi : zk_ins M pc = some (.ifCond .le off, nx, tg)) (kt : x ≤ 0 → zk_W X d M (tg, lv, st, h) Q) (kf : ¬ x ≤ 0 → zk_W X d M (nx, lv, st, h) Q) : zk_W X d M (pc, lv, .int x :: st, h) Q := by
  by_cases hc : x ≤ 0
  · exact zi_ifleT hi hc (kt hc)
  · exact zi_ifleF hi hc (kf hc)
theorem zi_iceqT {off : Int} {x y : Int32} (hi : zk_ins M pc = some (.if_icmp .eq off, nx, tg)) (hc : x = y) (kk : zk_W X d M (tg, lv, st, h) Q) : zk_W X d M (pc, lv, .int y :: .int x :: st, h) Q := zk_icT hi (by simp only [zk_icmp]; exact decide_eq_true hc) kk
theorem zi_iceqF {off : Int} {x y : Int32} (hi : zk_ins M pc = some (.if_icmp .eq off, nx, tg)) (hc : ¬ x = y) (kk : zk_W X d M (nx, lv, st, h) Q) : zk_W X d M (pc, lv, .int y :: .int x :: st, h) Q := zk_icF hi (by simp only [zk_icmp]; exact decide_eq_false hc) kk
theorem zi_iceq {off : Int} {x y : Int32} (hi : zk_ins M pc = some (.if_icmp .eq off, nx, tg)) (kt : x = y → zk_W X d M (tg, lv, st, h) Q) (kf : ¬ x = y → zk_W X d M (nx, lv, st, h) Q) : zk_W X d M (pc, lv, .int y :: .int x :: st, h) Q := by
  by_cases hc : x = y
  · exact zi_iceqT hi hc (kt hc)
  · exact zi_iceqF hi hc (kf hc)
theorem zi_icneT {off : Int} {x y : Int32} (hi : zk_ins M pc = some (.if_icmp .ne off, nx, tg)) (hc : ¬ x = y) (kk : zk_W X d M (tg, lv, st, h) Q) : zk_W X d M (pc, lv, .int y :: .int x :: st, h) Q := zk_icT hi (by simp only [zk_icmp]; exact decide_eq_true hc) kk
theorem zi_icneF {off : Int} {x y : Int32} (hi : zk_ins M pc = some (.if_icmp .ne off, nx, tg)) (hc : x = y) (kk : zk_W X d M (nx, lv, st, h) Q) : zk_W X d M (pc, lv, .int y :: .int x :: st, h) Q := zk_icF hi (by simp only [zk_icmp]; exact decide_eq_false (fun q => q hc)) kk
theorem zi_icne {off : Int} {x y : Int32} (hi : zk_ins M pc = some (.if_icmp .ne off, nx, tg)) (kt : ¬ x = y → zk_W X d M (tg, lv, st, h) Q) (kf : x = y → zk_W X d M (nx, lv, st, h) Q) : zk_W X d M (pc, lv, .int y :: .int x :: st, h) Q := by
  by_cases hc : x = y
  · exact zi_icneF hi hc (kf hc)
  · exact zi_icneT hi hc (kt hc)
theorem zi_icltT {off : Int} {x y : Int32} (hi : zk_ins M pc = some (.if_icmp .lt off, nx, tg)) (hc : x < y) (kk : zk_W X d M (tg, lv, st, h) Q) : zk_W X d M (pc, lv, .int y :: .int x :: st, h) Q := zk_icT hi (by simp only [zk_icmp]; exact decide_eq_true hc) kk
theorem zi_icltF {off : Int} {x y : Int32} (hi : zk_ins M pc = some (.if_icmp .lt off, nx, tg)) (hc : ¬ x < y) (kk : zk_W X d M (nx, lv, st, h) Q) : zk_W X d M (pc, lv, .int y :: .int x :: st, h) Q := zk_icF hi (by simp only [zk_icmp]; exact decide_eq_false hc) kk
theorem zi_iclt {off : Int} {x y : Int32} (hi : zk_ins M pc = some (.if_icmp .lt off, nx, tg)) (kt : x < y → zk_W X d M (tg, lv, st, h) Q) (kf : ¬ x < y → zk_W X d M (nx, lv, st, h) Q) : zk_W X d M (pc, lv, .int y :: .int x :: st, h) Q := by
  by_cases hc : x < y
  · exact zi_icltT hi hc (kt hc)
  · exact zi_icltF hi hc (kf hc)
theorem zi_icgeT {off : Int} {x y : Int32} (hi : zk_ins M pc = some (.if_icmp .ge off, nx, tg)) (hc : y ≤ x) (kk : zk_W X d M (tg, lv, st, h) Q) : zk_W X d M (pc, lv, .int y :: .int x :: st, h) Q := zk_icT hi (by simp only [zk_icmp]; exact decide_eq_true hc) kk
theorem zi_icgeF {off : Int} {x y : Int32} (hi : zk_ins M pc = some (.if_icmp .ge off, nx, tg)) (hc : ¬ y ≤ x) (kk : zk_W X d M (nx, lv, st, h) Q) : zk_W X d M (pc, lv, .int y :: .int x :: st, h) Q := zk_icF hi (by simp only [zk_icmp]; exact decide_eq_false hc) kk
theorem zi_icge {off : Int} {x y : Int32} (hi : zk_ins M pc = some (.if_icmp .ge off, nx, tg)) (kt : y ≤ x → zk_W X d M (tg, lv, st, h) Q) (kf : ¬ y ≤ x → zk_W X d M (nx, lv, st, h) Q) : zk_W X d M (pc, lv, .int y :: .int x :: st, h) Q := by
  by_cases hc : y ≤ x
  · exact zi_icgeT hi hc (kt hc)
  · exact zi_icgeF hi hc (kf hc)
theorem zi_icgtT {off : Int} {x y : Int32} (hi : zk_ins M pc = some (.if_icmp .gt off, nx, tg)) (hc : y < x) (kk : zk_W X d M (tg, lv, st, h) Q) : zk_W X d M (pc, lv, .int y :: .int x :: st, h) Q := zk_icT hi (by simp only [zk_icmp]; exact decide_eq_true hc) kk
theorem zi_icgtF {off : Int} {x y : Int32} (hi : zk_ins M pc = some (.if_icmp .gt off, nx, tg)) (hc : ¬ y < x) (kk : zk_W X d M (nx, lv, st, h) Q) : zk_W X d M (pc, lv, .int y :: .int x :: st, h) Q := zk_icF hi (by simp only [zk_icmp]; exact decide_eq_false hc) kk
theorem zi_icgt {off : Int} {x y : Int32} (hi : zk_ins M pc = some (.if_icmp .gt off, nx, tg)) (kt : y < x → zk_W X d M (tg, lv, st, h) Q) (kf : ¬ y < x → zk_W X d M (nx, lv, st, h) Q) : zk_W X d M (pc, lv, .int y :: .int x :: st, h) Q := by
  by_cases hc : y < x
  · exact zi_icgtT hi hc (kt hc)
  · exact zi_icgtF hi hc (kf hc)
theorem zi_icleT {off : Int} {x y : Int32} (hi : zk_ins M pc = some (.if_icmp .le off, nx, tg)) (hc : x ≤ y) (kk : zk_W X d M (tg, lv, st, h) Q) : zk_W X d M (pc, lv, .int y :: .int x :: st, h) Q := zk_icT hi (by simp only [zk_icmp]; exact decide_eq_true hc) kk
theorem zi_icleF {off : Int} {x y : Int32} (hi : zk_ins M pc = some (.if_icmp .le off, nx, tg)) (hc : ¬ x ≤ y) (kk : zk_W X d M (nx, lv, st, h) Q) : zk_W X d M (pc, lv, .int y :: .int x :: st, h) Q := zk_icF hi (by simp only [zk_icmp]; exact decide_eq_false hc) kk
theorem zi_icle {off : Int} {x y : Int32} (hi : zk_ins M pc = some (.if_icmp .le off, nx, tg)) (kt : x ≤ y → zk_W X d M (tg, lv, st, h) Q) (kf : ¬ x ≤ y → zk_W X d M (nx, lv, st, h) Q) : zk_W X d M (pc, lv, .int y :: .int x :: st, h) Q := by
  by_cases hc : x ≤ y
  · exact zi_icleT hi hc (kt hc)
  · exact zi_icleF hi hc (kf hc)
theorem zi_getfield {k a ci j : Nat} {fs : List Value} {v : Value} (hi : zk_ins M pc = some (.getfield k, nx, tg)) (hf : zk_fl M k = some (ci, j)) (hc : zk_cell h a = some (.inr (ci, fs))) (hv : fs[j]? = some v) (kk : zk_W X d M (nx, lv, v :: st, h) Q) : zk_W X d M (pc, lv, .ref a :: st, h) Q :=
  zk_w_loc hi rfl (by simp only [zk_loc, zk_loc1, zk_loc2, zk_loc3, zk_loc4, hf, hc, hv, Nat.beq_refl, cond_true]) kk
theorem zi_putfield {k a ci j : Nat} {fs fs2 : List Value} {v : Value} {h2 : zkH} (hi : zk_ins M pc = some (.putfield k, nx, tg)) (hf : zk_fl M k = some (ci, j)) (hc : zk_cell h a = some (.inr (ci, fs))) (hok : (zk_fit (zk_fty ci j) v && Nat.blt j fs.length && zk_fin M ci j) = true) (hs : fs.set j v = fs2) (hh : zk_set h a (.inr (ci, fs2)) = h2) (kk : zk_W X d M (nx, lv, st, h2) Q) : zk_W X d M (pc, lv, v :: .ref a :: st, h) Q :=
  zk_w_loc hi rfl (by
    have hok2 : (Nat.beq ci ci && zk_fit (zk_fty ci j) v && Nat.blt j fs.length && zk_fin M ci j) = true := by
      rw [Nat.beq_refl, Bool.true_and]; exact hok
    simp only [zk_loc, zk_loc1, zk_loc2, zk_loc3, zk_loc4, hf, hc, hok2, hs, hh, cond_true]) kk
theorem zk_ald_i {n : Nat} {f : Nat → Int32} {i : Int32} (hin : vp_in i n) : zk_aldi (.inl (.int, n, .inl f)) i = some (.int (f i.toNatClampNeg)) := by
  unfold vp_in at hin
  simp only [zk_aldi]
  rw [if_pos ⟨Int32.not_lt.mp fun q => hin (Or.inl q), Nat.not_le.mp fun q => hin (Or.inr q)⟩]
theorem zk_ast_i {n : Nat} {f : Nat → Int32} {i : Int32} {x : Int32} (hin : vp_in i n) : zk_asti (.inl (.int, n, .inl f)) i x = some (.inl (.int, n, .inl (upd f i.toNatClampNeg x))) := by
  unfold vp_in at hin
  simp only [zk_asti]
  rw [if_pos ⟨Int32.not_lt.mp fun q => hin (Or.inl q), Nat.not_le.mp fun q => hin (Or.inr q)⟩]
theorem zk_ald_z {n : Nat} {f : Nat → Int32} {i : Int32} (hin : vp_in i n) : zk_aldz (.inl (.boolean, n, .inl f)) i = some (.int (f i.toNatClampNeg)) := by
  unfold vp_in at hin
  simp only [zk_aldz]
  rw [if_pos ⟨Int32.not_lt.mp fun q => hin (Or.inl q), Nat.not_le.mp fun q => hin (Or.inr q)⟩]
theorem zk_ast_z {n : Nat} {f : Nat → Int32} {i : Int32} {x : Int32} (hin : vp_in i n) : zk_astz (.inl (.boolean, n, .inl f)) i x = some (.inl (.boolean, n, .inl (upd f i.toNatClampNeg (vp_nar .boolean x)))) := by
  unfold vp_in at hin
  simp only [zk_astz]
  rw [if_pos ⟨Int32.not_lt.mp fun q => hin (Or.inl q), Nat.not_le.mp fun q => hin (Or.inr q)⟩]
theorem zk_ald_l {n : Nat} {f : Nat → Int64} {i : Int32} (hin : vp_in i n) : zk_aldl (.inl (.long, n, .inr (.inl f))) i = some (.long (f i.toNatClampNeg)) := by
  unfold vp_in at hin
  simp only [zk_aldl]
  rw [if_pos ⟨Int32.not_lt.mp fun q => hin (Or.inl q), Nat.not_le.mp fun q => hin (Or.inr q)⟩]
theorem zk_ast_l {n : Nat} {f : Nat → Int64} {i : Int32} {x : Int64} (hin : vp_in i n) : zk_astl (.inl (.long, n, .inr (.inl f))) i x = some (.inl (.long, n, .inr (.inl (vp_updL f i.toNatClampNeg x)))) := by
  unfold vp_in at hin
  simp only [zk_astl]
  rw [if_pos ⟨Int32.not_lt.mp fun q => hin (Or.inl q), Nat.not_le.mp fun q => hin (Or.inr q)⟩]
theorem zk_arr_cell {a : Nat} {e : zkE} (ha : zk_cell h a = some e) (h0 : h.2[0]? = some none) : zk_arr X h a = some e := by
  cases a with
  | zero => simp [zk_cell, h0] at ha
  | succ a => exact ha
theorem zi_iaload {a n : Nat} {f : Nat → Int32} {i : Int32} (hi : zk_ins M pc = some (.iaload, nx, tg)) (hc : zk_arr X h a = some (.inl (.int, n, .inl f))) (hin : vp_in i n) (kk : zk_W X d M (nx, lv, .int (f i.toNatClampNeg) :: st, h) Q) : zk_W X d M (pc, lv, .int i :: .ref a :: st, h) Q :=
  zk_w_loc hi rfl (by simp only [zk_loc, zk_loc1, zk_loc2, zk_loc3, zk_loc4, hc, zk_ald_i hin]) kk
theorem zi_laload {a n : Nat} {f : Nat → Int64} {i : Int32} (hi : zk_ins M pc = some (.laload, nx, tg)) (hc : zk_cell h a = some (.inl (.long, n, .inr (.inl f)))) (hin : vp_in i n) (kk : zk_W X d M (nx, lv, .long (f i.toNatClampNeg) :: st, h) Q) : zk_W X d M (pc, lv, .int i :: .ref a :: st, h) Q :=
  zk_w_loc hi rfl (by simp only [zk_loc, zk_loc1, zk_loc2, zk_loc3, zk_loc4, hc, zk_ald_l hin]) kk
theorem zi_baload {a n : Nat} {f : Nat → Int32} {i : Int32} (hi : zk_ins M pc = some (.baload, nx, tg)) (hc : zk_cell h a = some (.inl (.boolean, n, .inl f))) (hin : vp_in i n) (kk : zk_W X d M (nx, lv, .int (f i.toNatClampNeg) :: st, h) Q) : zk_W X d M (pc, lv, .int i :: .ref a :: st, h) Q :=
  zk_w_loc hi rfl (by simp only [zk_loc, zk_loc1, zk_loc2, zk_loc3, zk_loc4, hc, zk_ald_z hin]) kk
theorem zi_iastore {a n : Nat} {f : Nat → Int32} {i x : Int32} {h2 : zkH} (hi : zk_ins M pc = some (.iastore, nx, tg)) (hc : zk_cell h a = some (.inl (.int, n, .inl f))) (hin : vp_in i n) (hh : zk_set h a (.inl (.int, n, .inl (upd f i.toNatClampNeg x))) = h2) (kk : zk_W X d M (nx, lv, st, h2) Q) : zk_W X d M (pc, lv, .int x :: .int i :: .ref a :: st, h) Q :=
  zk_w_loc hi rfl (by simp only [zk_loc, zk_loc1, zk_loc2, zk_loc3, zk_loc4, hc, zk_ast_i hin, hh]) kk
theorem zi_lastore {a n : Nat} {f : Nat → Int64} {i : Int32} {x : Int64} {h2 : zkH} (hi : zk_ins M pc = some (.lastore, nx, tg)) (hc : zk_cell h a = some (.inl (.long, n, .inr (.inl f)))) (hin : vp_in i n) (hh : zk_set h a (.inl (.long, n, .inr (.inl (vp_updL f i.toNatClampNeg x)))) = h2) (kk : zk_W X d M (nx, lv, st, h2) Q) : zk_W X d M (pc, lv, .long x :: .int i :: .ref a :: st, h) Q :=
  zk_w_loc hi rfl (by simp only [zk_loc, zk_loc1, zk_loc2, zk_loc3, zk_loc4, hc, zk_ast_l hin, hh]) kk
theorem zi_bastore {a n : Nat} {f : Nat → Int32} {i x y : Int32} {h2 : zkH} (hi : zk_ins M pc = some (.bastore, nx, tg)) (hc : zk_cell h a = some (.inl (.boolean, n, .inl f))) (hin : vp_in i n) (hy : vp_nar .boolean x = y) (hh : zk_set h a (.inl (.boolean, n, .inl (upd f i.toNatClampNeg y))) = h2) (kk : zk_W X d M (nx, lv, st, h2) Q) : zk_W X d M (pc, lv, .int x :: .int i :: .ref a :: st, h) Q :=
  zk_w_loc hi rfl (by simp only [zk_loc, zk_loc1, zk_loc2, zk_loc3, zk_loc4, hc, zk_ast_z hin, hy, hh]) kk
theorem zi_alen_i {a n : Nat} {f : Nat → Int32} {v : Int32} (hi : zk_ins M pc = some (.arraylength, nx, tg)) (hc : zk_arr X h a = some (.inl (.int, n, .inl f))) (hv : Int32.ofNat n = v) (kk : zk_W X d M (nx, lv, .int v :: st, h) Q) : zk_W X d M (pc, lv, .ref a :: st, h) Q :=
  zk_w_loc hi rfl (by simp only [zk_loc, zk_loc1, zk_loc2, zk_loc3, zk_loc4, hc, zk_alen, hv]) kk
theorem zi_alen_l {a n : Nat} {f : Nat → Int64} {v : Int32} (hi : zk_ins M pc = some (.arraylength, nx, tg)) (hc : zk_arr X h a = some (.inl (.long, n, .inr (.inl f)))) (hv : Int32.ofNat n = v) (kk : zk_W X d M (nx, lv, .int v :: st, h) Q) : zk_W X d M (pc, lv, .ref a :: st, h) Q :=
  zk_w_loc hi rfl (by simp only [zk_loc, zk_loc1, zk_loc2, zk_loc3, zk_loc4, hc, zk_alen, hv]) kk
theorem zi_newarray {t : ArrayType} {x : Int32} {n : Nat} {e : zkE} (hi : zk_ins M pc = some (.newarray t, nx, tg)) (hx : x = nI n) (hn : n ≤ 1000000) (hb : zk_blank t n = some e) (kk : zk_W X d M (nx, lv, .ref (zk_len h) :: st, zk_push h n (some e)) Q) : zk_W X d M (pc, lv, .int x :: st, h) Q := by
  subst hx
  have h1 : (nI n).toNatClampNeg = n := nI_clamp (by omega)
  refine zk_w_loc hi rfl (s2 := (nx, lv, .ref (zk_len h) :: st, zk_push h n (some e))) ?_ kk
  simp only [zk_loc, zk_loc1, zk_loc2, zk_loc3, zk_loc4, h1, hb]
  rw [if_pos ⟨nI_pos' (by omega), hn⟩]
theorem zi_new {k ci : Nat} {fs : List Value} (hi : zk_ins M pc = some (.new k, nx, tg)) (hx : zk_xc M k = none) (hc : zk_cl M k = some ci) (hf : zk_df ci = fs) (kk : zk_W X d M (nx, lv, .ref (zk_len h) :: st, zk_push h fs.length (some (.inr (ci, fs)))) Q) : zk_W X d M (pc, lv, st, h) Q := by
  subst hf
  exact zk_w_loc hi (by simp only [zk_bud, hx]) (by simp only [zk_loc, zk_loc1, zk_loc2, zk_loc3, zk_loc4, hc]) kk
theorem zi_objinit {k a q1 q3 q4 : Nat} (hi : zk_ins M pc = some (.invokespecial k, nx, tg)) (hm : zk_mt M k = some (q1, 3, q3, q4)) (hd : Nat.ble 1 d = true) (hs : Nat.ble ((st.map Value.category).sum) 8 = true) (kk : zk_W X d M (nx, lv, st, h) Q) : zk_W X d M (pc, lv, .ref a :: st, h) Q :=
  zk_w_loc hi (by simp only [zk_bud, hm, hd]) (by simp only [zk_loc, zk_loc1, zk_loc2, zk_loc3, zk_loc4, zk_loc5, hm, hs, cond_true]) kk
theorem zi_arraycopy {k a2 dd q1 q3 q4 n0 n1 : Nat} {f g : Nat → Int64} {n dp sp : Int32} {h2 : zkH} (hi : zk_ins M pc = some (.invokestatic k, nx, tg)) (hm : zk_mt M k = some (q1, 4, q3, q4)) (hd : Nat.ble 1 d = true) (hc0 : zk_cell h a2 = some (.inl (.long, n0, .inr (.inl f)))) (hc1 : zk_cell h dd = some (.inl (.long, n1, .inr (.inl g))))
    (hok : (0 ≤ sp ∧ 0 ≤ dp ∧ 0 ≤ n) ∧ sp.toNatClampNeg + n.toNatClampNeg ≤ n0 ∧ dp.toNatClampNeg + n.toNatClampNeg ≤ n1 ∧ (st.map Value.category).sum ≤ 8) (hh : zk_set h dd (.inl (.long, n1, .inr (.inl (va_cpy f g sp.toNatClampNeg dp.toNatClampNeg n.toNatClampNeg)))) = h2) (kk : zk_W X d M (nx, lv, st, h2) Q) : zk_W X d M (pc, lv, .int n :: .int dp :: .ref dd :: .int sp :: .ref a2 :: st, h) Q :=
  zk_w_loc hi (by simp only [zk_bud, hm, hd]) (by simp only [zk_loc, zk_loc1, zk_loc2, zk_loc3, zk_loc4, zk_loc5, hm, hc0, hc1, if_pos hok, hh]) kk
theorem zi_ireturn {x : Int32} (hi : zk_ins M pc = some (.ireturn, nx, tg)) (hr : zk_rt M = some .int) (kk : Q (.inl (some (.int x)), h)) : zk_W X d M (pc, lv, [.int x], h) Q :=
  zk_w_end hi rfl (by simp only [zk_loc, zk_loc1, zk_loc2, zk_loc3, zk_loc4, zk_loc5]) (by simp only [zk_end, hr]) kk
theorem zi_zreturn {x : Int32} (hi : zk_ins M pc = some (.ireturn, nx, tg)) (hr : zk_rt M = some .boolean) (hx : vp_nar .boolean x = x) (kk : Q (.inl (some (.int x)), h)) : zk_W X d M (pc, lv, [.int x], h) Q :=
  zk_w_end hi rfl (by simp only [zk_loc, zk_loc1, zk_loc2, zk_loc3, zk_loc4, zk_loc5]) (by simp only [zk_end, hr, if_pos hx]) kk
theorem zi_lreturn {x : Int64} (hi : zk_ins M pc = some (.lreturn, nx, tg)) (hr : zk_rt M = some .long) (kk : Q (.inl (some (.long x)), h)) : zk_W X d M (pc, lv, [.long x], h) Q :=
  zk_w_end hi rfl (by simp only [zk_loc, zk_loc1, zk_loc2, zk_loc3, zk_loc4, zk_loc5]) (by simp only [zk_end, hr]) kk
theorem zi_areturn {x : Nat} {t : FieldType} (hi : zk_ins M pc = some (.areturn, nx, tg)) (hr : zk_rt M = some (.array t)) (kk : Q (.inl (some (.ref x)), h)) : zk_W X d M (pc, lv, [.ref x], h) Q :=
  zk_w_end hi rfl (by simp only [zk_loc, zk_loc1, zk_loc2, zk_loc3, zk_loc4, zk_loc5]) (by simp only [zk_end, hr]) kk
theorem zi_return (hi : zk_ins M pc = some (.return_, nx, tg)) (hr : zk_rt M = none) (kk : Q (.inl none, h)) : zk_W X d M (pc, lv, [], h) Q :=
  zk_w_end hi rfl (by simp only [zk_loc, zk_loc1, zk_loc2, zk_loc3, zk_loc4, zk_loc5]) (by simp only [zk_end, hr]) kk
/-- throw new: the frame has changed nothing -/
theorem zi_throw {k x : Nat} (hi : zk_ins M pc = some (.new k, nx, tg)) (hd : Nat.ble 6 d = true) (hc : zk_cl M k = none) (hx : zk_xc M k = some x) (ht : zk_thr M (.new k) nx (pc, lv, st, h) = some (.inr x, zk_push h 6 none)) (kk : Q (.inr x, zk_push h 6 none)) : zk_W X d M (pc, lv, st, h) Q :=
  zk_w_thr hi (by simp only [zk_bud, hx, hd]) (by simp only [zk_loc, zk_loc1, zk_loc2, zk_loc3, zk_loc4, zk_loc5, hc]) (by simp only [zk_end]) ht kk
/-- calls -/
theorem zi_callV {k M2 n ci b : Nat} {as rest : List Value} {fs : List Value} (hi : zk_ins M pc = some (.invokevirtual k, nx, tg)) (hm : zk_mt M k = some (M2, 0, n, ci)) (hp : zk_pop n [] st = some (as, .ref b :: rest)) (hc : zk_cell h b = some (.inr (ci, fs))) (hs : Nat.ble ((rest.map Value.category).sum) 8 = true) (kk : zk_C X d M2 (.ref b :: as) h (zk_K X d M pc nx lv rest Q)) : zk_W X d M (pc, lv, st, h) Q :=
  zk_w_call hi rfl (by simp only [zk_loc, zk_loc1, zk_loc2, zk_loc3, zk_loc4, zk_loc5]) (by simp only [zk_end]) (by simp only [zk_thr]) (by simp only [zk_inv, hm, hp, hc, hs, Nat.beq_refl, Bool.and_true, cond_true]) kk
theorem zi_callS {k M2 n ci : Nat} {as rest : List Value} (hi : zk_ins M pc = some (.invokestatic k, nx, tg)) (hm : zk_mt M k = some (M2, 1, n, ci)) (hp : zk_pop n [] st = some (as, rest)) (hs : Nat.ble ((rest.map Value.category).sum) 8 = true) (kk : zk_C X d M2 as h (zk_K X d M pc nx lv rest Q)) : zk_W X d M (pc, lv, st, h) Q :=
  zk_w_call hi (by simp only [zk_bud, hm]) (by simp only [zk_loc, zk_loc1, zk_loc2, zk_loc3, zk_loc4, zk_loc5, hm]) (by simp only [zk_end]) (by simp only [zk_thr]) (by simp only [zk_inv, hm, hp, hs, cond_true]) kk
theorem zi_callI {k M2 n ci b : Nat} {as rest : List Value} (hi : zk_ins M pc = some (.invokespecial k, nx, tg)) (hm : zk_mt M k = some (M2, 2, n, ci)) (hp : zk_pop n [] st = some (as, .ref b :: rest)) (hs : Nat.ble ((rest.map Value.category).sum) 8 = true) (kk : zk_C X d M2 (.ref b :: as) h (zk_K X d M pc nx lv rest Q)) : zk_W X d M (pc, lv, st, h) Q :=
  zk_w_call hi (by simp only [zk_bud, hm]) (by simp only [zk_loc, zk_loc1, zk_loc2, zk_loc3, zk_loc4, zk_loc5, hm]) (by simp only [zk_end]) (by simp only [zk_thr]) (by simp only [zk_inv, hm, hp, hs, cond_true]) kk
/-- behind a call: it came back -/
theorem zk_K.ok {rest : List Value} {v : Option Value} {h2 : zkH} {o : zkO} (ho : o = (.inl v, h2)) (kk : zk_W X d M (nx, lv, v.toList ++ rest, h2) Q) : zk_K X d M pc nx lv rest Q o := by
  subst ho
  exact kk
theorem zk_K.okv {rest : List Value} {v : Value} {h2 : zkH} {o : zkO} (ho : o = (.inl (some v), h2)) (kk : zk_W X d M (nx, lv, v :: rest, h2) Q) : zk_K X d M pc nx lv rest Q o := by
  subst ho
  exact kk
theorem zk_K.okn {rest : List Value} {h2 : zkH} {o : zkO} (ho : o = (.inl none, h2)) (kk : zk_W X d M (nx, lv, rest, h2) Q) : zk_K X d M pc nx lv rest Q o := by
  subst ho
  exact kk
/-- it threw, and nobody here catches -/
theorem zk_K.thr {rest : List Value} {x : Nat} {h2 : zkH} {o : zkO} (ho : o = (.inr x, h2)) (hh : zk_hd M = []) (kk : Q (.inr x, h2)) : zk_K X d M pc nx lv rest Q o := by
  subst ho
  simp only [zk_K, hh, zk_catch]
  exact kk
/-- it threw, and a handler is here -/
theorem zk_K.cat {rest : List Value} {x hp n2 : Nat} {h2 : zkH} {o : zkO} (ho : o = (.inr x, h2)) (hc : zk_catch M pc x (zk_hd M) = some (some hp)) (hh : zk_hnd M hp lv = some (n2, lv2)) (kk : zk_W X d M (n2, lv2, [], h2) Q) : zk_K X d M pc nx lv rest Q o := by
  subst ho
  simp only [zk_K, hc, hh]
  exact kk
end ZR
end
section
-- rows of claim/NAMES.whole.lean.txt (exceptions that leave a method), as given for pasting; names of the library written out
section ZVX
/-- where a method has thrown q: the class by its name, the cell, what was written, the world -/
def vx_T (XC : String → State → State → Prop) (st : State) (q : Addr) (t : State) (mc ms : Nat) (free : Addr → Prop) : Prop :=
  ∃ (E : String) (ce : Cell) (L : List Loc), XC E st t ∧ t.heap[q]? = some ce ∧ ce.vm = .none ∧ st.vm.findClass E = some ce.cls ∧ st.WarmedH t.vm ∧ st.sameButNew ({ t with vm := st.vm } : State) L mc ms ∧ ∀ z ∈ L, free z.base
def vx_Q (Qc : Array Value → State → Outcome → State → Prop) (XC : String → State → State → Prop) (mc ms : Nat) (free : Addr → Prop) : Array Value → State → Outcome → State → Prop := fun a st o t =>
  (Qc a st o t ∧ ∃ L, FrameEnd st o t L mc ms ∧ ∀ q ∈ L, free q.base) ∨ ∃ q, o = .threw q ∧ vx_T XC st q t mc ms free
variable {p : Program} {l : Launch} {e : Env} {R : Room} {s : State} {m : MethodId} {args : Array Value} {below : List Frame} {meth : Method} {c : Code} {H : Heap} {locs : List Loc} {cells slots : Nat} {Q : State → Prop}
variable {mc ms : Nat} {free : Addr → Prop} {A0 A1 : Nat → Prop} {H0 : Heap} {a : Array Value} {ls : Array Slot} {st0 rest : List Value}
variable {Qc : Array Value → State → Outcome → State → Prop} {XC : String → State → State → Prop}
/-- what a body that may throw owes at its end -/
def vx_MQ (below : List Frame) (Qc : Array Value → State → Outcome → State → Prop) (XC : String → State → State → Prop) (a : Array Value) (s : State) (mc ms : Nat) (free : Addr → Prop) : State → Prop := fun t =>
  ∃ o, t.status = .running ∧ Ended t below o ∧ vx_Q Qc XC mc ms free a s o t
/-- not caught here: it goes on to the caller -/
theorem vx_frame {U : State} {k n : Nat} (h : s.sameButNew ({ U with vm := s.vm } : State) locs k n) : s.heap.size ≤ U.heap.size ∧ ∀ q : Nat, q < s.heap.size → (∀ z ∈ locs, z.base ≠ q) → U.heap[q]? = s.heap[q]? := by
  obtain ⟨-, h2, -, -, -, h6⟩ := h
  refine ⟨h2, fun q hq hz => ?_⟩
  obtain ⟨c9, e1, e2, e3, e4⟩ := h6 q _ (Array.getElem?_eq_getElem hq)
  have hs : c9.slots = (s.heap[q]).slots := Array.ext_getElem? fun i => e4 i fun hm => hz _ hm rfl
  have h9 : c9 = s.heap[q] := by
    rw [hs] at e2
    exact e2
  have e5 : U.heap[q]? = some c9 := e1
  rw [e5, h9, Array.getElem?_eq_getElem hq]
/-- the words of a throw but the four that speak of the heap -/
def vx_no (w : Cond) : Bool := decide (w ≠ .isRef (.static Bundle.tN "UNASSIGNED_STACK" Bundle.steD)) && decide (w ≠ .isRef (.static Bundle.tN "SUPPRESSED_SENTINEL" Bundle.listD)) && decide (w ≠ .laysStatic Bundle.tN "UNASSIGNED_STACK" Bundle.steD) && decide (w ≠ .laysStatic Bundle.tN "SUPPRESSED_SENTINEL" Bundle.listD)
def vx_at0 (own : String) (ic : Nat) (X : String) (names : List String) : List Cond := (Bundle.ownAtoms0 own ic X names).filter vx_no
def vx_atS (own : String) (ic : Nat) (X : String) (names : List String) : List Cond := (Bundle.ownAtoms own ic X names).filter vx_no
/-- a word that the tables alone decide, or a good one -/
def vx_ot (w : Cond) : Bool := w.onTables || goodWord w
theorem vx_ot_at {args a' : Array Value} {s U : State} {w : Cond} (hW : s.WarmedH U.vm) (hvm : s.vm = U.vm) (hg : vx_ot w = true) (h : w.before args s = true) : w.before a' U = true := by
  simp only [vx_ot, Bool.or_eq_true] at hg
  rcases hg with hg | hg
  · exact va_tabs hg hvm h
  · exact word_at hW (good_of_word hg) h
/-- a list's words: the good ones out of the method's own list, the others by premises of their own -/
theorem vx_hat {args : Array Value} {s : State} {L B : List Cond} (h1 : ∀ w ∈ L.filter goodWord, w.before args s = true) (h2 : ∀ w ∈ L.filter (fun w => !goodWord w), w ∈ B) (h3 : ∀ w ∈ B, w.before args s = true) : ∀ w ∈ L, w.before args s = true := by
  intro w hw
  by_cases g : goodWord w = true
  · exact h1 w (List.mem_filter.mpr ⟨hw, g⟩)
  · refine h3 w (h2 w (List.mem_filter.mpr ⟨hw, ?_⟩))
    show (!goodWord w) = true
    cases hgw : goodWord w
    · rfl
    · exact absurd hgw g
theorem vx_c {args : Array Value} {s : State} {w : Cond} {B : List Cond} (h : w.before args s = true) (t : ∀ w ∈ B, w.before args s = true) : ∀ w' ∈ w :: B, w'.before args s = true := fun w' h' => (List.mem_cons.mp h').elim (fun e => by rw [e]; exact h) (t w')
theorem vx_n {args : Array Value} {s : State} : ∀ w ∈ ([] : List Cond), w.before args s = true := fun _ h => nomatch h
theorem vx_own {args : Array Value} {s : State} {L : List Cond} (h1 : ∀ w ∈ L.filter vx_no, w.before args s = true)
    (hU : (Cond.isRef (.static Bundle.tN "UNASSIGNED_STACK" Bundle.steD)).before args s = true) (hN : (Cond.isRef (.static Bundle.tN "SUPPRESSED_SENTINEL" Bundle.listD)).before args s = true)
    (lU : (Cond.laysStatic Bundle.tN "UNASSIGNED_STACK" Bundle.steD).before args s = true) (lN : (Cond.laysStatic Bundle.tN "SUPPRESSED_SENTINEL" Bundle.listD).before args s = true) : ∀ w ∈ L, w.before args s = true := by
  intro w hw
  by_cases e1 : w = .isRef (.static Bundle.tN "UNASSIGNED_STACK" Bundle.steD)
  · rw [e1]; exact hU
  · by_cases e2 : w = .isRef (.static Bundle.tN "SUPPRESSED_SENTINEL" Bundle.listD)
    · rw [e2]; exact hN
    · by_cases e3 : w = .laysStatic Bundle.tN "UNASSIGNED_STACK" Bundle.steD
      · rw [e3]; exact lU
      · by_cases e4 : w = .laysStatic Bundle.tN "SUPPRESSED_SENTINEL" Bundle.listD
        · rw [e4]; exact lN
        · exact h1 w (List.mem_filter.mpr ⟨hw, by unfold vx_no; rw [decide_eq_true e1, decide_eq_true e2, decide_eq_true e3, decide_eq_true e4]; rfl⟩)
/-- where a static field lies, its class's statics cell in H -/
def vx_L (C n d : String) (A : Nat → Prop) (U : State) (H : Heap) : Prop := ∃ (c : ClassId) (k : Class) (i : Nat) (f : Field) (a : Nat) (cell : Cell), U.vm.findClass C = some c ∧ U.fieldFound? C n d = some (c, k, i, f) ∧ f.isStatic = true ∧ k.statics = some a ∧ H[a]? = some cell ∧ cell.vm.isStatics = true ∧ cell.cls = c ∧ f.slot < cell.slots.size ∧ k.staticTypes[f.slot]? = some f.type ∧ ¬ A a
theorem vx_L.moved {C n d : String} {A : Nat → Prop} {u U : State} {H : Heap} (hvm : u.vm.Alike U.vm) (h : vx_L C n d A u H) : vx_L C n d A U H := by
  obtain ⟨c, k, i, f, a, cell, h1, h2, h3, h4, h5, h6, h7, h8, h9, h10⟩ := h
  obtain ⟨k', hi', he⟩ := State.fieldFound?_setVm hvm h2
  exact ⟨c, k', i, f, a, cell, by rw [hvm.findClass]; exact h1, hi', h3, by rw [he]; exact h4, h5, h6, h7, h8, by rw [he]; exact h9, h10⟩
theorem vx_L.kept {C n d : String} {A : Nat → Prop} {U : State} {H H1 : Heap} (h : vx_L C n d A U H) (hq : ∀ a : Nat, a < H.size → ¬ A a → H1[a]? = H[a]?) : vx_L C n d A U H1 := by
  obtain ⟨c, k, i, f, a, cell, h1, h2, h3, h4, h5, h6, h7, h8, h9, h10⟩ := h
  exact ⟨c, k, i, f, a, cell, h1, h2, h3, h4, by rw [hq a (Array.getElem?_eq_some_iff.mp h5).1 h10]; exact h5, h6, h7, h8, h9, h10⟩
theorem vx_L.narrow {C n d : String} {A B : Nat → Prop} {U : State} {H : Heap} (h : vx_L C n d A U H) (hAB : ∀ q, B q → A q) : vx_L C n d B U H := by
  obtain ⟨c, k, i, f, a, cell, h1, h2, h3, h4, h5, h6, h7, h8, h9, h10⟩ := h
  exact ⟨c, k, i, f, a, cell, h1, h2, h3, h4, h5, h6, h7, h8, h9, fun z => h10 (hAB _ z)⟩
theorem vx_L.word {C n d : String} {A : Nat → Prop} {s : State} {args : Array Value} (h : vx_L C n d A s s.heap) : (Cond.laysStatic C n d).before args s = true := by
  obtain ⟨c, k, i, f, a, cell, h1, h2, h3, h4, h5, h6, h7, h8, h9, -⟩ := h
  show (Cond.laysStatic C n d).holds args s none s [] = true
  exact Cond.laysStatic_of h1 h2 h3 h4 h5 h6 h7 h8 h9
/-- .. and what it holds: null or some reference -/
def vx_Zq (C n d : String) (A : Nat → Prop) (U : State) (H : Heap) : Prop := va_Zq C n d A U H ∧ vx_L C n d A U H
theorem vx_Zq.moved {C n d : String} {A : Nat → Prop} {u U : State} {H : Heap} (hvm : u.vm.Alike U.vm) (h : vx_Zq C n d A u H) : vx_Zq C n d A U H := ⟨va_Zq.moved hvm h.1, vx_L.moved hvm h.2⟩
theorem vx_Zq.kept {C n d : String} {A : Nat → Prop} {U : State} {H H1 : Heap} (h : vx_Zq C n d A U H) (hq : ∀ a : Nat, a < H.size → ¬ A a → H1[a]? = H[a]?) : vx_Zq C n d A U H1 := ⟨va_Zq.kept h.1 hq, vx_L.kept h.2 hq⟩
theorem vx_Zq.narrow {C n d : String} {A B : Nat → Prop} {U : State} {H : Heap} (h : vx_Zq C n d A U H) (hAB : ∀ q, B q → A q) : vx_Zq C n d B U H := ⟨va_Zq.narrow h.1 hAB, vx_L.narrow h.2 hAB⟩
theorem vx_Zqof {args : Array Value} {s : State} {C n d : String} {A : Nat → Prop} (hl : (Cond.laysStatic C n d).before args s = true) (hini : (Cond.initialized C).before args s = true) (h : (Cond.isRef (.static C n d)).before args s = true) (hA : ∀ a : Nat, a < s.heap.size → ¬ A a) : vx_Zq C n d A s s.heap := by
  refine ⟨va_Zqof hl hini h hA, ?_⟩
  obtain ⟨c, k, i, f, a, cell, h1, h2, h3, h4, h5, h6, h7, h8, h9⟩ := Cond.laysStatic_spec hl
  exact ⟨c, k, i, f, a, cell, h1, h2, h3, h4, h5, h6, h7, h8, h9, hA a (Array.getElem?_eq_some_iff.mp h5).1⟩
theorem vx_isRef {C n d : String} {v : Value} {A : Nat → Prop} {s : State} {args : Array Value} (h : va_Z C n d v A s s.heap) (hv : v.isRef = true) : (Cond.isRef (.static C n d)).before args s = true := by
  obtain ⟨cf, kf, fi, f, a, cell, h1, h2, h3, h4, h5, h6, h7, -⟩ := h
  have he : (Term.static C n d).eval args s none [] s = some v := by
    simp [Term.eval, State.fieldNamed?, h1, h2, h4, h5, h6, h7]
  simp only [Cond.before, Cond.holds, Cond.value, he]
  cases v <;> simp_all [Value.isRef]
theorem vx_isRefq {C n d : String} {A : Nat → Prop} {s : State} {args : Array Value} (h : va_Zq C n d A s s.heap) : (Cond.isRef (.static C n d)).before args s = true := by
  rcases h with h | ⟨t, h⟩
  · exact vx_isRef h rfl
  · exact vx_isRef h rfl
/-- the same frame, seen from here: as if the method were called anew in this heap -/
theorem vx_rebase {T : State} (X : Stand p l e R s m args below meth c T locs cells slots) {R' : Room} (hf : R'.frames ≤ R.frames) (hl : R'.locals ≤ R.locals) (hc : cells + R'.cells ≤ R.cells) (hs : slots + R'.slots ≤ R.slots) :
    Stand p l e R' ((T.setVm s.vm).setFrames (.invoking m args :: below)) m args below meth c T [] 0 0 := by
  have htop : (T.setVm s.vm).topJava?.isSome := X.here.top
  have hF : ((T.setVm s.vm).setFrames (.invoking m args :: below)).frames = .invoking m args :: below := State.frames_setFrames _ (State.cur_lt_of_top htop)
  obtain ⟨g₀, hg0⟩ := Option.isSome_iff_exists.mp htop
  obtain ⟨r, hr⟩ := State.topJava?_eq_some.mp hg0
  have hl9 : e.platform.stackLimits (T.setVm s.vm).me = e.platform.stackLimits s.me := X.limits
  have hb9 : (T.setVm s.vm).me.stackBytes = s.me.stackBytes := X.bytes
  refine ⟨X.admits, X.cas, X.clock, hF, ?_, X.hears, X.method, X.code, X.here, X.tail, X.warmed, ?_, ?_, ?_⟩
  · have h := X.room
    have hU : ((T.setVm s.vm).setFrames (.invoking m args :: below)).localsInUse = s.localsInUse := by
      rw [State.localsInUse_invoking hF (meth := meth) (c := c) X.method X.code, State.localsInUse_invoking X.frames X.method X.code]
    simp only [State.hasRoom, Bool.and_eq_true, decide_eq_true_eq] at h ⊢
    obtain ⟨⟨⟨⟨h1, h2, h3, h4, h5, h6⟩, h7⟩, h8⟩, h9⟩ := h
    rw [X.frames, List.length_cons] at h2 h3
    have q1 := X.heapSize
    have q2 := X.used
    simp only [hF, hU, List.length_cons, State.stackLimits_setFrames, State.stackBytes_setFrames, hl9, hb9]
    refine ⟨⟨⟨⟨by omega, by omega, by omega, by omega, by omega, h6⟩, ?_⟩, ?_⟩, X.book⟩
    · show T.heap.size + R'.cells ≤ e.platform.maxCells
      omega
    · show T.slotsUsed + R'.slots ≤ e.platform.maxSlots
      omega
  · rw [State.stackLimits_setFrames]; rfl
  · rw [State.stackBytes_setFrames]; rfl
  · refine ⟨?_, Nat.le_refl _, Nat.le_refl _, ?_, ?_, fun a c9 h9 => ⟨c9, h9, rfl, rfl, fun _ _ => rfl⟩⟩
    · obtain ⟨t, ht, -⟩ := State.frames_cons hr
      show T.setVm s.vm = { ((T.setVm s.vm).setFrames (.invoking m args :: below)).setFrames (T.setVm s.vm).frames with heap := T.heap, slotsUsed := T.slotsUsed }
      rw [State.setFrames_setFrames, State.setFrames_self ht]
      rfl
    · show T.slotsUsed = T.slotsUsed + ((T.heap.toList.drop T.heap.size).map (·.slots.size)).sum
      rw [List.drop_eq_nil_of_le (Nat.le_of_eq Array.length_toList)]
      rfl
    · show ((T.heap.toList.drop T.heap.size).map (·.slots.size)).sum ≤ 0
      rw [List.drop_eq_nil_of_le (Nat.le_of_eq Array.length_toList)]
      exact Nat.le_refl _
/-- vx_throwS of the names, with the heap's size said exactly -/
theorem zk_throwS {cc : ByteArray} {pc : Nat} (hexec : p.tables.exec = Jvm.exec) (hb : c.code = cc) (hl : l.stackTraces = false) {own cls text : String} {names : List String} {ik is ic mc ms sa : Nat} {A : Nat → Prop}
    (hown : s.vm.findClass own = some m.cls) (hcls : Bundle.fit cls = true) (hnames : ∀ n ∈ names, Bundle.fit n = true)
    (hk : (Cond.classLink own ik cls).before args s = true) (hini : (Cond.initialized cls).before args s = true) (hstr : vk_R own is text sa s) (hat : ∀ w ∈ vx_atS own ic cls names, w.before args s = true)
    (hgood : ∀ w ∈ Cond.classLink own ik cls :: Cond.initialized cls :: vx_atS own ic cls names, vx_ot w = true)
    (hU : vx_Zq Bundle.tN "UNASSIGNED_STACK" Bundle.steD A s s.heap) (hN : vx_Zq Bundle.tN "SUPPRESSED_SENTINEL" Bundle.listD A s s.heap) (hS : va_S A s.heap H locs) (hsize : ls.size = c.maxLocals)
    (d0 : decode cc pc = .ok (.new ik, 3)) (d3 : decode cc (pc + 3) = .ok (.dup, 1)) (d4 : decode cc (pc + 4) = .ok (.ldc is, 2)) (d6 : decode cc (pc + 6) = .ok (.invokespecial ic, 3)) (d9 : decode cc (pc + 9) = .ok (.athrow, 1))
    (hout : ∀ x ∈ c.exceptionTable.toList, covers x (pc + 9) = false)
    (hRframes : names.length + 3 < R.frames) (hRlocals : (rest.map fun v => v.category).sum + (13 * (names.length + 1) + 43) ≤ R.locals) (hRcells : cells + 1 ≤ R.cells) (hRslots : slots + 6 ≤ R.slots) (hlocks : meth.locks = false)
    (hx : ∀ t : State, s.vm.Alike t.vm → t.heap.size = H.size + 1 → (∀ q : Nat, q < H.size → t.heap[q]? = H[q]?) → XC cls s t)
    (hf : ∀ z ∈ locs, free z.base) (hc : cells + 1 ≤ mc) (hs : slots + 6 ≤ ms) :
    W p l e R s m args below meth c H locs cells slots (vx_MQ below Qc XC args s mc ms free) (F0 m pc ls rest) := by
  intro T hT X
  have htr : e.platform.stackTraces = false := (show e.platform.stackTraces = l.stackTraces by rw [X.admits.platform]).trans hl
  have Y := vx_rebase X (R' := { frames := R.frames, locals := R.locals, cells := 1, slots := 6 }) (Nat.le_refl _) (Nat.le_refl _) hRcells hRslots
  obtain ⟨s', hA⟩ : ∃ z, z = (T.setVm s.vm).setFrames (.invoking m args :: below) := ⟨_, rfl⟩
  rw [← hA] at Y
  have hvm : s'.vm = s.vm := by rw [hA]; rfl
  have hhp : s'.heap = H := by rw [hA]; exact hT
  have hW0 : s.WarmedH s'.vm := by rw [hvm]; exact State.WarmedH.refl s
  have hat' : ∀ w ∈ vx_atS own ic cls names, w.before args s' = true := fun w hw => vx_ot_at hW0 hvm.symm (hgood w (List.mem_cons_of_mem _ (List.mem_cons_of_mem _ hw))) (hat w hw)
  have hk' : (Cond.classLink own ik cls).before args s' = true := vx_ot_at hW0 hvm.symm (hgood _ List.mem_cons_self) hk
  have hini' : (Cond.initialized cls).before args s' = true := vx_ot_at hW0 hvm.symm (hgood _ (List.mem_cons_of_mem _ List.mem_cons_self)) hini
  have hU' : vx_Zq Bundle.tN "UNASSIGNED_STACK" Bundle.steD A s' s'.heap := by rw [hhp]; exact vx_Zq.moved hW0.alike (hU.kept hS.2.1)
  have hN' : vx_Zq Bundle.tN "SUPPRESSED_SENTINEL" Bundle.listD A s' s'.heap := by rw [hhp]; exact vx_Zq.moved hW0.alike (hN.kept hS.2.1)
  have h : ∀ w ∈ Bundle.ownAtoms own ic cls names, w.before args s' = true := vx_own hat' (vx_isRefq hU'.1) (vx_isRefq hN'.1) hU'.2.word hN'.2.word
  have hown' : s'.vm.findClass own = some m.cls := by rw [hvm]; exact hown
  have hins : (Cond.instantiable cls 6).before args s' = true := h _ (by simp [Bundle.ownAtoms])
  obtain ⟨vm₁, cX, kX, hfX, hkX, -, -, X₁, st1⟩ := Y.newCold hexec (own := own) (C := cls) (index := ik) (n := 6) hown' hk' hins hini'
    (g := F0 m pc ls rest) rfl (by rw [hb]; exact d0) (Nat.le_refl _) (Nat.le_refl _)
  generalize hT1 : (T.setVm vm₁).pushCell { cls := cX, slots := kX.instanceTypes.map defaultValue, vm := .none } = T1 at X₁ st1
  have hcat : (Value.ref T.heap.size).category = 1 := rfl
  have hcellA : T1.heap[T.heap.size]? = some (freshCell cX kX) := by rw [← hT1]; exact State.heap_pushCell_size _ _
  have d3' : decode c.code (pc + 3) = .ok (.dup, 1) := by rw [hb]; exact d3
  have d4' : decode c.code (pc + 4) = .ok (.ldc is, 2) := by rw [hb]; exact d4
  have hstr' : vk_R own is text sa s' := vk_R.warm hW0 hstr
  obtain ⟨U, hsteps, hrun, hend, hW, hsame, ce, hce, hO⟩ := X₁.ctorThrowS hexec htr (own := own) (cls := cls) (names := names) (ic := ic) hown' hcls hnames h (fun x hx => nomatch hx) hfX hkX hcellA (by rw [hhp, hT]; exact Nat.le_refl _) (msg := .ref sa) rfl
    (g := { method := m, pc := pc + 6, locals := ls, stack := .ref sa :: .ref T.heap.size :: .ref T.heap.size :: rest, locked := none }) rfl hsize rfl rfl (rest := rest) rfl
    (by rw [hb]; exact d6) (by rw [hb]; exact d9) hout hRframes (by simp only [List.map_cons, List.sum_cons, hcat]; omega) hlocks
  obtain ⟨f1, f2⟩ := vx_frame hsame
  rw [hhp] at f1 f2
  have hWs : s.WarmedH U.vm := State.WarmedH.trans hW0 hW
  have hcl : s.vm.findClass cls = some ce.cls := by
    have h9 := hO.cls
    rw [hvm] at h9
    exact h9
  have hall : s.sameButNew ({ U with vm := s.vm } : State) locs mc ms := by
    subst hA
    obtain ⟨e1, e2⟩ := hsame
    rw [State.setFrames_setFrames] at e1
    have h2 : (T.setVm s.vm).sameButNew ({ U with vm := s.vm } : State) [] (0 + 1) (0 + 6) := ⟨e1, e2⟩
    have h3 := X.same.trans h2
    rw [List.append_nil] at h3
    exact h3.mono hc hs
  have hsz : U.heap.size = H.size + 1 := by
    have u1 : U.heap.size ≤ s'.heap.size + (0 + 1) := hsame.2.2.1
    have u2 := (Array.getElem?_eq_some_iff.mp hce).1
    rw [hhp] at u1
    rw [hT] at u2
    omega
  refine ⟨U, ?_, .threw T.heap.size, hrun, hend, Or.inr ⟨T.heap.size, rfl, cls, ce, locs, hx U hWs.alike hsz (fun q hq => f2 q hq (fun z hz => nomatch hz)), hce, hO.vm, hcl, hWs, hall, hf⟩⟩
  refine st1 _ ?_
  show Steps p.tables e below (T1.setTop { method := m, pc := pc + 3, locals := ls, stack := .ref T.heap.size :: rest, locked := none }) _
  jvm_step X₁.here [X₁.here.top, hexec, d3', Value.category]
  exact X₁.ldcString hexec (own := own) (text := text) (index := is) (a := sa) hown' hstr'.1 hstr'.2
    (g := { method := m, pc := pc + 4, locals := ls, stack := .ref T.heap.size :: .ref T.heap.size :: rest, locked := none }) rfl d4' _ hsteps
end ZVX
end
section
/-! what the tables of the abstract machine say is so, by the words of lw_tbl -/
def zk_good (w : Cond) : Bool := goodWord w || (match w with
  | .fieldLinkNest .. => true
  | .castable .. => true
  | .declares _ => true
  | _ => false)
/-- the words that hold wherever the tables are warmer -/
def zkT : List Cond := lw_tbl.filter zk_good
theorem zk_warm {w : Cond} (hg : zk_good w = true) {s U : State} {a a2 : Array Value} (hW : s.WarmedH U.vm) (h : w.before a s = true) : w.before a2 U = true := by
  unfold zk_good at hg
  rw [Bool.or_eq_true] at hg
  rcases hg with hg | hg
  · exact word_at hW (good_of_word hg) h
  · split at hg
    · exact va_Nw.use rfl (va_Nw.warmF hW (va_Nw.of rfl h))
    · exact va_Nw.use rfl (va_Nw.warmC hW (va_Nw.of rfl h))
    · rename_i x
      obtain ⟨m, meth, h1, h2, h3, h4⟩ := Cond.declares_spec h
      simp only [Cond.before, Cond.holds, Cond.value, beq_iff_eq]
      rw [named_alike hW.alike, h1]
      have h5 : U.vm.method? m = some meth := (hW.alike.method? m).trans h2
      simp [h5, h3, h4]
    · cases hg
theorem zkT_warm {s U : State} {a a2 : Array Value} (hW : s.WarmedH U.vm) (h : ∀ w ∈ zkT, w.before a s = true) : ∀ w ∈ zkT, w.before a2 U = true := fun w hw => zk_warm (List.mem_filter.mp hw).2 hW (h w hw)
/-- the word w stands at place p, and is good -/
def zk_chk (p : Nat) (w : Cond) : Bool := decide (zk_nth lw_tbl p = some w) && zk_good w
theorem zk_nth_mem {α : Type} {l : List α} {n : Nat} {a : α} (h : zk_nth l n = some a) : a ∈ l := by
  induction l generalizing n with
  | nil => cases h
  | cons b r ih =>
    cases n with
    | zero => cases h; exact List.mem_cons_self
    | succ n => exact List.mem_cons_of_mem _ (ih h)
theorem zk_chk_mem {p : Nat} {w : Cond} (h : zk_chk p w = true) : w ∈ zkT := by
  unfold zk_chk at h
  rw [Bool.and_eq_true, decide_eq_true_eq] at h
  exact List.mem_filter.mpr ⟨zk_nth_mem h.1, h.2⟩
theorem zk_lk_mem {α : Type} {k : Nat} {l : List (Nat × α)} {v : α} (h : zk_lk k l = some v) : (k, v) ∈ l := by
  induction l with
  | nil => cases h
  | cons q r ih =>
    unfold zk_lk at h
    cases hq : Nat.beq q.1 k with
    | true =>
      rw [hq] at h
      have e1 : q.1 = k := Nat.eq_of_beq_eq_true hq
      have e2 : q.2 = v := Option.some.inj h
      rw [← e1, ← e2]
      exact List.mem_cons_self
    | false =>
      rw [hq] at h
      exact List.mem_cons_of_mem _ (ih h)
def zk_each {α : Type} (L : List (List (Nat × α))) (f : String → Nat → α → Bool) : Bool := (List.range 11).all (fun p => match zk_nth zk_pn p, zk_nth L p with
  | some o, some t => t.all (fun e => f o e.1 e.2)
  | _, none => true
  | none, some _ => false)
/-- a method's class is that of its pool -/
def zk_pok : Bool := (List.range 163).all (fun M => decide (zk_nth zk_pn (zk_pl M) = some (zk_own M)))
theorem zk_pok_ok : zk_pok = true := by decide +kernel
theorem zk_nth_none {α : Type} {l : List α} {n : Nat} (h : l.length ≤ n) : zk_nth l n = none := by
  induction l generalizing n with
  | nil => rfl
  | cons b r ih =>
    cases n with
    | zero => simp at h
    | succ n => exact ih (by simpa using h)
theorem zk_big {M : Nat} (h : 163 ≤ M) : zk_pl M = 99 := by
  have h1 : zk_nth zk_infos M = none := zk_nth_none h
  unfold zk_pl zk_inf
  rw [h1]
theorem zk_lk2_ok {α : Type} {L : List (List (Nat × α))} {f : String → Nat → α → Bool} {M k : Nat} {v : α} (hL : L.length = 11) (hf : zk_each L f = true) (h : zk_lk2 (zk_pl M) k L = some v) : f (zk_own M) k v = true := by
  unfold zk_lk2 at h
  split at h
  · rename_i t ht
    by_cases hM : M < 163
    · have h1 : zk_nth zk_pn (zk_pl M) = some (zk_own M) := of_decide_eq_true (List.all_eq_true.mp zk_pok_ok M (List.mem_range.mpr hM))
      have h2 : zk_pl M < 11 := by
        rcases Nat.lt_or_ge (zk_pl M) 11 with q | q
        · exact q
        · rw [zk_nth_none (by rw [hL]; exact q)] at ht; cases ht
      have h3 := List.all_eq_true.mp hf (zk_pl M) (List.mem_range.mpr h2)
      simp only [h1, ht] at h3
      exact List.all_eq_true.mp h3 (k, v) (zk_lk_mem h)
    · rw [zk_big (by omega), zk_nth_none (by rw [hL]; decide)] at ht
      cases ht
  · cases h
theorem zk_kiL_ok : zk_each zk_kiL (fun o k q => zk_chk q.2 (.constant o k q.1)) = true := by decide +kernel
theorem zk_f_ki {M k : Nat} {v : Int32} (h : zk_ki M k = some v) : Cond.constant (zk_own M) k v ∈ zkT := by
  unfold zk_ki at h
  split at h
  · rename_i q hq
    cases h
    exact zk_chk_mem (zk_lk2_ok (by rfl) zk_kiL_ok hq)
  · cases h
theorem zk_klL_ok : zk_each zk_klL (fun o k q => zk_chk q.2 (.constantLong o k q.1)) = true := by decide +kernel
theorem zk_f_kl {M k : Nat} {v : Int64} (h : zk_kl M k = some v) : Cond.constantLong (zk_own M) k v ∈ zkT := by
  unfold zk_kl at h
  split at h
  · rename_i q hq
    cases h
    exact zk_chk_mem (zk_lk2_ok (by rfl) zk_klL_ok hq)
  · cases h
/-- fields -/
def zk_flB (o : String) (k : Nat) (q : Nat × Nat × Nat × Bool) : Bool := match zk_nth zkCl q.1 with
  | some w => decide (q.2.1 < w.2.2) && decide ((w.2.1 q.2.1).1 = w.1) && (match q.2.2.2 with
    | true => zk_chk q.2.2.1 (.fieldLinkNest o k w.1 (w.2.1 q.2.1).2.1 (w.2.1 q.2.1).2.2.1 "PropertyStore")
    | false => zk_chk q.2.2.1 (.fieldLink o k w.1 (w.2.1 q.2.1).2.1 (w.2.1 q.2.1).2.2.1))
  | none => false
theorem zk_flL_ok : zk_each zk_flL zk_flB = true := by decide +kernel
theorem zk_nth_get {α : Type} {l : List α} {n : Nat} : zk_nth l n = l[n]? := by
  induction l generalizing n with
  | nil => rfl
  | cons b r ih =>
    cases n with
    | zero => rfl
    | succ n => rw [List.getElem?_cons_succ]; exact ih
theorem zk_clty : ((List.range 5).all fun ci => match zk_nth zkCl ci with
  | some w => (List.range w.2.2).all fun j => decide (parseFieldDescriptor (w.2.1 j).2.2.1 = some (zk_fty ci j))
  | none => false) = true := by decide +kernel
theorem zk_f_ty {ci : Nat} {w : vw_C} (hw : zkCl[ci]? = some w) : ∀ k, k < w.2.2 → parseFieldDescriptor (w.2.1 k).2.2.1 = some (zk_fty ci k) := by
  intro k hk
  have hlt : ci < 5 := (List.getElem?_eq_some_iff.mp hw).1
  have h1 := List.all_eq_true.mp zk_clty ci (List.mem_range.mpr hlt)
  rw [← zk_nth_get] at hw
  simp only [hw] at h1
  exact of_decide_eq_true (List.all_eq_true.mp h1 k (List.mem_range.mpr hk))
theorem zk_clnm : ((List.range 5).all fun ci => match zk_nth zkCl ci with
  | some w => (List.range w.2.2).all fun a => (List.range w.2.2).all fun b => decide (a = b) || decide ((w.2.1 a).2.1 ≠ (w.2.1 b).2.1)
  | none => false) = true := by decide +kernel
theorem zk_f_nm {ci : Nat} {w : vw_C} (hw : zkCl[ci]? = some w) : ∀ a, a < w.2.2 → ∀ b, b < w.2.2 → a ≠ b → (w.2.1 a).2.1 ≠ (w.2.1 b).2.1 := by
  intro a ha b hb hab
  have hlt : ci < 5 := (List.getElem?_eq_some_iff.mp hw).1
  have h1 := List.all_eq_true.mp zk_clnm ci (List.mem_range.mpr hlt)
  rw [← zk_nth_get] at hw
  simp only [hw] at h1
  have h2 := List.all_eq_true.mp (List.all_eq_true.mp h1 a (List.mem_range.mpr ha)) b (List.mem_range.mpr hb)
  rw [Bool.or_eq_true, decide_eq_true_eq, decide_eq_true_eq] at h2
  exact h2.resolve_left hab
theorem zk_clly : ((List.range 5).all fun ci => match zk_nth zkCl ci, zk_nth zk_lyP ci with
  | some w, some ps => (List.range w.2.2).all fun j => match zk_nth ps j with
    | some p => zk_chk p (u_lay w.1 w.2.1 j)
    | none => false
  | _, _ => false) = true := by decide +kernel
theorem zk_f_lay {ci : Nat} {w : vw_C} (hw : zkCl[ci]? = some w) : ∀ x ∈ u_ws w.1 w.2.1 w.2.2, x ∈ zkT := by
  intro x hx
  have hlt : ci < 5 := (List.getElem?_eq_some_iff.mp hw).1
  have h1 := List.all_eq_true.mp zk_clly ci (List.mem_range.mpr hlt)
  rw [← zk_nth_get] at hw
  simp only [hw] at h1
  split at h1
  · rename_i ps hw2 hps
    cases hw2
    obtain ⟨j, hj, rfl⟩ := List.mem_map.mp hx
    have h2 := List.all_eq_true.mp h1 j hj
    split at h2
    · exact zk_chk_mem h2
    · cases h2
  · cases h1
theorem zk_f_fl {M k ci j : Nat} (h : zk_fl M k = some (ci, j)) : ∃ w : vw_C, zkCl[ci]? = some w ∧ j < w.2.2 ∧ (w.2.1 j).1 = w.1 ∧ parseFieldDescriptor (w.2.1 j).2.2.1 = some (zk_fty ci j) ∧ (Cond.fieldLink (zk_own M) k w.1 (w.2.1 j).2.1 (w.2.1 j).2.2.1 ∈ zkT ∨ ∃ host, Cond.fieldLinkNest (zk_own M) k w.1 (w.2.1 j).2.1 (w.2.1 j).2.2.1 host ∈ zkT) := by
  unfold zk_fl at h
  split at h
  · rename_i q hq
    cases h
    have h1 := zk_lk2_ok (by rfl) zk_flL_ok hq
    unfold zk_flB at h1
    split at h1
    · rename_i w hw
      rw [zk_nth_get] at hw
      simp only [Bool.and_eq_true, decide_eq_true_eq] at h1
      obtain ⟨⟨h2, h3⟩, h4⟩ := h1
      refine ⟨w, hw, h2, h3, zk_f_ty hw _ h2, ?_⟩
      split at h4
      · exact Or.inr ⟨_, zk_chk_mem h4⟩
      · exact Or.inl (zk_chk_mem h4)
    · cases h1
  · cases h
end
section
/-- how long an instruction is -/
def zk_il (i : Instr) (pc nx : Nat) : Nat := match i with
  | .aload _ | .iload _ | .lload _ | .istore _ | .lstore _ | .astore _ | .bipush _ | .ldc _ | .newarray _ => 2
  | .iinc _ _ | .sipush _ | .ldc_w _ | .ldc2_w _ | .goto _ | .ifCond _ _ | .if_icmp _ _ | .getfield _ | .putfield _ | .new _ | .invokevirtual _ | .invokestatic _ | .invokespecial _ | .checkcast _ => 3
  | .tableswitch .. => nx - pc
  | _ => 1
/-- the target of a branch -/
def zk_tgb (i : Instr) (pc tg : Nat) : Bool := match i with
  | .goto off | .ifCond _ off | .if_icmp _ off => decide ((pc : Int) + off = (tg : Int))
  | .tableswitch d _ _ offs => decide (0 ≤ d) && offs.toList.all (fun o => decide (0 ≤ o))
  | _ => true
/-- constructors write their final fields -/
theorem zk_isf_ok : ((List.range 5).all fun ci => match zk_nth zkCl ci with
  | some w => (List.range w.2.2).all fun j => decide (zk_isf ci j = (w.2.1 j).2.2.2)
  | none => false) = true := by decide +kernel
theorem zk_ini_ok : (zk_ini.all fun q => match zk_nth zkCl q.2 with
  | some w => decide ((zk_yn q.1).name = "<init>") && decide (w.1 = zk_own q.1)
  | none => false) = true := by decide +kernel
theorem zk_flN_ok : zk_each zk_flL (fun o _ q => !q.2.2.2 || (match zk_nth zkCl q.1 with
  | some w => decide (o ≠ w.1)
  | none => false)) = true := by decide +kernel
theorem zk_f_fin {M k ci j : Nat} {w : vw_C} (hw : zkCl[ci]? = some w) (hq : zk_fin M ci j = true) (hfn : (w.2.1 j).2.2.2 = true) (hf : zk_fl M k = some (ci, j)) : (zk_yn M).name = "<init>" ∧ (w.2.1 j).1 = zk_own M ∧ Cond.fieldLink (zk_own M) k w.1 (w.2.1 j).2.1 (w.2.1 j).2.2.1 ∈ zkT := by
  have hlt : ci < 5 := (List.getElem?_eq_some_iff.mp hw).1
  obtain ⟨w2, hw2, hj, hdecl, -, -⟩ := zk_f_fl hf
  cases hw.symm.trans hw2
  have hwn : zk_nth zkCl ci = some w := by rw [zk_nth_get]; exact hw
  have h1 := List.all_eq_true.mp zk_isf_ok ci (List.mem_range.mpr hlt)
  simp only [hwn] at h1
  have h2 : zk_isf ci j = true := by rw [of_decide_eq_true (List.all_eq_true.mp h1 j (List.mem_range.mpr hj))]; exact hfn
  unfold zk_fin at hq
  rw [h2, cond_true] at hq
  split at hq
  · rename_i c hc
    have e1 : c = ci := Nat.eq_of_beq_eq_true hq
    subst e1
    have h3 := List.all_eq_true.mp zk_ini_ok (M, c) (zk_lk_mem hc)
    simp only [hwn, Bool.and_eq_true, decide_eq_true_eq] at h3
    refine ⟨h3.1, hdecl.trans h3.2, ?_⟩
    unfold zk_fl at hf
    split at hf
    · rename_i q hq2
      cases hf
      have h4 := zk_lk2_ok (by rfl) zk_flL_ok hq2
      have h5 := zk_lk2_ok (by rfl) zk_flN_ok hq2
      have h6 : q.2.2.2 = false := by
        rw [hwn] at h5
        cases hb : q.2.2.2 with
        | false => rfl
        | true =>
          rw [hb] at h5
          simp only [Bool.not_true, Bool.false_or, decide_eq_true_eq] at h5
          exact absurd h3.2.symm h5
      unfold zk_flB at h4
      rw [hwn] at h4
      simp only [h6, Bool.and_eq_true] at h4
      exact zk_chk_mem h4.2
    · cases hf
  · cases hq
theorem zk_clL_ok : zk_each zk_clL (fun o k q => match zk_nth zkCl q.1, zk_nth zk_ciP q.1 with
  | some w, some ps => zk_chk q.2 (.classLink o k w.1) && zk_chk ps.1 (.instantiable w.1 w.2.2) && zk_chk ps.2 (.initialized w.1) && decide ((zk_df q.1).length = w.2.2) && (List.range w.2.2).all (fun j => decide ((zk_df q.1)[j]? = some (defaultValue (zk_fty q.1 j))))
  | _, _ => false) = true := by decide +kernel
theorem zk_f_cl {M k ci : Nat} (h : zk_cl M k = some ci) : ∃ w : vw_C, zkCl[ci]? = some w ∧ Cond.classLink (zk_own M) k w.1 ∈ zkT ∧ Cond.instantiable w.1 w.2.2 ∈ zkT ∧ Cond.initialized w.1 ∈ zkT ∧ (zk_df ci).length = w.2.2 ∧ ∀ j, j < w.2.2 → (zk_df ci)[j]? = some (defaultValue (zk_fty ci j)) := by
  unfold zk_cl at h
  split at h
  · rename_i q hq
    cases h
    have h1 := zk_lk2_ok (by rfl) zk_clL_ok hq
    split at h1
    · rename_i w ps hw hps
      rw [zk_nth_get] at hw
      simp only [Bool.and_eq_true, decide_eq_true_eq, List.all_eq_true] at h1
      obtain ⟨⟨⟨⟨a1, a2⟩, a3⟩, a4⟩, a5⟩ := h1
      exact ⟨w, hw, zk_chk_mem a1, zk_chk_mem a2, zk_chk_mem a3, a4, fun j hj => a5 j (List.mem_range.mpr hj)⟩
    · cases h1
  · cases h
theorem zk_f_aI : Cond.arrayClass .int ∈ zkT := zk_chk_mem (p := 115) (by decide +kernel)
theorem zk_f_aL : Cond.arrayClass .long ∈ zkT := zk_chk_mem (p := 116) (by decide +kernel)
theorem zk_f_aB : Cond.arrayClass .boolean ∈ zkT := zk_chk_mem (p := 778) (by decide +kernel)
theorem zk_oi_ok : (zk_chk zk_oiP.1 (.instanceMethod Lib.objectInit) && zk_chk zk_oiP.2 (.code Lib.objectInit ⟨#[0xb1]⟩ 1 none)) = true := by decide +kernel
theorem zk_ac_ok : (zk_chk zk_acP.1 (.native arraycopyName) && zk_chk zk_acP.2.1 (.static arraycopyName) && zk_chk zk_acP.2.2 (.initialized "java/lang/System")) = true := by decide +kernel
def zk_nps (y : MethodName) : Option Nat := (parseMethodDescriptor y.desc).map (fun d => d.parameters.length)
def zk_mtB (o : String) (k : Nat) (q : Nat × Nat × Nat × Nat × Nat × Nat × Nat) : Bool := match q.2.1 with
  | 0 => zk_chk q.2.2.2.2.1 (.methodLink o k (zk_yn q.1)) && zk_chk q.2.2.2.2.2.1 (.instanceMethod (zk_yn q.1)) && zk_chk q.2.2.2.2.2.2 (.selects (zk_own q.1) (zk_yn q.1) (zk_yn q.1)) && decide (q.1 < 162) && decide (zk_nps (zk_yn q.1) = some q.2.2.1) && (match zk_nth zkCl q.2.2.2.1 with
    | some w => decide (w.1 = zk_own q.1)
    | none => false)
  | 1 => zk_chk q.2.2.2.2.1 (.methodLink o k (zk_yn q.1)) && zk_chk q.2.2.2.2.2.1 (.static (zk_yn q.1)) && decide (q.1 < 162) && decide (zk_nps (zk_yn q.1) = some q.2.2.1)
  | 2 => zk_chk q.2.2.2.2.1 (.methodLink o k (zk_yn q.1)) && zk_chk q.2.2.2.2.2.1 (.instanceMethod (zk_yn q.1)) && decide ((zk_yn q.1).name = "<init>") && decide (zk_rt q.1 = none) && decide (zk_hd q.1 = []) && decide (q.1 < 162) && decide (zk_nps (zk_yn q.1) = some q.2.2.1)
  | 3 => zk_chk q.2.2.2.2.1 (.methodLink o k Lib.objectInit)
  | 4 => zk_chk q.2.2.2.2.1 (.methodLink o k arraycopyName)
  | _ => false
theorem zk_mtL_ok : zk_each zk_mtL zk_mtB = true := by decide +kernel
theorem zk_f_mt {M k M2 kd n ci : Nat} (h : zk_mt M k = some (M2, kd, n, ci)) : ∃ p, zk_mtB (zk_own M) k (M2, kd, n, ci, p) = true := by
  unfold zk_mt at h
  split at h
  · rename_i q hq
    cases h
    exact ⟨q.2.2.2.2, zk_lk2_ok (by rfl) zk_mtL_ok hq⟩
  · cases h
theorem zk_f_oi {M k q1 q3 q4 : Nat} (h : zk_mt M k = some (q1, 3, q3, q4)) : Cond.methodLink (zk_own M) k Lib.objectInit ∈ zkT ∧ Cond.instanceMethod Lib.objectInit ∈ zkT ∧ Cond.code Lib.objectInit ⟨#[0xb1]⟩ 1 none ∈ zkT := by
  obtain ⟨p, hp⟩ := zk_f_mt h
  have h2 := zk_oi_ok
  rw [Bool.and_eq_true] at h2
  exact ⟨zk_chk_mem hp, zk_chk_mem h2.1, zk_chk_mem h2.2⟩
theorem zk_f_ac {M k q1 q3 q4 : Nat} (h : zk_mt M k = some (q1, 4, q3, q4)) : Cond.methodLink (zk_own M) k arraycopyName ∈ zkT ∧ Cond.native arraycopyName ∈ zkT ∧ Cond.static arraycopyName ∈ zkT ∧ Cond.initialized "java/lang/System" ∈ zkT := by
  obtain ⟨p, hp⟩ := zk_f_mt h
  have h2 := zk_ac_ok
  rw [Bool.and_eq_true, Bool.and_eq_true] at h2
  exact ⟨zk_chk_mem hp, zk_chk_mem h2.1.1, zk_chk_mem h2.1.2, zk_chk_mem h2.2⟩
-- a method's own words
set_option maxRecDepth 100000 in
theorem zk_cw_0 : zk_nth lw_tbl 69 = some (zk_cw 0) := rfl
set_option maxRecDepth 100000 in
theorem zk_cw_1 : zk_nth lw_tbl 77 = some (zk_cw 1) := rfl
set_option maxRecDepth 100000 in
theorem zk_cw_2 : zk_nth lw_tbl 83 = some (zk_cw 2) := rfl
set_option maxRecDepth 100000 in
theorem zk_cw_3 : zk_nth lw_tbl 88 = some (zk_cw 3) := rfl
set_option maxRecDepth 100000 in
theorem zk_cw_4 : zk_nth lw_tbl 92 = some (zk_cw 4) := rfl
set_option maxRecDepth 100000 in
theorem zk_cw_5 : zk_nth lw_tbl 126 = some (zk_cw 5) := rfl
set_option maxRecDepth 100000 in
theorem zk_cw_6 : zk_nth lw_tbl 182 = some (zk_cw 6) := rfl
set_option maxRecDepth 100000 in
theorem zk_cw_7 : zk_nth lw_tbl 185 = some (zk_cw 7) := rfl
set_option maxRecDepth 100000 in
theorem zk_cw_8 : zk_nth lw_tbl 190 = some (zk_cw 8) := rfl
set_option maxRecDepth 100000 in
theorem zk_cw_9 : zk_nth lw_tbl 193 = some (zk_cw 9) := rfl
set_option maxRecDepth 100000 in
theorem zk_cw_10 : zk_nth lw_tbl 264 = some (zk_cw 10) := rfl
set_option maxRecDepth 100000 in
theorem zk_cw_11 : zk_nth lw_tbl 268 = some (zk_cw 11) := rfl
set_option maxRecDepth 100000 in
theorem zk_cw_12 : zk_nth lw_tbl 272 = some (zk_cw 12) := rfl
set_option maxRecDepth 100000 in
theorem zk_cw_13 : zk_nth lw_tbl 277 = some (zk_cw 13) := rfl
set_option maxRecDepth 100000 in
theorem zk_cw_14 : zk_nth lw_tbl 281 = some (zk_cw 14) := rfl
set_option maxRecDepth 100000 in
theorem zk_cw_15 : zk_nth lw_tbl 285 = some (zk_cw 15) := rfl
set_option maxRecDepth 100000 in
theorem zk_cw_16 : zk_nth lw_tbl 289 = some (zk_cw 16) := rfl
set_option maxRecDepth 100000 in
theorem zk_cw_17 : zk_nth lw_tbl 293 = some (zk_cw 17) := rfl
set_option maxRecDepth 100000 in
theorem zk_cw_18 : zk_nth lw_tbl 297 = some (zk_cw 18) := rfl
set_option maxRecDepth 100000 in
theorem zk_cw_19 : zk_nth lw_tbl 301 = some (zk_cw 19) := rfl
set_option maxRecDepth 100000 in
theorem zk_cw_20 : zk_nth lw_tbl 305 = some (zk_cw 20) := rfl
set_option maxRecDepth 100000 in
theorem zk_cw_21 : zk_nth lw_tbl 308 = some (zk_cw 21) := rfl
set_option maxRecDepth 100000 in
theorem zk_cw_22 : zk_nth lw_tbl 311 = some (zk_cw 22) := rfl
set_option maxRecDepth 100000 in
theorem zk_cw_23 : zk_nth lw_tbl 327 = some (zk_cw 23) := rfl
set_option maxRecDepth 100000 in
theorem zk_cw_24 : zk_nth lw_tbl 333 = some (zk_cw 24) := rfl
set_option maxRecDepth 100000 in
theorem zk_cw_25 : zk_nth lw_tbl 336 = some (zk_cw 25) := rfl
set_option maxRecDepth 100000 in
theorem zk_cw_26 : zk_nth lw_tbl 339 = some (zk_cw 26) := rfl
set_option maxRecDepth 100000 in
theorem zk_cw_27 : zk_nth lw_tbl 342 = some (zk_cw 27) := rfl
set_option maxRecDepth 100000 in
theorem zk_cw_28 : zk_nth lw_tbl 348 = some (zk_cw 28) := rfl
set_option maxRecDepth 100000 in
theorem zk_cw_29 : zk_nth lw_tbl 353 = some (zk_cw 29) := rfl
set_option maxRecDepth 100000 in
theorem zk_cw_30 : zk_nth lw_tbl 357 = some (zk_cw 30) := rfl
set_option maxRecDepth 100000 in
theorem zk_cw_31 : zk_nth lw_tbl 360 = some (zk_cw 31) := rfl
set_option maxRecDepth 100000 in
theorem zk_cw_32 : zk_nth lw_tbl 364 = some (zk_cw 32) := rfl
set_option maxRecDepth 100000 in
theorem zk_cw_33 : zk_nth lw_tbl 367 = some (zk_cw 33) := rfl
set_option maxRecDepth 100000 in
theorem zk_cw_34 : zk_nth lw_tbl 371 = some (zk_cw 34) := rfl
set_option maxRecDepth 100000 in
theorem zk_cw_35 : zk_nth lw_tbl 376 = some (zk_cw 35) := rfl
set_option maxRecDepth 100000 in
theorem zk_cw_36 : zk_nth lw_tbl 381 = some (zk_cw 36) := rfl
set_option maxRecDepth 100000 in
theorem zk_cw_37 : zk_nth lw_tbl 386 = some (zk_cw 37) := rfl
set_option maxRecDepth 100000 in
theorem zk_cw_38 : zk_nth lw_tbl 405 = some (zk_cw 38) := rfl
set_option maxRecDepth 100000 in
theorem zk_cw_39 : zk_nth lw_tbl 409 = some (zk_cw 39) := rfl
set_option maxRecDepth 100000 in
theorem zk_cw_40 : zk_nth lw_tbl 413 = some (zk_cw 40) := rfl
set_option maxRecDepth 100000 in
theorem zk_cw_41 : zk_nth lw_tbl 417 = some (zk_cw 41) := rfl
set_option maxRecDepth 100000 in
theorem zk_cw_42 : zk_nth lw_tbl 421 = some (zk_cw 42) := rfl
set_option maxRecDepth 100000 in
theorem zk_cw_43 : zk_nth lw_tbl 428 = some (zk_cw 43) := rfl
set_option maxRecDepth 100000 in
theorem zk_cw_44 : zk_nth lw_tbl 432 = some (zk_cw 44) := rfl
set_option maxRecDepth 100000 in
theorem zk_cw_45 : zk_nth lw_tbl 436 = some (zk_cw 45) := rfl
set_option maxRecDepth 100000 in
theorem zk_cw_46 : zk_nth lw_tbl 441 = some (zk_cw 46) := rfl
set_option maxRecDepth 100000 in
theorem zk_cw_47 : zk_nth lw_tbl 445 = some (zk_cw 47) := rfl
set_option maxRecDepth 100000 in
theorem zk_cw_48 : zk_nth lw_tbl 449 = some (zk_cw 48) := rfl
set_option maxRecDepth 100000 in
theorem zk_cw_49 : zk_nth lw_tbl 453 = some (zk_cw 49) := rfl
set_option maxRecDepth 100000 in
theorem zk_cw_50 : zk_nth lw_tbl 457 = some (zk_cw 50) := rfl
set_option maxRecDepth 100000 in
theorem zk_cw_51 : zk_nth lw_tbl 461 = some (zk_cw 51) := rfl
set_option maxRecDepth 100000 in
theorem zk_cw_52 : zk_nth lw_tbl 465 = some (zk_cw 52) := rfl
set_option maxRecDepth 100000 in
theorem zk_cw_53 : zk_nth lw_tbl 469 = some (zk_cw 53) := rfl
set_option maxRecDepth 100000 in
theorem zk_cw_54 : zk_nth lw_tbl 473 = some (zk_cw 54) := rfl
set_option maxRecDepth 100000 in
theorem zk_cw_55 : zk_nth lw_tbl 477 = some (zk_cw 55) := rfl
set_option maxRecDepth 100000 in
theorem zk_cw_56 : zk_nth lw_tbl 481 = some (zk_cw 56) := rfl
set_option maxRecDepth 100000 in
theorem zk_cw_57 : zk_nth lw_tbl 485 = some (zk_cw 57) := rfl
set_option maxRecDepth 100000 in
theorem zk_cw_58 : zk_nth lw_tbl 490 = some (zk_cw 58) := rfl
set_option maxRecDepth 100000 in
theorem zk_cw_59 : zk_nth lw_tbl 494 = some (zk_cw 59) := rfl
set_option maxRecDepth 100000 in
theorem zk_cw_60 : zk_nth lw_tbl 498 = some (zk_cw 60) := rfl
set_option maxRecDepth 100000 in
theorem zk_cw_61 : zk_nth lw_tbl 502 = some (zk_cw 61) := rfl
set_option maxRecDepth 100000 in
theorem zk_cw_62 : zk_nth lw_tbl 506 = some (zk_cw 62) := rfl
set_option maxRecDepth 100000 in
theorem zk_cw_63 : zk_nth lw_tbl 510 = some (zk_cw 63) := rfl
set_option maxRecDepth 100000 in
theorem zk_cw_64 : zk_nth lw_tbl 514 = some (zk_cw 64) := rfl
set_option maxRecDepth 100000 in
theorem zk_cw_65 : zk_nth lw_tbl 519 = some (zk_cw 65) := rfl
set_option maxRecDepth 100000 in
theorem zk_cw_66 : zk_nth lw_tbl 523 = some (zk_cw 66) := rfl
set_option maxRecDepth 100000 in
theorem zk_cw_67 : zk_nth lw_tbl 527 = some (zk_cw 67) := rfl
set_option maxRecDepth 100000 in
theorem zk_cw_68 : zk_nth lw_tbl 534 = some (zk_cw 68) := rfl
set_option maxRecDepth 100000 in
theorem zk_cw_69 : zk_nth lw_tbl 540 = some (zk_cw 69) := rfl
set_option maxRecDepth 100000 in
theorem zk_cw_70 : zk_nth lw_tbl 544 = some (zk_cw 70) := rfl
set_option maxRecDepth 100000 in
theorem zk_cw_71 : zk_nth lw_tbl 548 = some (zk_cw 71) := rfl
set_option maxRecDepth 100000 in
theorem zk_cw_72 : zk_nth lw_tbl 553 = some (zk_cw 72) := rfl
set_option maxRecDepth 100000 in
theorem zk_cw_73 : zk_nth lw_tbl 556 = some (zk_cw 73) := rfl
set_option maxRecDepth 100000 in
theorem zk_cw_74 : zk_nth lw_tbl 560 = some (zk_cw 74) := rfl
set_option maxRecDepth 100000 in
theorem zk_cw_75 : zk_nth lw_tbl 564 = some (zk_cw 75) := rfl
set_option maxRecDepth 100000 in
theorem zk_cw_76 : zk_nth lw_tbl 567 = some (zk_cw 76) := rfl
set_option maxRecDepth 100000 in
theorem zk_cw_77 : zk_nth lw_tbl 570 = some (zk_cw 77) := rfl
set_option maxRecDepth 100000 in
theorem zk_cw_78 : zk_nth lw_tbl 578 = some (zk_cw 78) := rfl
set_option maxRecDepth 100000 in
theorem zk_cw_79 : zk_nth lw_tbl 582 = some (zk_cw 79) := rfl
set_option maxRecDepth 100000 in
theorem zk_cw_80 : zk_nth lw_tbl 588 = some (zk_cw 80) := rfl
set_option maxRecDepth 100000 in
theorem zk_cw_81 : zk_nth lw_tbl 591 = some (zk_cw 81) := rfl
set_option maxRecDepth 100000 in
theorem zk_cw_82 : zk_nth lw_tbl 594 = some (zk_cw 82) := rfl
set_option maxRecDepth 100000 in
theorem zk_cw_83 : zk_nth lw_tbl 598 = some (zk_cw 83) := rfl
set_option maxRecDepth 100000 in
theorem zk_cw_84 : zk_nth lw_tbl 603 = some (zk_cw 84) := rfl
set_option maxRecDepth 100000 in
theorem zk_cw_85 : zk_nth lw_tbl 606 = some (zk_cw 85) := rfl
set_option maxRecDepth 100000 in
theorem zk_cw_86 : zk_nth lw_tbl 610 = some (zk_cw 86) := rfl
set_option maxRecDepth 100000 in
theorem zk_cw_87 : zk_nth lw_tbl 614 = some (zk_cw 87) := rfl
set_option maxRecDepth 100000 in
theorem zk_cw_88 : zk_nth lw_tbl 618 = some (zk_cw 88) := rfl
set_option maxRecDepth 100000 in
theorem zk_cw_89 : zk_nth lw_tbl 621 = some (zk_cw 89) := rfl
set_option maxRecDepth 100000 in
theorem zk_cw_90 : zk_nth lw_tbl 625 = some (zk_cw 90) := rfl
set_option maxRecDepth 100000 in
theorem zk_cw_91 : zk_nth lw_tbl 628 = some (zk_cw 91) := rfl
set_option maxRecDepth 100000 in
theorem zk_cw_92 : zk_nth lw_tbl 632 = some (zk_cw 92) := rfl
set_option maxRecDepth 100000 in
theorem zk_cw_93 : zk_nth lw_tbl 636 = some (zk_cw 93) := rfl
set_option maxRecDepth 100000 in
theorem zk_cw_94 : zk_nth lw_tbl 639 = some (zk_cw 94) := rfl
set_option maxRecDepth 100000 in
theorem zk_cw_95 : zk_nth lw_tbl 643 = some (zk_cw 95) := rfl
set_option maxRecDepth 100000 in
theorem zk_cw_96 : zk_nth lw_tbl 647 = some (zk_cw 96) := rfl
set_option maxRecDepth 100000 in
theorem zk_cw_97 : zk_nth lw_tbl 650 = some (zk_cw 97) := rfl
set_option maxRecDepth 100000 in
theorem zk_cw_98 : zk_nth lw_tbl 654 = some (zk_cw 98) := rfl
set_option maxRecDepth 100000 in
theorem zk_cw_99 : zk_nth lw_tbl 658 = some (zk_cw 99) := rfl
set_option maxRecDepth 100000 in
theorem zk_cw_100 : zk_nth lw_tbl 663 = some (zk_cw 100) := rfl
set_option maxRecDepth 100000 in
theorem zk_cw_101 : zk_nth lw_tbl 667 = some (zk_cw 101) := rfl
set_option maxRecDepth 100000 in
theorem zk_cw_102 : zk_nth lw_tbl 671 = some (zk_cw 102) := rfl
set_option maxRecDepth 100000 in
theorem zk_cw_103 : zk_nth lw_tbl 675 = some (zk_cw 103) := rfl
set_option maxRecDepth 100000 in
theorem zk_cw_104 : zk_nth lw_tbl 679 = some (zk_cw 104) := rfl
set_option maxRecDepth 100000 in
theorem zk_cw_105 : zk_nth lw_tbl 682 = some (zk_cw 105) := rfl
set_option maxRecDepth 100000 in
theorem zk_cw_106 : zk_nth lw_tbl 686 = some (zk_cw 106) := rfl
set_option maxRecDepth 100000 in
theorem zk_cw_107 : zk_nth lw_tbl 690 = some (zk_cw 107) := rfl
set_option maxRecDepth 100000 in
theorem zk_cw_108 : zk_nth lw_tbl 693 = some (zk_cw 108) := rfl
set_option maxRecDepth 100000 in
theorem zk_cw_109 : zk_nth lw_tbl 697 = some (zk_cw 109) := rfl
set_option maxRecDepth 100000 in
theorem zk_cw_110 : zk_nth lw_tbl 701 = some (zk_cw 110) := rfl
set_option maxRecDepth 100000 in
theorem zk_cw_111 : zk_nth lw_tbl 705 = some (zk_cw 111) := rfl
set_option maxRecDepth 100000 in
theorem zk_cw_112 : zk_nth lw_tbl 710 = some (zk_cw 112) := rfl
set_option maxRecDepth 100000 in
theorem zk_cw_113 : zk_nth lw_tbl 715 = some (zk_cw 113) := rfl
set_option maxRecDepth 100000 in
theorem zk_cw_114 : zk_nth lw_tbl 782 = some (zk_cw 114) := rfl
set_option maxRecDepth 100000 in
theorem zk_cw_115 : zk_nth lw_tbl 786 = some (zk_cw 115) := rfl
set_option maxRecDepth 100000 in
theorem zk_cw_116 : zk_nth lw_tbl 789 = some (zk_cw 116) := rfl
set_option maxRecDepth 100000 in
theorem zk_cw_117 : zk_nth lw_tbl 793 = some (zk_cw 117) := rfl
set_option maxRecDepth 100000 in
theorem zk_cw_118 : zk_nth lw_tbl 797 = some (zk_cw 118) := rfl
set_option maxRecDepth 100000 in
theorem zk_cw_119 : zk_nth lw_tbl 801 = some (zk_cw 119) := rfl
set_option maxRecDepth 100000 in
theorem zk_cw_120 : zk_nth lw_tbl 805 = some (zk_cw 120) := rfl
set_option maxRecDepth 100000 in
theorem zk_cw_121 : zk_nth lw_tbl 810 = some (zk_cw 121) := rfl
set_option maxRecDepth 100000 in
theorem zk_cw_122 : zk_nth lw_tbl 814 = some (zk_cw 122) := rfl
set_option maxRecDepth 100000 in
theorem zk_cw_123 : zk_nth lw_tbl 818 = some (zk_cw 123) := rfl
set_option maxRecDepth 100000 in
theorem zk_cw_124 : zk_nth lw_tbl 822 = some (zk_cw 124) := rfl
set_option maxRecDepth 100000 in
theorem zk_cw_125 : zk_nth lw_tbl 829 = some (zk_cw 125) := rfl
set_option maxRecDepth 100000 in
theorem zk_cw_126 : zk_nth lw_tbl 833 = some (zk_cw 126) := rfl
set_option maxRecDepth 100000 in
theorem zk_cw_127 : zk_nth lw_tbl 837 = some (zk_cw 127) := rfl
set_option maxRecDepth 100000 in
theorem zk_cw_128 : zk_nth lw_tbl 841 = some (zk_cw 128) := rfl
set_option maxRecDepth 100000 in
theorem zk_cw_129 : zk_nth lw_tbl 844 = some (zk_cw 129) := rfl
set_option maxRecDepth 100000 in
theorem zk_cw_130 : zk_nth lw_tbl 850 = some (zk_cw 130) := rfl
set_option maxRecDepth 100000 in
theorem zk_cw_131 : zk_nth lw_tbl 854 = some (zk_cw 131) := rfl
set_option maxRecDepth 100000 in
theorem zk_cw_132 : zk_nth lw_tbl 858 = some (zk_cw 132) := rfl
set_option maxRecDepth 100000 in
theorem zk_cw_133 : zk_nth lw_tbl 862 = some (zk_cw 133) := rfl
set_option maxRecDepth 100000 in
theorem zk_cw_134 : zk_nth lw_tbl 865 = some (zk_cw 134) := rfl
set_option maxRecDepth 100000 in
theorem zk_cw_135 : zk_nth lw_tbl 868 = some (zk_cw 135) := rfl
set_option maxRecDepth 100000 in
theorem zk_cw_136 : zk_nth lw_tbl 875 = some (zk_cw 136) := rfl
set_option maxRecDepth 100000 in
theorem zk_cw_137 : zk_nth lw_tbl 879 = some (zk_cw 137) := rfl
set_option maxRecDepth 100000 in
theorem zk_cw_138 : zk_nth lw_tbl 882 = some (zk_cw 138) := rfl
set_option maxRecDepth 100000 in
theorem zk_cw_139 : zk_nth lw_tbl 886 = some (zk_cw 139) := rfl
set_option maxRecDepth 100000 in
theorem zk_cw_140 : zk_nth lw_tbl 890 = some (zk_cw 140) := rfl
set_option maxRecDepth 100000 in
theorem zk_cw_141 : zk_nth lw_tbl 894 = some (zk_cw 141) := rfl
set_option maxRecDepth 100000 in
theorem zk_cw_142 : zk_nth lw_tbl 898 = some (zk_cw 142) := rfl
set_option maxRecDepth 100000 in
theorem zk_cw_143 : zk_nth lw_tbl 902 = some (zk_cw 143) := rfl
set_option maxRecDepth 100000 in
theorem zk_cw_144 : zk_nth lw_tbl 906 = some (zk_cw 144) := rfl
set_option maxRecDepth 100000 in
theorem zk_cw_145 : zk_nth lw_tbl 910 = some (zk_cw 145) := rfl
set_option maxRecDepth 100000 in
theorem zk_cw_146 : zk_nth lw_tbl 914 = some (zk_cw 146) := rfl
set_option maxRecDepth 100000 in
theorem zk_cw_147 : zk_nth lw_tbl 918 = some (zk_cw 147) := rfl
set_option maxRecDepth 100000 in
theorem zk_cw_148 : zk_nth lw_tbl 922 = some (zk_cw 148) := rfl
set_option maxRecDepth 100000 in
theorem zk_cw_149 : zk_nth lw_tbl 926 = some (zk_cw 149) := rfl
set_option maxRecDepth 100000 in
theorem zk_cw_150 : zk_nth lw_tbl 930 = some (zk_cw 150) := rfl
set_option maxRecDepth 100000 in
theorem zk_cw_151 : zk_nth lw_tbl 934 = some (zk_cw 151) := rfl
set_option maxRecDepth 100000 in
theorem zk_cw_152 : zk_nth lw_tbl 938 = some (zk_cw 152) := rfl
set_option maxRecDepth 100000 in
theorem zk_cw_153 : zk_nth lw_tbl 942 = some (zk_cw 153) := rfl
set_option maxRecDepth 100000 in
theorem zk_cw_154 : zk_nth lw_tbl 946 = some (zk_cw 154) := rfl
set_option maxRecDepth 100000 in
theorem zk_cw_155 : zk_nth lw_tbl 950 = some (zk_cw 155) := rfl
set_option maxRecDepth 100000 in
theorem zk_cw_156 : zk_nth lw_tbl 954 = some (zk_cw 156) := rfl
set_option maxRecDepth 100000 in
theorem zk_cw_157 : zk_nth lw_tbl 958 = some (zk_cw 157) := rfl
set_option maxRecDepth 100000 in
theorem zk_cw_158 : zk_nth lw_tbl 962 = some (zk_cw 158) := rfl
set_option maxRecDepth 100000 in
theorem zk_cw_159 : zk_nth lw_tbl 967 = some (zk_cw 159) := rfl
set_option maxRecDepth 100000 in
theorem zk_cw_160 : zk_nth lw_tbl 971 = some (zk_cw 160) := rfl
set_option maxRecDepth 100000 in
theorem zk_cw_161 : zk_nth lw_tbl 975 = some (zk_cw 161) := rfl
def zk_AllP (f : Nat → Prop) : Nat → Prop
  | 0 => True
  | n + 1 => zk_AllP f n ∧ f n
theorem zk_AllP_at {f : Nat → Prop} {n : Nat} (h : zk_AllP f n) : ∀ M, M < n → f M := by
  induction n with
  | zero => intro M hM; cases hM
  | succ n ih =>
    intro M hM
    rcases Nat.lt_or_ge M n with q | q
    · exact ih h.1 M q
    · rw [show M = n by omega]; exact h.2
theorem zk_cw_all : zk_AllP (fun M => ∃ p, zk_nth lw_tbl p = some (zk_cw M)) 162 := ⟨⟨⟨⟨⟨⟨⟨⟨⟨⟨⟨⟨⟨⟨⟨⟨⟨⟨⟨⟨⟨⟨⟨⟨⟨⟨⟨⟨⟨⟨⟨⟨⟨⟨⟨⟨⟨⟨⟨⟨⟨⟨⟨⟨⟨⟨⟨⟨⟨⟨⟨⟨⟨⟨⟨⟨⟨⟨⟨⟨⟨⟨⟨⟨⟨⟨⟨⟨⟨⟨⟨⟨⟨⟨⟨⟨⟨⟨⟨⟨⟨⟨⟨⟨⟨⟨⟨⟨⟨⟨⟨⟨⟨⟨⟨⟨⟨⟨⟨⟨⟨⟨⟨⟨⟨⟨⟨⟨⟨⟨⟨⟨⟨⟨⟨⟨⟨⟨⟨⟨⟨⟨⟨⟨⟨⟨⟨⟨⟨⟨⟨⟨⟨⟨⟨⟨⟨⟨⟨⟨⟨⟨⟨⟨⟨⟨⟨⟨⟨⟨⟨⟨⟨⟨⟨⟨⟨⟨⟨⟨⟨⟨trivial, ⟨_, zk_cw_0⟩⟩, ⟨_, zk_cw_1⟩⟩, ⟨_, zk_cw_2⟩⟩, ⟨_, zk_cw_3⟩⟩, ⟨_, zk_cw_4⟩⟩, ⟨_, zk_cw_5⟩⟩, ⟨_, zk_cw_6⟩⟩, ⟨_, zk_cw_7⟩⟩, ⟨_, zk_cw_8⟩⟩, ⟨_, zk_cw_9⟩⟩, ⟨_, zk_cw_10⟩⟩, ⟨_, zk_cw_11⟩⟩, ⟨_, zk_cw_12⟩⟩, ⟨_, zk_cw_13⟩⟩, ⟨_, zk_cw_14⟩⟩, ⟨_, zk_cw_15⟩⟩, ⟨_, zk_cw_16⟩⟩, ⟨_, zk_cw_17⟩⟩, ⟨_, zk_cw_18⟩⟩, ⟨_, zk_cw_19⟩⟩, ⟨_, zk_cw_20⟩⟩, ⟨_, zk_cw_21⟩⟩, ⟨_, zk_cw_22⟩⟩, ⟨_, zk_cw_23⟩⟩, ⟨_, zk_cw_24⟩⟩, ⟨_, zk_cw_25⟩⟩, ⟨_, zk_cw_26⟩⟩, ⟨_, zk_cw_27⟩⟩, ⟨_, zk_cw_28⟩⟩, ⟨_, zk_cw_29⟩⟩, ⟨_, zk_cw_30⟩⟩, ⟨_, zk_cw_31⟩⟩, ⟨_, zk_cw_32⟩⟩, ⟨_, zk_cw_33⟩⟩, ⟨_, zk_cw_34⟩⟩, ⟨_, zk_cw_35⟩⟩, ⟨_, zk_cw_36⟩⟩, ⟨_, zk_cw_37⟩⟩, ⟨_, zk_cw_38⟩⟩, ⟨_, zk_cw_39⟩⟩, ⟨_, zk_cw_40⟩⟩, ⟨_, zk_cw_41⟩⟩, ⟨_, zk_cw_42⟩⟩, ⟨_, zk_cw_43⟩⟩, ⟨_, zk_cw_44⟩⟩, ⟨_, zk_cw_45⟩⟩, ⟨_, zk_cw_46⟩⟩, ⟨_, zk_cw_47⟩⟩, ⟨_, zk_cw_48⟩⟩, ⟨_, zk_cw_49⟩⟩, ⟨_, zk_cw_50⟩⟩, ⟨_, zk_cw_51⟩⟩, ⟨_, zk_cw_52⟩⟩, ⟨_, zk_cw_53⟩⟩, ⟨_, zk_cw_54⟩⟩, ⟨_, zk_cw_55⟩⟩, ⟨_, zk_cw_56⟩⟩, ⟨_, zk_cw_57⟩⟩, ⟨_, zk_cw_58⟩⟩, ⟨_, zk_cw_59⟩⟩, ⟨_, zk_cw_60⟩⟩, ⟨_, zk_cw_61⟩⟩, ⟨_, zk_cw_62⟩⟩, ⟨_, zk_cw_63⟩⟩, ⟨_, zk_cw_64⟩⟩, ⟨_, zk_cw_65⟩⟩, ⟨_, zk_cw_66⟩⟩, ⟨_, zk_cw_67⟩⟩, ⟨_, zk_cw_68⟩⟩, ⟨_, zk_cw_69⟩⟩, ⟨_, zk_cw_70⟩⟩, ⟨_, zk_cw_71⟩⟩, ⟨_, zk_cw_72⟩⟩, ⟨_, zk_cw_73⟩⟩, ⟨_, zk_cw_74⟩⟩, ⟨_, zk_cw_75⟩⟩, ⟨_, zk_cw_76⟩⟩, ⟨_, zk_cw_77⟩⟩, ⟨_, zk_cw_78⟩⟩, ⟨_, zk_cw_79⟩⟩, ⟨_, zk_cw_80⟩⟩, ⟨_, zk_cw_81⟩⟩, ⟨_, zk_cw_82⟩⟩, ⟨_, zk_cw_83⟩⟩, ⟨_, zk_cw_84⟩⟩, ⟨_, zk_cw_85⟩⟩, ⟨_, zk_cw_86⟩⟩, ⟨_, zk_cw_87⟩⟩, ⟨_, zk_cw_88⟩⟩, ⟨_, zk_cw_89⟩⟩, ⟨_, zk_cw_90⟩⟩, ⟨_, zk_cw_91⟩⟩, ⟨_, zk_cw_92⟩⟩, ⟨_, zk_cw_93⟩⟩, ⟨_, zk_cw_94⟩⟩, ⟨_, zk_cw_95⟩⟩, ⟨_, zk_cw_96⟩⟩, ⟨_, zk_cw_97⟩⟩, ⟨_, zk_cw_98⟩⟩, ⟨_, zk_cw_99⟩⟩, ⟨_, zk_cw_100⟩⟩, ⟨_, zk_cw_101⟩⟩, ⟨_, zk_cw_102⟩⟩, ⟨_, zk_cw_103⟩⟩, ⟨_, zk_cw_104⟩⟩, ⟨_, zk_cw_105⟩⟩, ⟨_, zk_cw_106⟩⟩, ⟨_, zk_cw_107⟩⟩, ⟨_, zk_cw_108⟩⟩, ⟨_, zk_cw_109⟩⟩, ⟨_, zk_cw_110⟩⟩, ⟨_, zk_cw_111⟩⟩, ⟨_, zk_cw_112⟩⟩, ⟨_, zk_cw_113⟩⟩, ⟨_, zk_cw_114⟩⟩, ⟨_, zk_cw_115⟩⟩, ⟨_, zk_cw_116⟩⟩, ⟨_, zk_cw_117⟩⟩, ⟨_, zk_cw_118⟩⟩, ⟨_, zk_cw_119⟩⟩, ⟨_, zk_cw_120⟩⟩, ⟨_, zk_cw_121⟩⟩, ⟨_, zk_cw_122⟩⟩, ⟨_, zk_cw_123⟩⟩, ⟨_, zk_cw_124⟩⟩, ⟨_, zk_cw_125⟩⟩, ⟨_, zk_cw_126⟩⟩, ⟨_, zk_cw_127⟩⟩, ⟨_, zk_cw_128⟩⟩, ⟨_, zk_cw_129⟩⟩, ⟨_, zk_cw_130⟩⟩, ⟨_, zk_cw_131⟩⟩, ⟨_, zk_cw_132⟩⟩, ⟨_, zk_cw_133⟩⟩, ⟨_, zk_cw_134⟩⟩, ⟨_, zk_cw_135⟩⟩, ⟨_, zk_cw_136⟩⟩, ⟨_, zk_cw_137⟩⟩, ⟨_, zk_cw_138⟩⟩, ⟨_, zk_cw_139⟩⟩, ⟨_, zk_cw_140⟩⟩, ⟨_, zk_cw_141⟩⟩, ⟨_, zk_cw_142⟩⟩, ⟨_, zk_cw_143⟩⟩, ⟨_, zk_cw_144⟩⟩, ⟨_, zk_cw_145⟩⟩, ⟨_, zk_cw_146⟩⟩, ⟨_, zk_cw_147⟩⟩, ⟨_, zk_cw_148⟩⟩, ⟨_, zk_cw_149⟩⟩, ⟨_, zk_cw_150⟩⟩, ⟨_, zk_cw_151⟩⟩, ⟨_, zk_cw_152⟩⟩, ⟨_, zk_cw_153⟩⟩, ⟨_, zk_cw_154⟩⟩, ⟨_, zk_cw_155⟩⟩, ⟨_, zk_cw_156⟩⟩, ⟨_, zk_cw_157⟩⟩, ⟨_, zk_cw_158⟩⟩, ⟨_, zk_cw_159⟩⟩, ⟨_, zk_cw_160⟩⟩, ⟨_, zk_cw_161⟩⟩
theorem zk_cw_good (M : Nat) : zk_good (zk_cw M) = true := by
  unfold zk_cw
  split <;> rfl
theorem zk_cw_ok : ((List.range 162).all fun M => match zk_nth zk_cwP M with
  | some p => zk_chk p.2 (.initialized (zk_own M)) && decide (zk_own M ≠ "java/lang/invoke/MethodHandle") && decide (zk_own M ≠ "java/lang/invoke/VarHandle") && decide (zk_mxl M ≤ 14)
  | none => false) = true := by decide +kernel
theorem zk_pf_ok : ((List.range 162).all fun M => plainFor (zk_yn M)) = true := by decide +kernel
theorem zk_f_cw {M : Nat} (h : M < 162) : zk_cw M ∈ zkT ∧ Cond.initialized (zk_own M) ∈ zkT ∧ plainFor (zk_yn M) = true ∧ zk_own M ≠ "java/lang/invoke/MethodHandle" ∧ zk_own M ≠ "java/lang/invoke/VarHandle" ∧ zk_mxl M ≤ 14 := by
  obtain ⟨p, hp⟩ := zk_AllP_at zk_cw_all M h
  have h1 := List.all_eq_true.mp zk_cw_ok M (List.mem_range.mpr h)
  have h2 := List.all_eq_true.mp zk_pf_ok M (List.mem_range.mpr h)
  split at h1
  · simp only [Bool.and_eq_true, decide_eq_true_eq] at h1
    obtain ⟨⟨⟨a2, a4⟩, a5⟩, a6⟩ := h1
    exact ⟨List.mem_filter.mpr ⟨zk_nth_mem hp, zk_cw_good M⟩, zk_chk_mem a2, h2, a4, a5, a6⟩
  · cases h1
/-- exceptions: their classes' links -/
theorem zk_xcL_ok : zk_each zk_xcL (fun o k q => zk_chk q.2 (.classLink o k (zk_xn q.1)) && decide (k ≠ 0) && decide (q.1 < 2)) = true := by decide +kernel
theorem zk_f_xc {M k x : Nat} (h : zk_xc M k = some x) : k ≠ 0 ∧ Cond.classLink (zk_own M) k (zk_xn x) ∈ zkT ∧ x < 2 := by
  unfold zk_xc at h
  split at h
  · rename_i q hq
    cases h
    have h1 := zk_lk2_ok (by rfl) zk_xcL_ok hq
    simp only [Bool.and_eq_true, decide_eq_true_eq] at h1
    exact ⟨h1.1.2, zk_chk_mem h1.1.1, h1.2⟩
  · cases h
theorem zk_f_xk {M k x : Nat} (h : zk_xk M k = some x) : k ≠ 0 ∧ Cond.classLink (zk_own M) k (zk_xn x) ∈ zkT := ⟨(zk_f_xc h).1, (zk_f_xc h).2.1⟩
end
section
/-! the code lists are the decoded code -/
def zk_qok (b : ByteArray) (q : Nat × Instr × Nat × Nat) : Bool := decide (decode b q.1 = .ok (q.2.1, zk_il q.2.1 q.1 q.2.2.1)) && decide (q.2.2.1 = q.1 + zk_il q.2.1 q.1 q.2.2.1) && zk_tgb q.2.1 q.1 q.2.2.2
theorem zk_d_0_0 : zl_0_0.all (zk_qok prog_1_method_1_code) = true := by decide +kernel
theorem zk_d_0 : ∀ c ∈ zl_0, c.2.all (zk_qok prog_1_method_1_code) = true := List.forall_mem_cons.mpr ⟨zk_d_0_0, fun _ h => absurd h List.not_mem_nil⟩
theorem zk_d_1_0 : zl_1_0.all (zk_qok prog_5_method_1_code) = true := by decide +kernel
theorem zk_d_1 : ∀ c ∈ zl_1, c.2.all (zk_qok prog_5_method_1_code) = true := List.forall_mem_cons.mpr ⟨zk_d_1_0, fun _ h => absurd h List.not_mem_nil⟩
theorem zk_d_2_0 : zl_2_0.all (zk_qok prog_3_method_1_code) = true := by decide +kernel
theorem zk_d_2 : ∀ c ∈ zl_2, c.2.all (zk_qok prog_3_method_1_code) = true := List.forall_mem_cons.mpr ⟨zk_d_2_0, fun _ h => absurd h List.not_mem_nil⟩
theorem zk_d_3_0 : zl_3_0.all (zk_qok prog_3_method_12_code) = true := by decide +kernel
theorem zk_d_3 : ∀ c ∈ zl_3, c.2.all (zk_qok prog_3_method_12_code) = true := List.forall_mem_cons.mpr ⟨zk_d_3_0, fun _ h => absurd h List.not_mem_nil⟩
theorem zk_d_4_0 : zl_4_0.all (zk_qok prog_3_method_5_code) = true := by decide +kernel
theorem zk_d_4 : ∀ c ∈ zl_4, c.2.all (zk_qok prog_3_method_5_code) = true := List.forall_mem_cons.mpr ⟨zk_d_4_0, fun _ h => absurd h List.not_mem_nil⟩
theorem zk_d_5_0 : zl_5_0.all (zk_qok prog_2_method_1_code) = true := by decide +kernel
theorem zk_d_5 : ∀ c ∈ zl_5, c.2.all (zk_qok prog_2_method_1_code) = true := List.forall_mem_cons.mpr ⟨zk_d_5_0, fun _ h => absurd h List.not_mem_nil⟩
theorem zk_d_6_0 : zl_6_0.all (zk_qok prog_1_method_6_code) = true := by decide +kernel
theorem zk_d_6 : ∀ c ∈ zl_6, c.2.all (zk_qok prog_1_method_6_code) = true := List.forall_mem_cons.mpr ⟨zk_d_6_0, fun _ h => absurd h List.not_mem_nil⟩
theorem zk_d_7_0 : zl_7_0.all (zk_qok method_3_code) = true := by decide +kernel
theorem zk_d_7 : ∀ c ∈ zl_7, c.2.all (zk_qok method_3_code) = true := List.forall_mem_cons.mpr ⟨zk_d_7_0, fun _ h => absurd h List.not_mem_nil⟩
theorem zk_d_8_0 : zl_8_0.all (zk_qok prog_1_method_2_code) = true := by decide +kernel
theorem zk_d_8 : ∀ c ∈ zl_8, c.2.all (zk_qok prog_1_method_2_code) = true := List.forall_mem_cons.mpr ⟨zk_d_8_0, fun _ h => absurd h List.not_mem_nil⟩
theorem zk_d_9_0 : zl_9_0.all (zk_qok prog_1_method_22_code) = true := by decide +kernel
theorem zk_d_9 : ∀ c ∈ zl_9, c.2.all (zk_qok prog_1_method_22_code) = true := List.forall_mem_cons.mpr ⟨zk_d_9_0, fun _ h => absurd h List.not_mem_nil⟩
theorem zk_d_10_0 : zl_10_0.all (zk_qok prog_1_method_24_code) = true := by decide +kernel
theorem zk_d_10 : ∀ c ∈ zl_10, c.2.all (zk_qok prog_1_method_24_code) = true := List.forall_mem_cons.mpr ⟨zk_d_10_0, fun _ h => absurd h List.not_mem_nil⟩
theorem zk_d_11_0 : zl_11_0.all (zk_qok prog_1_method_23_code) = true := by decide +kernel
theorem zk_d_11 : ∀ c ∈ zl_11, c.2.all (zk_qok prog_1_method_23_code) = true := List.forall_mem_cons.mpr ⟨zk_d_11_0, fun _ h => absurd h List.not_mem_nil⟩
theorem zk_d_12_0 : zl_12_0.all (zk_qok prog_3_method_2_code) = true := by decide +kernel
theorem zk_d_12 : ∀ c ∈ zl_12, c.2.all (zk_qok prog_3_method_2_code) = true := List.forall_mem_cons.mpr ⟨zk_d_12_0, fun _ h => absurd h List.not_mem_nil⟩
theorem zk_d_13_0 : zl_13_0.all (zk_qok prog_5_method_2_code) = true := by decide +kernel
theorem zk_d_13_1 : zl_13_1.all (zk_qok prog_5_method_2_code) = true := by decide +kernel
theorem zk_d_13_2 : zl_13_2.all (zk_qok prog_5_method_2_code) = true := by decide +kernel
theorem zk_d_13_3 : zl_13_3.all (zk_qok prog_5_method_2_code) = true := by decide +kernel
theorem zk_d_13 : ∀ c ∈ zl_13, c.2.all (zk_qok prog_5_method_2_code) = true := List.forall_mem_cons.mpr ⟨zk_d_13_0, List.forall_mem_cons.mpr ⟨zk_d_13_1, List.forall_mem_cons.mpr ⟨zk_d_13_2, List.forall_mem_cons.mpr ⟨zk_d_13_3, fun _ h => absurd h List.not_mem_nil⟩⟩⟩⟩
theorem zk_d_14_0 : zl_14_0.all (zk_qok prog_3_method_7_code) = true := by decide +kernel
theorem zk_d_14_1 : zl_14_1.all (zk_qok prog_3_method_7_code) = true := by decide +kernel
theorem zk_d_14 : ∀ c ∈ zl_14, c.2.all (zk_qok prog_3_method_7_code) = true := List.forall_mem_cons.mpr ⟨zk_d_14_0, List.forall_mem_cons.mpr ⟨zk_d_14_1, fun _ h => absurd h List.not_mem_nil⟩⟩
theorem zk_d_15_0 : zl_15_0.all (zk_qok prog_3_method_8_code) = true := by decide +kernel
theorem zk_d_15 : ∀ c ∈ zl_15, c.2.all (zk_qok prog_3_method_8_code) = true := List.forall_mem_cons.mpr ⟨zk_d_15_0, fun _ h => absurd h List.not_mem_nil⟩
theorem zk_d_16_0 : zl_16_0.all (zk_qok prog_3_method_9_code) = true := by decide +kernel
theorem zk_d_16_1 : zl_16_1.all (zk_qok prog_3_method_9_code) = true := by decide +kernel
theorem zk_d_16_2 : zl_16_2.all (zk_qok prog_3_method_9_code) = true := by decide +kernel
theorem zk_d_16 : ∀ c ∈ zl_16, c.2.all (zk_qok prog_3_method_9_code) = true := List.forall_mem_cons.mpr ⟨zk_d_16_0, List.forall_mem_cons.mpr ⟨zk_d_16_1, List.forall_mem_cons.mpr ⟨zk_d_16_2, fun _ h => absurd h List.not_mem_nil⟩⟩⟩
theorem zk_d_17_0 : zl_17_0.all (zk_qok prog_3_method_10_code) = true := by decide +kernel
theorem zk_d_17 : ∀ c ∈ zl_17, c.2.all (zk_qok prog_3_method_10_code) = true := List.forall_mem_cons.mpr ⟨zk_d_17_0, fun _ h => absurd h List.not_mem_nil⟩
theorem zk_d_18_0 : zl_18_0.all (zk_qok prog_3_method_4_code) = true := by decide +kernel
theorem zk_d_18 : ∀ c ∈ zl_18, c.2.all (zk_qok prog_3_method_4_code) = true := List.forall_mem_cons.mpr ⟨zk_d_18_0, fun _ h => absurd h List.not_mem_nil⟩
theorem zk_d_19_0 : zl_19_0.all (zk_qok prog_3_method_11_code) = true := by decide +kernel
theorem zk_d_19_1 : zl_19_1.all (zk_qok prog_3_method_11_code) = true := by decide +kernel
theorem zk_d_19 : ∀ c ∈ zl_19, c.2.all (zk_qok prog_3_method_11_code) = true := List.forall_mem_cons.mpr ⟨zk_d_19_0, List.forall_mem_cons.mpr ⟨zk_d_19_1, fun _ h => absurd h List.not_mem_nil⟩⟩
theorem zk_d_20_0 : zl_20_0.all (zk_qok prog_3_method_13_code) = true := by decide +kernel
theorem zk_d_20_1 : zl_20_1.all (zk_qok prog_3_method_13_code) = true := by decide +kernel
theorem zk_d_20 : ∀ c ∈ zl_20, c.2.all (zk_qok prog_3_method_13_code) = true := List.forall_mem_cons.mpr ⟨zk_d_20_0, List.forall_mem_cons.mpr ⟨zk_d_20_1, fun _ h => absurd h List.not_mem_nil⟩⟩
theorem zk_d_21_0 : zl_21_0.all (zk_qok prog_14_method_69_code) = true := by decide +kernel
theorem zk_d_21 : ∀ c ∈ zl_21, c.2.all (zk_qok prog_14_method_69_code) = true := List.forall_mem_cons.mpr ⟨zk_d_21_0, fun _ h => absurd h List.not_mem_nil⟩
theorem zk_d_22_0 : zl_22_0.all (zk_qok prog_19_method_124_code) = true := by decide +kernel
theorem zk_d_22 : ∀ c ∈ zl_22, c.2.all (zk_qok prog_19_method_124_code) = true := List.forall_mem_cons.mpr ⟨zk_d_22_0, fun _ h => absurd h List.not_mem_nil⟩
theorem zk_d_23_0 : zl_23_0.all (zk_qok prog_3_method_3_code) = true := by decide +kernel
theorem zk_d_23 : ∀ c ∈ zl_23, c.2.all (zk_qok prog_3_method_3_code) = true := List.forall_mem_cons.mpr ⟨zk_d_23_0, fun _ h => absurd h List.not_mem_nil⟩
theorem zk_d_24_0 : zl_24_0.all (zk_qok prog_5_method_34_code) = true := by decide +kernel
theorem zk_d_24 : ∀ c ∈ zl_24, c.2.all (zk_qok prog_5_method_34_code) = true := List.forall_mem_cons.mpr ⟨zk_d_24_0, fun _ h => absurd h List.not_mem_nil⟩
theorem zk_d_25_0 : zl_25_0.all (zk_qok prog_4_method_5_code) = true := by decide +kernel
theorem zk_d_25_1 : zl_25_1.all (zk_qok prog_4_method_5_code) = true := by decide +kernel
theorem zk_d_25 : ∀ c ∈ zl_25, c.2.all (zk_qok prog_4_method_5_code) = true := List.forall_mem_cons.mpr ⟨zk_d_25_0, List.forall_mem_cons.mpr ⟨zk_d_25_1, fun _ h => absurd h List.not_mem_nil⟩⟩
theorem zk_d_26_0 : zl_26_0.all (zk_qok prog_13_method_48_code) = true := by decide +kernel
theorem zk_d_26 : ∀ c ∈ zl_26, c.2.all (zk_qok prog_13_method_48_code) = true := List.forall_mem_cons.mpr ⟨zk_d_26_0, fun _ h => absurd h List.not_mem_nil⟩
theorem zk_d_27_0 : zl_27_0.all (zk_qok prog_12_method_47_code) = true := by decide +kernel
theorem zk_d_27_1 : zl_27_1.all (zk_qok prog_12_method_47_code) = true := by decide +kernel
theorem zk_d_27 : ∀ c ∈ zl_27, c.2.all (zk_qok prog_12_method_47_code) = true := List.forall_mem_cons.mpr ⟨zk_d_27_0, List.forall_mem_cons.mpr ⟨zk_d_27_1, fun _ h => absurd h List.not_mem_nil⟩⟩
theorem zk_d_28_0 : zl_28_0.all (zk_qok prog_5_method_32_code) = true := by decide +kernel
theorem zk_d_28 : ∀ c ∈ zl_28, c.2.all (zk_qok prog_5_method_32_code) = true := List.forall_mem_cons.mpr ⟨zk_d_28_0, fun _ h => absurd h List.not_mem_nil⟩
theorem zk_d_29_0 : zl_29_0.all (zk_qok method_4_code) = true := by decide +kernel
theorem zk_d_29 : ∀ c ∈ zl_29, c.2.all (zk_qok method_4_code) = true := List.forall_mem_cons.mpr ⟨zk_d_29_0, fun _ h => absurd h List.not_mem_nil⟩
theorem zk_d_30_0 : zl_30_0.all (zk_qok prog_1_method_3_code) = true := by decide +kernel
theorem zk_d_30 : ∀ c ∈ zl_30, c.2.all (zk_qok prog_1_method_3_code) = true := List.forall_mem_cons.mpr ⟨zk_d_30_0, fun _ h => absurd h List.not_mem_nil⟩
theorem zk_d_31_0 : zl_31_0.all (zk_qok method_5_code) = true := by decide +kernel
theorem zk_d_31 : ∀ c ∈ zl_31, c.2.all (zk_qok method_5_code) = true := List.forall_mem_cons.mpr ⟨zk_d_31_0, fun _ h => absurd h List.not_mem_nil⟩
theorem zk_d_32_0 : zl_32_0.all (zk_qok prog_1_method_4_code) = true := by decide +kernel
theorem zk_d_32 : ∀ c ∈ zl_32, c.2.all (zk_qok prog_1_method_4_code) = true := List.forall_mem_cons.mpr ⟨zk_d_32_0, fun _ h => absurd h List.not_mem_nil⟩
theorem zk_d_33_0 : zl_33_0.all (zk_qok method_6_code) = true := by decide +kernel
theorem zk_d_33 : ∀ c ∈ zl_33, c.2.all (zk_qok method_6_code) = true := List.forall_mem_cons.mpr ⟨zk_d_33_0, fun _ h => absurd h List.not_mem_nil⟩
theorem zk_d_34_0 : zl_34_0.all (zk_qok prog_1_method_5_code) = true := by decide +kernel
theorem zk_d_34_1 : zl_34_1.all (zk_qok prog_1_method_5_code) = true := by decide +kernel
theorem zk_d_34 : ∀ c ∈ zl_34, c.2.all (zk_qok prog_1_method_5_code) = true := List.forall_mem_cons.mpr ⟨zk_d_34_0, List.forall_mem_cons.mpr ⟨zk_d_34_1, fun _ h => absurd h List.not_mem_nil⟩⟩
theorem zk_d_35_0 : zl_35_0.all (zk_qok prog_4_method_2_code) = true := by decide +kernel
theorem zk_d_35 : ∀ c ∈ zl_35, c.2.all (zk_qok prog_4_method_2_code) = true := List.forall_mem_cons.mpr ⟨zk_d_35_0, fun _ h => absurd h List.not_mem_nil⟩
theorem zk_d_36_0 : zl_36_0.all (zk_qok method_7_code) = true := by decide +kernel
theorem zk_d_36 : ∀ c ∈ zl_36, c.2.all (zk_qok method_7_code) = true := List.forall_mem_cons.mpr ⟨zk_d_36_0, fun _ h => absurd h List.not_mem_nil⟩
theorem zk_d_37_0 : zl_37_0.all (zk_qok prog_1_method_7_code) = true := by decide +kernel
theorem zk_d_37 : ∀ c ∈ zl_37, c.2.all (zk_qok prog_1_method_7_code) = true := List.forall_mem_cons.mpr ⟨zk_d_37_0, fun _ h => absurd h List.not_mem_nil⟩
theorem zk_d_38_0 : zl_38_0.all (zk_qok method_8_code) = true := by decide +kernel
theorem zk_d_38 : ∀ c ∈ zl_38, c.2.all (zk_qok method_8_code) = true := List.forall_mem_cons.mpr ⟨zk_d_38_0, fun _ h => absurd h List.not_mem_nil⟩
theorem zk_d_39_0 : zl_39_0.all (zk_qok prog_1_method_8_code) = true := by decide +kernel
theorem zk_d_39 : ∀ c ∈ zl_39, c.2.all (zk_qok prog_1_method_8_code) = true := List.forall_mem_cons.mpr ⟨zk_d_39_0, fun _ h => absurd h List.not_mem_nil⟩
theorem zk_d_40_0 : zl_40_0.all (zk_qok method_9_code) = true := by decide +kernel
theorem zk_d_40 : ∀ c ∈ zl_40, c.2.all (zk_qok method_9_code) = true := List.forall_mem_cons.mpr ⟨zk_d_40_0, fun _ h => absurd h List.not_mem_nil⟩
theorem zk_d_41_0 : zl_41_0.all (zk_qok prog_1_method_9_code) = true := by decide +kernel
theorem zk_d_41_1 : zl_41_1.all (zk_qok prog_1_method_9_code) = true := by decide +kernel
theorem zk_d_41 : ∀ c ∈ zl_41, c.2.all (zk_qok prog_1_method_9_code) = true := List.forall_mem_cons.mpr ⟨zk_d_41_0, List.forall_mem_cons.mpr ⟨zk_d_41_1, fun _ h => absurd h List.not_mem_nil⟩⟩
theorem zk_d_42_0 : zl_42_0.all (zk_qok prog_1_method_25_code) = true := by decide +kernel
theorem zk_d_42 : ∀ c ∈ zl_42, c.2.all (zk_qok prog_1_method_25_code) = true := List.forall_mem_cons.mpr ⟨zk_d_42_0, fun _ h => absurd h List.not_mem_nil⟩
theorem zk_d_43_0 : zl_43_0.all (zk_qok prog_5_method_16_code) = true := by decide +kernel
theorem zk_d_43_1 : zl_43_1.all (zk_qok prog_5_method_16_code) = true := by decide +kernel
theorem zk_d_43 : ∀ c ∈ zl_43, c.2.all (zk_qok prog_5_method_16_code) = true := List.forall_mem_cons.mpr ⟨zk_d_43_0, List.forall_mem_cons.mpr ⟨zk_d_43_1, fun _ h => absurd h List.not_mem_nil⟩⟩
theorem zk_d_44_0 : zl_44_0.all (zk_qok prog_5_method_15_code) = true := by decide +kernel
theorem zk_d_44_1 : zl_44_1.all (zk_qok prog_5_method_15_code) = true := by decide +kernel
theorem zk_d_44 : ∀ c ∈ zl_44, c.2.all (zk_qok prog_5_method_15_code) = true := List.forall_mem_cons.mpr ⟨zk_d_44_0, List.forall_mem_cons.mpr ⟨zk_d_44_1, fun _ h => absurd h List.not_mem_nil⟩⟩
theorem zk_d_45_0 : zl_45_0.all (zk_qok prog_5_method_5_code) = true := by decide +kernel
theorem zk_d_45 : ∀ c ∈ zl_45, c.2.all (zk_qok prog_5_method_5_code) = true := List.forall_mem_cons.mpr ⟨zk_d_45_0, fun _ h => absurd h List.not_mem_nil⟩
theorem zk_d_46_0 : zl_46_0.all (zk_qok prog_5_method_7_code) = true := by decide +kernel
theorem zk_d_46 : ∀ c ∈ zl_46, c.2.all (zk_qok prog_5_method_7_code) = true := List.forall_mem_cons.mpr ⟨zk_d_46_0, fun _ h => absurd h List.not_mem_nil⟩
theorem zk_d_47_0 : zl_47_0.all (zk_qok prog_5_method_6_code) = true := by decide +kernel
theorem zk_d_47 : ∀ c ∈ zl_47, c.2.all (zk_qok prog_5_method_6_code) = true := List.forall_mem_cons.mpr ⟨zk_d_47_0, fun _ h => absurd h List.not_mem_nil⟩
theorem zk_d_48_0 : zl_48_0.all (zk_qok prog_5_method_3_code) = true := by decide +kernel
theorem zk_d_48 : ∀ c ∈ zl_48, c.2.all (zk_qok prog_5_method_3_code) = true := List.forall_mem_cons.mpr ⟨zk_d_48_0, fun _ h => absurd h List.not_mem_nil⟩
theorem zk_d_49_0 : zl_49_0.all (zk_qok prog_1_method_28_code) = true := by decide +kernel
theorem zk_d_49 : ∀ c ∈ zl_49, c.2.all (zk_qok prog_1_method_28_code) = true := List.forall_mem_cons.mpr ⟨zk_d_49_0, fun _ h => absurd h List.not_mem_nil⟩
theorem zk_d_50_0 : zl_50_0.all (zk_qok prog_5_method_11_code) = true := by decide +kernel
theorem zk_d_50 : ∀ c ∈ zl_50, c.2.all (zk_qok prog_5_method_11_code) = true := List.forall_mem_cons.mpr ⟨zk_d_50_0, fun _ h => absurd h List.not_mem_nil⟩
theorem zk_d_51_0 : zl_51_0.all (zk_qok prog_5_method_12_code) = true := by decide +kernel
theorem zk_d_51 : ∀ c ∈ zl_51, c.2.all (zk_qok prog_5_method_12_code) = true := List.forall_mem_cons.mpr ⟨zk_d_51_0, fun _ h => absurd h List.not_mem_nil⟩
theorem zk_d_52_0 : zl_52_0.all (zk_qok prog_5_method_13_code) = true := by decide +kernel
theorem zk_d_52 : ∀ c ∈ zl_52, c.2.all (zk_qok prog_5_method_13_code) = true := List.forall_mem_cons.mpr ⟨zk_d_52_0, fun _ h => absurd h List.not_mem_nil⟩
theorem zk_d_53_0 : zl_53_0.all (zk_qok prog_5_method_10_code) = true := by decide +kernel
theorem zk_d_53 : ∀ c ∈ zl_53, c.2.all (zk_qok prog_5_method_10_code) = true := List.forall_mem_cons.mpr ⟨zk_d_53_0, fun _ h => absurd h List.not_mem_nil⟩
theorem zk_d_54_0 : zl_54_0.all (zk_qok method_10_code) = true := by decide +kernel
theorem zk_d_54 : ∀ c ∈ zl_54, c.2.all (zk_qok method_10_code) = true := List.forall_mem_cons.mpr ⟨zk_d_54_0, fun _ h => absurd h List.not_mem_nil⟩
theorem zk_d_55_0 : zl_55_0.all (zk_qok prog_1_method_10_code) = true := by decide +kernel
theorem zk_d_55_1 : zl_55_1.all (zk_qok prog_1_method_10_code) = true := by decide +kernel
theorem zk_d_55_2 : zl_55_2.all (zk_qok prog_1_method_10_code) = true := by decide +kernel
theorem zk_d_55_3 : zl_55_3.all (zk_qok prog_1_method_10_code) = true := by decide +kernel
theorem zk_d_55 : ∀ c ∈ zl_55, c.2.all (zk_qok prog_1_method_10_code) = true := List.forall_mem_cons.mpr ⟨zk_d_55_0, List.forall_mem_cons.mpr ⟨zk_d_55_1, List.forall_mem_cons.mpr ⟨zk_d_55_2, List.forall_mem_cons.mpr ⟨zk_d_55_3, fun _ h => absurd h List.not_mem_nil⟩⟩⟩⟩
theorem zk_d_56_0 : zl_56_0.all (zk_qok prog_5_method_14_code) = true := by decide +kernel
theorem zk_d_56 : ∀ c ∈ zl_56, c.2.all (zk_qok prog_5_method_14_code) = true := List.forall_mem_cons.mpr ⟨zk_d_56_0, fun _ h => absurd h List.not_mem_nil⟩
theorem zk_d_57_0 : zl_57_0.all (zk_qok prog_1_method_29_code) = true := by decide +kernel
theorem zk_d_57 : ∀ c ∈ zl_57, c.2.all (zk_qok prog_1_method_29_code) = true := List.forall_mem_cons.mpr ⟨zk_d_57_0, fun _ h => absurd h List.not_mem_nil⟩
theorem zk_d_58_0 : zl_58_0.all (zk_qok prog_5_method_9_code) = true := by decide +kernel
theorem zk_d_58 : ∀ c ∈ zl_58, c.2.all (zk_qok prog_5_method_9_code) = true := List.forall_mem_cons.mpr ⟨zk_d_58_0, fun _ h => absurd h List.not_mem_nil⟩
theorem zk_d_59_0 : zl_59_0.all (zk_qok prog_5_method_4_code) = true := by decide +kernel
theorem zk_d_59 : ∀ c ∈ zl_59, c.2.all (zk_qok prog_5_method_4_code) = true := List.forall_mem_cons.mpr ⟨zk_d_59_0, fun _ h => absurd h List.not_mem_nil⟩
theorem zk_d_60_0 : zl_60_0.all (zk_qok prog_2_method_2_code) = true := by decide +kernel
theorem zk_d_60 : ∀ c ∈ zl_60, c.2.all (zk_qok prog_2_method_2_code) = true := List.forall_mem_cons.mpr ⟨zk_d_60_0, fun _ h => absurd h List.not_mem_nil⟩
theorem zk_d_61_0 : zl_61_0.all (zk_qok prog_2_method_3_code) = true := by decide +kernel
theorem zk_d_61 : ∀ c ∈ zl_61, c.2.all (zk_qok prog_2_method_3_code) = true := List.forall_mem_cons.mpr ⟨zk_d_61_0, fun _ h => absurd h List.not_mem_nil⟩
theorem zk_d_62_0 : zl_62_0.all (zk_qok prog_5_method_23_code) = true := by decide +kernel
theorem zk_d_62_1 : zl_62_1.all (zk_qok prog_5_method_23_code) = true := by decide +kernel
theorem zk_d_62_2 : zl_62_2.all (zk_qok prog_5_method_23_code) = true := by decide +kernel
theorem zk_d_62 : ∀ c ∈ zl_62, c.2.all (zk_qok prog_5_method_23_code) = true := List.forall_mem_cons.mpr ⟨zk_d_62_0, List.forall_mem_cons.mpr ⟨zk_d_62_1, List.forall_mem_cons.mpr ⟨zk_d_62_2, fun _ h => absurd h List.not_mem_nil⟩⟩⟩
theorem zk_d_63_0 : zl_63_0.all (zk_qok prog_5_method_24_code) = true := by decide +kernel
theorem zk_d_63 : ∀ c ∈ zl_63, c.2.all (zk_qok prog_5_method_24_code) = true := List.forall_mem_cons.mpr ⟨zk_d_63_0, fun _ h => absurd h List.not_mem_nil⟩
theorem zk_d_64_0 : zl_64_0.all (zk_qok prog_5_method_27_code) = true := by decide +kernel
theorem zk_d_64 : ∀ c ∈ zl_64, c.2.all (zk_qok prog_5_method_27_code) = true := List.forall_mem_cons.mpr ⟨zk_d_64_0, fun _ h => absurd h List.not_mem_nil⟩
theorem zk_d_65_0 : zl_65_0.all (zk_qok prog_5_method_28_code) = true := by decide +kernel
theorem zk_d_65_1 : zl_65_1.all (zk_qok prog_5_method_28_code) = true := by decide +kernel
theorem zk_d_65_2 : zl_65_2.all (zk_qok prog_5_method_28_code) = true := by decide +kernel
theorem zk_d_65_3 : zl_65_3.all (zk_qok prog_5_method_28_code) = true := by decide +kernel
theorem zk_d_65 : ∀ c ∈ zl_65, c.2.all (zk_qok prog_5_method_28_code) = true := List.forall_mem_cons.mpr ⟨zk_d_65_0, List.forall_mem_cons.mpr ⟨zk_d_65_1, List.forall_mem_cons.mpr ⟨zk_d_65_2, List.forall_mem_cons.mpr ⟨zk_d_65_3, fun _ h => absurd h List.not_mem_nil⟩⟩⟩⟩
theorem zk_d_66_0 : zl_66_0.all (zk_qok prog_2_method_6_code) = true := by decide +kernel
theorem zk_d_66 : ∀ c ∈ zl_66, c.2.all (zk_qok prog_2_method_6_code) = true := List.forall_mem_cons.mpr ⟨zk_d_66_0, fun _ h => absurd h List.not_mem_nil⟩
theorem zk_d_67_0 : zl_67_0.all (zk_qok prog_2_method_5_code) = true := by decide +kernel
theorem zk_d_67 : ∀ c ∈ zl_67, c.2.all (zk_qok prog_2_method_5_code) = true := List.forall_mem_cons.mpr ⟨zk_d_67_0, fun _ h => absurd h List.not_mem_nil⟩
theorem zk_d_68_0 : zl_68_0.all (zk_qok prog_5_method_29_code) = true := by decide +kernel
theorem zk_d_68 : ∀ c ∈ zl_68, c.2.all (zk_qok prog_5_method_29_code) = true := List.forall_mem_cons.mpr ⟨zk_d_68_0, fun _ h => absurd h List.not_mem_nil⟩
theorem zk_d_69_0 : zl_69_0.all (zk_qok prog_5_method_30_code) = true := by decide +kernel
theorem zk_d_69_1 : zl_69_1.all (zk_qok prog_5_method_30_code) = true := by decide +kernel
theorem zk_d_69_2 : zl_69_2.all (zk_qok prog_5_method_30_code) = true := by decide +kernel
theorem zk_d_69_3 : zl_69_3.all (zk_qok prog_5_method_30_code) = true := by decide +kernel
theorem zk_d_69 : ∀ c ∈ zl_69, c.2.all (zk_qok prog_5_method_30_code) = true := List.forall_mem_cons.mpr ⟨zk_d_69_0, List.forall_mem_cons.mpr ⟨zk_d_69_1, List.forall_mem_cons.mpr ⟨zk_d_69_2, List.forall_mem_cons.mpr ⟨zk_d_69_3, fun _ h => absurd h List.not_mem_nil⟩⟩⟩⟩
theorem zk_d_70_0 : zl_70_0.all (zk_qok prog_5_method_31_code) = true := by decide +kernel
theorem zk_d_70_1 : zl_70_1.all (zk_qok prog_5_method_31_code) = true := by decide +kernel
theorem zk_d_70 : ∀ c ∈ zl_70, c.2.all (zk_qok prog_5_method_31_code) = true := List.forall_mem_cons.mpr ⟨zk_d_70_0, List.forall_mem_cons.mpr ⟨zk_d_70_1, fun _ h => absurd h List.not_mem_nil⟩⟩
theorem zk_d_71_0 : zl_71_0.all (zk_qok prog_5_method_8_code) = true := by decide +kernel
theorem zk_d_71 : ∀ c ∈ zl_71, c.2.all (zk_qok prog_5_method_8_code) = true := List.forall_mem_cons.mpr ⟨zk_d_71_0, fun _ h => absurd h List.not_mem_nil⟩
theorem zk_d_72_0 : zl_72_0.all (zk_qok prog_5_method_25_code) = true := by decide +kernel
theorem zk_d_72_1 : zl_72_1.all (zk_qok prog_5_method_25_code) = true := by decide +kernel
theorem zk_d_72_2 : zl_72_2.all (zk_qok prog_5_method_25_code) = true := by decide +kernel
theorem zk_d_72 : ∀ c ∈ zl_72, c.2.all (zk_qok prog_5_method_25_code) = true := List.forall_mem_cons.mpr ⟨zk_d_72_0, List.forall_mem_cons.mpr ⟨zk_d_72_1, List.forall_mem_cons.mpr ⟨zk_d_72_2, fun _ h => absurd h List.not_mem_nil⟩⟩⟩
theorem zk_d_73_0 : zl_73_0.all (zk_qok prog_5_method_26_code) = true := by decide +kernel
theorem zk_d_73 : ∀ c ∈ zl_73, c.2.all (zk_qok prog_5_method_26_code) = true := List.forall_mem_cons.mpr ⟨zk_d_73_0, fun _ h => absurd h List.not_mem_nil⟩
theorem zk_d_74_0 : zl_74_0.all (zk_qok prog_5_method_22_code) = true := by decide +kernel
theorem zk_d_74 : ∀ c ∈ zl_74, c.2.all (zk_qok prog_5_method_22_code) = true := List.forall_mem_cons.mpr ⟨zk_d_74_0, fun _ h => absurd h List.not_mem_nil⟩
theorem zk_d_75_0 : zl_75_0.all (zk_qok prog_5_method_35_code) = true := by decide +kernel
theorem zk_d_75_1 : zl_75_1.all (zk_qok prog_5_method_35_code) = true := by decide +kernel
theorem zk_d_75_2 : zl_75_2.all (zk_qok prog_5_method_35_code) = true := by decide +kernel
theorem zk_d_75_3 : zl_75_3.all (zk_qok prog_5_method_35_code) = true := by decide +kernel
theorem zk_d_75 : ∀ c ∈ zl_75, c.2.all (zk_qok prog_5_method_35_code) = true := List.forall_mem_cons.mpr ⟨zk_d_75_0, List.forall_mem_cons.mpr ⟨zk_d_75_1, List.forall_mem_cons.mpr ⟨zk_d_75_2, List.forall_mem_cons.mpr ⟨zk_d_75_3, fun _ h => absurd h List.not_mem_nil⟩⟩⟩⟩
theorem zk_d_76_0 : zl_76_0.all (zk_qok prog_4_method_3_code) = true := by decide +kernel
theorem zk_d_76 : ∀ c ∈ zl_76, c.2.all (zk_qok prog_4_method_3_code) = true := List.forall_mem_cons.mpr ⟨zk_d_76_0, fun _ h => absurd h List.not_mem_nil⟩
theorem zk_d_77_0 : zl_77_0.all (zk_qok prog_4_method_4_code) = true := by decide +kernel
theorem zk_d_77_1 : zl_77_1.all (zk_qok prog_4_method_4_code) = true := by decide +kernel
theorem zk_d_77 : ∀ c ∈ zl_77, c.2.all (zk_qok prog_4_method_4_code) = true := List.forall_mem_cons.mpr ⟨zk_d_77_0, List.forall_mem_cons.mpr ⟨zk_d_77_1, fun _ h => absurd h List.not_mem_nil⟩⟩
theorem zk_d_78_0 : zl_78_0.all (zk_qok prog_5_method_33_code) = true := by decide +kernel
theorem zk_d_78 : ∀ c ∈ zl_78, c.2.all (zk_qok prog_5_method_33_code) = true := List.forall_mem_cons.mpr ⟨zk_d_78_0, fun _ h => absurd h List.not_mem_nil⟩
theorem zk_d_79_0 : zl_79_0.all (zk_qok prog_2_method_7_code) = true := by decide +kernel
theorem zk_d_79 : ∀ c ∈ zl_79, c.2.all (zk_qok prog_2_method_7_code) = true := List.forall_mem_cons.mpr ⟨zk_d_79_0, fun _ h => absurd h List.not_mem_nil⟩
theorem zk_d_80_0 : zl_80_0.all (zk_qok prog_5_method_36_code) = true := by decide +kernel
theorem zk_d_80_1 : zl_80_1.all (zk_qok prog_5_method_36_code) = true := by decide +kernel
theorem zk_d_80_2 : zl_80_2.all (zk_qok prog_5_method_36_code) = true := by decide +kernel
theorem zk_d_80 : ∀ c ∈ zl_80, c.2.all (zk_qok prog_5_method_36_code) = true := List.forall_mem_cons.mpr ⟨zk_d_80_0, List.forall_mem_cons.mpr ⟨zk_d_80_1, List.forall_mem_cons.mpr ⟨zk_d_80_2, fun _ h => absurd h List.not_mem_nil⟩⟩⟩
theorem zk_d_81_0 : zl_81_0.all (zk_qok prog_14_method_66_code) = true := by decide +kernel
theorem zk_d_81 : ∀ c ∈ zl_81, c.2.all (zk_qok prog_14_method_66_code) = true := List.forall_mem_cons.mpr ⟨zk_d_81_0, fun _ h => absurd h List.not_mem_nil⟩
theorem zk_d_82_0 : zl_82_0.all (zk_qok method_11_code) = true := by decide +kernel
theorem zk_d_82 : ∀ c ∈ zl_82, c.2.all (zk_qok method_11_code) = true := List.forall_mem_cons.mpr ⟨zk_d_82_0, fun _ h => absurd h List.not_mem_nil⟩
theorem zk_d_83_0 : zl_83_0.all (zk_qok prog_1_method_11_code) = true := by decide +kernel
theorem zk_d_83_1 : zl_83_1.all (zk_qok prog_1_method_11_code) = true := by decide +kernel
theorem zk_d_83_2 : zl_83_2.all (zk_qok prog_1_method_11_code) = true := by decide +kernel
theorem zk_d_83_3 : zl_83_3.all (zk_qok prog_1_method_11_code) = true := by decide +kernel
theorem zk_d_83 : ∀ c ∈ zl_83, c.2.all (zk_qok prog_1_method_11_code) = true := List.forall_mem_cons.mpr ⟨zk_d_83_0, List.forall_mem_cons.mpr ⟨zk_d_83_1, List.forall_mem_cons.mpr ⟨zk_d_83_2, List.forall_mem_cons.mpr ⟨zk_d_83_3, fun _ h => absurd h List.not_mem_nil⟩⟩⟩⟩
theorem zk_d_84_0 : zl_84_0.all (zk_qok prog_2_method_4_code) = true := by decide +kernel
theorem zk_d_84 : ∀ c ∈ zl_84, c.2.all (zk_qok prog_2_method_4_code) = true := List.forall_mem_cons.mpr ⟨zk_d_84_0, fun _ h => absurd h List.not_mem_nil⟩
theorem zk_d_85_0 : zl_85_0.all (zk_qok method_12_code) = true := by decide +kernel
theorem zk_d_85 : ∀ c ∈ zl_85, c.2.all (zk_qok method_12_code) = true := List.forall_mem_cons.mpr ⟨zk_d_85_0, fun _ h => absurd h List.not_mem_nil⟩
theorem zk_d_86_0 : zl_86_0.all (zk_qok prog_1_method_12_code) = true := by decide +kernel
theorem zk_d_86 : ∀ c ∈ zl_86, c.2.all (zk_qok prog_1_method_12_code) = true := List.forall_mem_cons.mpr ⟨zk_d_86_0, fun _ h => absurd h List.not_mem_nil⟩
theorem zk_d_87_0 : zl_87_0.all (zk_qok method_13_code) = true := by decide +kernel
theorem zk_d_87 : ∀ c ∈ zl_87, c.2.all (zk_qok method_13_code) = true := List.forall_mem_cons.mpr ⟨zk_d_87_0, fun _ h => absurd h List.not_mem_nil⟩
theorem zk_d_88_0 : zl_88_0.all (zk_qok prog_1_method_13_code) = true := by decide +kernel
theorem zk_d_88_1 : zl_88_1.all (zk_qok prog_1_method_13_code) = true := by decide +kernel
theorem zk_d_88 : ∀ c ∈ zl_88, c.2.all (zk_qok prog_1_method_13_code) = true := List.forall_mem_cons.mpr ⟨zk_d_88_0, List.forall_mem_cons.mpr ⟨zk_d_88_1, fun _ h => absurd h List.not_mem_nil⟩⟩
theorem zk_d_89_0 : zl_89_0.all (zk_qok method_14_code) = true := by decide +kernel
theorem zk_d_89 : ∀ c ∈ zl_89, c.2.all (zk_qok method_14_code) = true := List.forall_mem_cons.mpr ⟨zk_d_89_0, fun _ h => absurd h List.not_mem_nil⟩
theorem zk_d_90_0 : zl_90_0.all (zk_qok prog_1_method_14_code) = true := by decide +kernel
theorem zk_d_90 : ∀ c ∈ zl_90, c.2.all (zk_qok prog_1_method_14_code) = true := List.forall_mem_cons.mpr ⟨zk_d_90_0, fun _ h => absurd h List.not_mem_nil⟩
theorem zk_d_91_0 : zl_91_0.all (zk_qok method_15_code) = true := by decide +kernel
theorem zk_d_91 : ∀ c ∈ zl_91, c.2.all (zk_qok method_15_code) = true := List.forall_mem_cons.mpr ⟨zk_d_91_0, fun _ h => absurd h List.not_mem_nil⟩
theorem zk_d_92_0 : zl_92_0.all (zk_qok prog_1_method_15_code) = true := by decide +kernel
theorem zk_d_92 : ∀ c ∈ zl_92, c.2.all (zk_qok prog_1_method_15_code) = true := List.forall_mem_cons.mpr ⟨zk_d_92_0, fun _ h => absurd h List.not_mem_nil⟩
theorem zk_d_93_0 : zl_93_0.all (zk_qok prog_5_method_21_code) = true := by decide +kernel
theorem zk_d_93_1 : zl_93_1.all (zk_qok prog_5_method_21_code) = true := by decide +kernel
theorem zk_d_93 : ∀ c ∈ zl_93, c.2.all (zk_qok prog_5_method_21_code) = true := List.forall_mem_cons.mpr ⟨zk_d_93_0, List.forall_mem_cons.mpr ⟨zk_d_93_1, fun _ h => absurd h List.not_mem_nil⟩⟩
theorem zk_d_94_0 : zl_94_0.all (zk_qok method_16_code) = true := by decide +kernel
theorem zk_d_94 : ∀ c ∈ zl_94, c.2.all (zk_qok method_16_code) = true := List.forall_mem_cons.mpr ⟨zk_d_94_0, fun _ h => absurd h List.not_mem_nil⟩
theorem zk_d_95_0 : zl_95_0.all (zk_qok prog_1_method_16_code) = true := by decide +kernel
theorem zk_d_95 : ∀ c ∈ zl_95, c.2.all (zk_qok prog_1_method_16_code) = true := List.forall_mem_cons.mpr ⟨zk_d_95_0, fun _ h => absurd h List.not_mem_nil⟩
theorem zk_d_96_0 : zl_96_0.all (zk_qok prog_5_method_17_code) = true := by decide +kernel
theorem zk_d_96 : ∀ c ∈ zl_96, c.2.all (zk_qok prog_5_method_17_code) = true := List.forall_mem_cons.mpr ⟨zk_d_96_0, fun _ h => absurd h List.not_mem_nil⟩
theorem zk_d_97_0 : zl_97_0.all (zk_qok method_17_code) = true := by decide +kernel
theorem zk_d_97 : ∀ c ∈ zl_97, c.2.all (zk_qok method_17_code) = true := List.forall_mem_cons.mpr ⟨zk_d_97_0, fun _ h => absurd h List.not_mem_nil⟩
theorem zk_d_98_0 : zl_98_0.all (zk_qok prog_1_method_17_code) = true := by decide +kernel
theorem zk_d_98 : ∀ c ∈ zl_98, c.2.all (zk_qok prog_1_method_17_code) = true := List.forall_mem_cons.mpr ⟨zk_d_98_0, fun _ h => absurd h List.not_mem_nil⟩
theorem zk_d_99_0 : zl_99_0.all (zk_qok prog_5_method_18_code) = true := by decide +kernel
theorem zk_d_99_1 : zl_99_1.all (zk_qok prog_5_method_18_code) = true := by decide +kernel
theorem zk_d_99 : ∀ c ∈ zl_99, c.2.all (zk_qok prog_5_method_18_code) = true := List.forall_mem_cons.mpr ⟨zk_d_99_0, List.forall_mem_cons.mpr ⟨zk_d_99_1, fun _ h => absurd h List.not_mem_nil⟩⟩
theorem zk_d_100_0 : zl_100_0.all (zk_qok method_18_code) = true := by decide +kernel
theorem zk_d_100 : ∀ c ∈ zl_100, c.2.all (zk_qok method_18_code) = true := List.forall_mem_cons.mpr ⟨zk_d_100_0, fun _ h => absurd h List.not_mem_nil⟩
theorem zk_d_101_0 : zl_101_0.all (zk_qok prog_1_method_18_code) = true := by decide +kernel
theorem zk_d_101 : ∀ c ∈ zl_101, c.2.all (zk_qok prog_1_method_18_code) = true := List.forall_mem_cons.mpr ⟨zk_d_101_0, fun _ h => absurd h List.not_mem_nil⟩
theorem zk_d_102_0 : zl_102_0.all (zk_qok prog_1_method_26_code) = true := by decide +kernel
theorem zk_d_102 : ∀ c ∈ zl_102, c.2.all (zk_qok prog_1_method_26_code) = true := List.forall_mem_cons.mpr ⟨zk_d_102_0, fun _ h => absurd h List.not_mem_nil⟩
theorem zk_d_103_0 : zl_103_0.all (zk_qok prog_1_method_27_code) = true := by decide +kernel
theorem zk_d_103 : ∀ c ∈ zl_103, c.2.all (zk_qok prog_1_method_27_code) = true := List.forall_mem_cons.mpr ⟨zk_d_103_0, fun _ h => absurd h List.not_mem_nil⟩
theorem zk_d_104_0 : zl_104_0.all (zk_qok prog_5_method_19_code) = true := by decide +kernel
theorem zk_d_104_1 : zl_104_1.all (zk_qok prog_5_method_19_code) = true := by decide +kernel
theorem zk_d_104 : ∀ c ∈ zl_104, c.2.all (zk_qok prog_5_method_19_code) = true := List.forall_mem_cons.mpr ⟨zk_d_104_0, List.forall_mem_cons.mpr ⟨zk_d_104_1, fun _ h => absurd h List.not_mem_nil⟩⟩
theorem zk_d_105_0 : zl_105_0.all (zk_qok method_19_code) = true := by decide +kernel
theorem zk_d_105 : ∀ c ∈ zl_105, c.2.all (zk_qok method_19_code) = true := List.forall_mem_cons.mpr ⟨zk_d_105_0, fun _ h => absurd h List.not_mem_nil⟩
theorem zk_d_106_0 : zl_106_0.all (zk_qok prog_1_method_19_code) = true := by decide +kernel
theorem zk_d_106 : ∀ c ∈ zl_106, c.2.all (zk_qok prog_1_method_19_code) = true := List.forall_mem_cons.mpr ⟨zk_d_106_0, fun _ h => absurd h List.not_mem_nil⟩
theorem zk_d_107_0 : zl_107_0.all (zk_qok prog_5_method_20_code) = true := by decide +kernel
theorem zk_d_107_1 : zl_107_1.all (zk_qok prog_5_method_20_code) = true := by decide +kernel
theorem zk_d_107 : ∀ c ∈ zl_107, c.2.all (zk_qok prog_5_method_20_code) = true := List.forall_mem_cons.mpr ⟨zk_d_107_0, List.forall_mem_cons.mpr ⟨zk_d_107_1, fun _ h => absurd h List.not_mem_nil⟩⟩
theorem zk_d_108_0 : zl_108_0.all (zk_qok method_20_code) = true := by decide +kernel
theorem zk_d_108 : ∀ c ∈ zl_108, c.2.all (zk_qok method_20_code) = true := List.forall_mem_cons.mpr ⟨zk_d_108_0, fun _ h => absurd h List.not_mem_nil⟩
theorem zk_d_109_0 : zl_109_0.all (zk_qok prog_1_method_20_code) = true := by decide +kernel
theorem zk_d_109 : ∀ c ∈ zl_109, c.2.all (zk_qok prog_1_method_20_code) = true := List.forall_mem_cons.mpr ⟨zk_d_109_0, fun _ h => absurd h List.not_mem_nil⟩
theorem zk_d_110_0 : zl_110_0.all (zk_qok method_21_code) = true := by decide +kernel
theorem zk_d_110 : ∀ c ∈ zl_110, c.2.all (zk_qok method_21_code) = true := List.forall_mem_cons.mpr ⟨zk_d_110_0, fun _ h => absurd h List.not_mem_nil⟩
theorem zk_d_111_0 : zl_111_0.all (zk_qok prog_1_method_21_code) = true := by decide +kernel
theorem zk_d_111 : ∀ c ∈ zl_111, c.2.all (zk_qok prog_1_method_21_code) = true := List.forall_mem_cons.mpr ⟨zk_d_111_0, fun _ h => absurd h List.not_mem_nil⟩
theorem zk_d_112_0 : zl_112_0.all (zk_qok prog_3_method_6_code) = true := by decide +kernel
theorem zk_d_112 : ∀ c ∈ zl_112, c.2.all (zk_qok prog_3_method_6_code) = true := List.forall_mem_cons.mpr ⟨zk_d_112_0, fun _ h => absurd h List.not_mem_nil⟩
theorem zk_d_113_0 : zl_113_0.all (zk_qok prog_7_method_1_code) = true := by decide +kernel
theorem zk_d_113_1 : zl_113_1.all (zk_qok prog_7_method_1_code) = true := by decide +kernel
theorem zk_d_113_2 : zl_113_2.all (zk_qok prog_7_method_1_code) = true := by decide +kernel
theorem zk_d_113 : ∀ c ∈ zl_113, c.2.all (zk_qok prog_7_method_1_code) = true := List.forall_mem_cons.mpr ⟨zk_d_113_0, List.forall_mem_cons.mpr ⟨zk_d_113_1, List.forall_mem_cons.mpr ⟨zk_d_113_2, fun _ h => absurd h List.not_mem_nil⟩⟩⟩
theorem zk_d_114_0 : zl_114_0.all (zk_qok prog_7_method_2_code) = true := by decide +kernel
theorem zk_d_114 : ∀ c ∈ zl_114, c.2.all (zk_qok prog_7_method_2_code) = true := List.forall_mem_cons.mpr ⟨zk_d_114_0, fun _ h => absurd h List.not_mem_nil⟩
theorem zk_d_115_0 : zl_115_0.all (zk_qok prog_7_method_13_code) = true := by decide +kernel
theorem zk_d_115_1 : zl_115_1.all (zk_qok prog_7_method_13_code) = true := by decide +kernel
theorem zk_d_115 : ∀ c ∈ zl_115, c.2.all (zk_qok prog_7_method_13_code) = true := List.forall_mem_cons.mpr ⟨zk_d_115_0, List.forall_mem_cons.mpr ⟨zk_d_115_1, fun _ h => absurd h List.not_mem_nil⟩⟩
theorem zk_d_116_0 : zl_116_0.all (zk_qok prog_7_method_5_code) = true := by decide +kernel
theorem zk_d_116 : ∀ c ∈ zl_116, c.2.all (zk_qok prog_7_method_5_code) = true := List.forall_mem_cons.mpr ⟨zk_d_116_0, fun _ h => absurd h List.not_mem_nil⟩
theorem zk_d_117_0 : zl_117_0.all (zk_qok prog_7_method_3_code) = true := by decide +kernel
theorem zk_d_117 : ∀ c ∈ zl_117, c.2.all (zk_qok prog_7_method_3_code) = true := List.forall_mem_cons.mpr ⟨zk_d_117_0, fun _ h => absurd h List.not_mem_nil⟩
theorem zk_d_118_0 : zl_118_0.all (zk_qok prog_7_method_6_code) = true := by decide +kernel
theorem zk_d_118 : ∀ c ∈ zl_118, c.2.all (zk_qok prog_7_method_6_code) = true := List.forall_mem_cons.mpr ⟨zk_d_118_0, fun _ h => absurd h List.not_mem_nil⟩
theorem zk_d_119_0 : zl_119_0.all (zk_qok prog_7_method_4_code) = true := by decide +kernel
theorem zk_d_119 : ∀ c ∈ zl_119, c.2.all (zk_qok prog_7_method_4_code) = true := List.forall_mem_cons.mpr ⟨zk_d_119_0, fun _ h => absurd h List.not_mem_nil⟩
theorem zk_d_120_0 : zl_120_0.all (zk_qok prog_7_method_12_code) = true := by decide +kernel
theorem zk_d_120_1 : zl_120_1.all (zk_qok prog_7_method_12_code) = true := by decide +kernel
theorem zk_d_120 : ∀ c ∈ zl_120, c.2.all (zk_qok prog_7_method_12_code) = true := List.forall_mem_cons.mpr ⟨zk_d_120_0, List.forall_mem_cons.mpr ⟨zk_d_120_1, fun _ h => absurd h List.not_mem_nil⟩⟩
theorem zk_d_121_0 : zl_121_0.all (zk_qok prog_7_method_22_code) = true := by decide +kernel
theorem zk_d_121_1 : zl_121_1.all (zk_qok prog_7_method_22_code) = true := by decide +kernel
theorem zk_d_121_2 : zl_121_2.all (zk_qok prog_7_method_22_code) = true := by decide +kernel
theorem zk_d_121_3 : zl_121_3.all (zk_qok prog_7_method_22_code) = true := by decide +kernel
theorem zk_d_121 : ∀ c ∈ zl_121, c.2.all (zk_qok prog_7_method_22_code) = true := List.forall_mem_cons.mpr ⟨zk_d_121_0, List.forall_mem_cons.mpr ⟨zk_d_121_1, List.forall_mem_cons.mpr ⟨zk_d_121_2, List.forall_mem_cons.mpr ⟨zk_d_121_3, fun _ h => absurd h List.not_mem_nil⟩⟩⟩⟩
theorem zk_d_122_0 : zl_122_0.all (zk_qok prog_7_method_14_code) = true := by decide +kernel
theorem zk_d_122_1 : zl_122_1.all (zk_qok prog_7_method_14_code) = true := by decide +kernel
theorem zk_d_122 : ∀ c ∈ zl_122, c.2.all (zk_qok prog_7_method_14_code) = true := List.forall_mem_cons.mpr ⟨zk_d_122_0, List.forall_mem_cons.mpr ⟨zk_d_122_1, fun _ h => absurd h List.not_mem_nil⟩⟩
theorem zk_d_123_0 : zl_123_0.all (zk_qok prog_7_method_15_code) = true := by decide +kernel
theorem zk_d_123_1 : zl_123_1.all (zk_qok prog_7_method_15_code) = true := by decide +kernel
theorem zk_d_123 : ∀ c ∈ zl_123, c.2.all (zk_qok prog_7_method_15_code) = true := List.forall_mem_cons.mpr ⟨zk_d_123_0, List.forall_mem_cons.mpr ⟨zk_d_123_1, fun _ h => absurd h List.not_mem_nil⟩⟩
theorem zk_d_124_0 : zl_124_0.all (zk_qok prog_7_method_16_code) = true := by decide +kernel
theorem zk_d_124_1 : zl_124_1.all (zk_qok prog_7_method_16_code) = true := by decide +kernel
theorem zk_d_124_2 : zl_124_2.all (zk_qok prog_7_method_16_code) = true := by decide +kernel
theorem zk_d_124_3 : zl_124_3.all (zk_qok prog_7_method_16_code) = true := by decide +kernel
theorem zk_d_124 : ∀ c ∈ zl_124, c.2.all (zk_qok prog_7_method_16_code) = true := List.forall_mem_cons.mpr ⟨zk_d_124_0, List.forall_mem_cons.mpr ⟨zk_d_124_1, List.forall_mem_cons.mpr ⟨zk_d_124_2, List.forall_mem_cons.mpr ⟨zk_d_124_3, fun _ h => absurd h List.not_mem_nil⟩⟩⟩⟩
theorem zk_d_125_0 : zl_125_0.all (zk_qok prog_7_method_17_code) = true := by decide +kernel
theorem zk_d_125 : ∀ c ∈ zl_125, c.2.all (zk_qok prog_7_method_17_code) = true := List.forall_mem_cons.mpr ⟨zk_d_125_0, fun _ h => absurd h List.not_mem_nil⟩
theorem zk_d_126_0 : zl_126_0.all (zk_qok prog_7_method_18_code) = true := by decide +kernel
theorem zk_d_126 : ∀ c ∈ zl_126, c.2.all (zk_qok prog_7_method_18_code) = true := List.forall_mem_cons.mpr ⟨zk_d_126_0, fun _ h => absurd h List.not_mem_nil⟩
theorem zk_d_127_0 : zl_127_0.all (zk_qok prog_7_method_19_code) = true := by decide +kernel
theorem zk_d_127_1 : zl_127_1.all (zk_qok prog_7_method_19_code) = true := by decide +kernel
theorem zk_d_127 : ∀ c ∈ zl_127, c.2.all (zk_qok prog_7_method_19_code) = true := List.forall_mem_cons.mpr ⟨zk_d_127_0, List.forall_mem_cons.mpr ⟨zk_d_127_1, fun _ h => absurd h List.not_mem_nil⟩⟩
theorem zk_d_128_0 : zl_128_0.all (zk_qok prog_7_method_35_code) = true := by decide +kernel
theorem zk_d_128_1 : zl_128_1.all (zk_qok prog_7_method_35_code) = true := by decide +kernel
theorem zk_d_128_2 : zl_128_2.all (zk_qok prog_7_method_35_code) = true := by decide +kernel
theorem zk_d_128_3 : zl_128_3.all (zk_qok prog_7_method_35_code) = true := by decide +kernel
theorem zk_d_128_4 : zl_128_4.all (zk_qok prog_7_method_35_code) = true := by decide +kernel
theorem zk_d_128 : ∀ c ∈ zl_128, c.2.all (zk_qok prog_7_method_35_code) = true := List.forall_mem_cons.mpr ⟨zk_d_128_0, List.forall_mem_cons.mpr ⟨zk_d_128_1, List.forall_mem_cons.mpr ⟨zk_d_128_2, List.forall_mem_cons.mpr ⟨zk_d_128_3, List.forall_mem_cons.mpr ⟨zk_d_128_4, fun _ h => absurd h List.not_mem_nil⟩⟩⟩⟩⟩
theorem zk_d_129_0 : zl_129_0.all (zk_qok prog_7_method_7_code) = true := by decide +kernel
theorem zk_d_129 : ∀ c ∈ zl_129, c.2.all (zk_qok prog_7_method_7_code) = true := List.forall_mem_cons.mpr ⟨zk_d_129_0, fun _ h => absurd h List.not_mem_nil⟩
theorem zk_d_130_0 : zl_130_0.all (zk_qok prog_7_method_25_code) = true := by decide +kernel
theorem zk_d_130 : ∀ c ∈ zl_130, c.2.all (zk_qok prog_7_method_25_code) = true := List.forall_mem_cons.mpr ⟨zk_d_130_0, fun _ h => absurd h List.not_mem_nil⟩
theorem zk_d_131_0 : zl_131_0.all (zk_qok prog_7_method_34_code) = true := by decide +kernel
theorem zk_d_131 : ∀ c ∈ zl_131, c.2.all (zk_qok prog_7_method_34_code) = true := List.forall_mem_cons.mpr ⟨zk_d_131_0, fun _ h => absurd h List.not_mem_nil⟩
theorem zk_d_132_0 : zl_132_0.all (zk_qok prog_7_method_33_code) = true := by decide +kernel
theorem zk_d_132_1 : zl_132_1.all (zk_qok prog_7_method_33_code) = true := by decide +kernel
theorem zk_d_132_2 : zl_132_2.all (zk_qok prog_7_method_33_code) = true := by decide +kernel
theorem zk_d_132_3 : zl_132_3.all (zk_qok prog_7_method_33_code) = true := by decide +kernel
theorem zk_d_132 : ∀ c ∈ zl_132, c.2.all (zk_qok prog_7_method_33_code) = true := List.forall_mem_cons.mpr ⟨zk_d_132_0, List.forall_mem_cons.mpr ⟨zk_d_132_1, List.forall_mem_cons.mpr ⟨zk_d_132_2, List.forall_mem_cons.mpr ⟨zk_d_132_3, fun _ h => absurd h List.not_mem_nil⟩⟩⟩⟩
theorem zk_d_133_0 : zl_133_0.all (zk_qok prog_7_method_32_code) = true := by decide +kernel
theorem zk_d_133_1 : zl_133_1.all (zk_qok prog_7_method_32_code) = true := by decide +kernel
theorem zk_d_133_2 : zl_133_2.all (zk_qok prog_7_method_32_code) = true := by decide +kernel
theorem zk_d_133_3 : zl_133_3.all (zk_qok prog_7_method_32_code) = true := by decide +kernel
theorem zk_d_133_4 : zl_133_4.all (zk_qok prog_7_method_32_code) = true := by decide +kernel
theorem zk_d_133_5 : zl_133_5.all (zk_qok prog_7_method_32_code) = true := by decide +kernel
theorem zk_d_133 : ∀ c ∈ zl_133, c.2.all (zk_qok prog_7_method_32_code) = true := List.forall_mem_cons.mpr ⟨zk_d_133_0, List.forall_mem_cons.mpr ⟨zk_d_133_1, List.forall_mem_cons.mpr ⟨zk_d_133_2, List.forall_mem_cons.mpr ⟨zk_d_133_3, List.forall_mem_cons.mpr ⟨zk_d_133_4, List.forall_mem_cons.mpr ⟨zk_d_133_5, fun _ h => absurd h List.not_mem_nil⟩⟩⟩⟩⟩⟩
theorem zk_d_134_0 : zl_134_0.all (zk_qok prog_7_method_11_code) = true := by decide +kernel
theorem zk_d_134 : ∀ c ∈ zl_134, c.2.all (zk_qok prog_7_method_11_code) = true := List.forall_mem_cons.mpr ⟨zk_d_134_0, fun _ h => absurd h List.not_mem_nil⟩
theorem zk_d_135_0 : zl_135_0.all (zk_qok prog_7_method_10_code) = true := by decide +kernel
theorem zk_d_135_1 : zl_135_1.all (zk_qok prog_7_method_10_code) = true := by decide +kernel
theorem zk_d_135_2 : zl_135_2.all (zk_qok prog_7_method_10_code) = true := by decide +kernel
theorem zk_d_135 : ∀ c ∈ zl_135, c.2.all (zk_qok prog_7_method_10_code) = true := List.forall_mem_cons.mpr ⟨zk_d_135_0, List.forall_mem_cons.mpr ⟨zk_d_135_1, List.forall_mem_cons.mpr ⟨zk_d_135_2, fun _ h => absurd h List.not_mem_nil⟩⟩⟩
theorem zk_d_136_0 : zl_136_0.all (zk_qok prog_7_method_30_code) = true := by decide +kernel
theorem zk_d_136 : ∀ c ∈ zl_136, c.2.all (zk_qok prog_7_method_30_code) = true := List.forall_mem_cons.mpr ⟨zk_d_136_0, fun _ h => absurd h List.not_mem_nil⟩
theorem zk_d_137_0 : zl_137_0.all (zk_qok prog_7_method_20_code) = true := by decide +kernel
theorem zk_d_137_1 : zl_137_1.all (zk_qok prog_7_method_20_code) = true := by decide +kernel
theorem zk_d_137 : ∀ c ∈ zl_137, c.2.all (zk_qok prog_7_method_20_code) = true := List.forall_mem_cons.mpr ⟨zk_d_137_0, List.forall_mem_cons.mpr ⟨zk_d_137_1, fun _ h => absurd h List.not_mem_nil⟩⟩
theorem zk_d_138_0 : zl_138_0.all (zk_qok prog_7_method_9_code) = true := by decide +kernel
theorem zk_d_138_1 : zl_138_1.all (zk_qok prog_7_method_9_code) = true := by decide +kernel
theorem zk_d_138 : ∀ c ∈ zl_138, c.2.all (zk_qok prog_7_method_9_code) = true := List.forall_mem_cons.mpr ⟨zk_d_138_0, List.forall_mem_cons.mpr ⟨zk_d_138_1, fun _ h => absurd h List.not_mem_nil⟩⟩
theorem zk_d_139_0 : zl_139_0.all (zk_qok prog_7_method_29_code) = true := by decide +kernel
theorem zk_d_139_1 : zl_139_1.all (zk_qok prog_7_method_29_code) = true := by decide +kernel
theorem zk_d_139_2 : zl_139_2.all (zk_qok prog_7_method_29_code) = true := by decide +kernel
theorem zk_d_139_3 : zl_139_3.all (zk_qok prog_7_method_29_code) = true := by decide +kernel
theorem zk_d_139_4 : zl_139_4.all (zk_qok prog_7_method_29_code) = true := by decide +kernel
theorem zk_d_139_5 : zl_139_5.all (zk_qok prog_7_method_29_code) = true := by decide +kernel
theorem zk_d_139_6 : zl_139_6.all (zk_qok prog_7_method_29_code) = true := by decide +kernel
theorem zk_d_139_7 : zl_139_7.all (zk_qok prog_7_method_29_code) = true := by decide +kernel
theorem zk_d_139_8 : zl_139_8.all (zk_qok prog_7_method_29_code) = true := by decide +kernel
theorem zk_d_139 : ∀ c ∈ zl_139, c.2.all (zk_qok prog_7_method_29_code) = true := List.forall_mem_cons.mpr ⟨zk_d_139_0, List.forall_mem_cons.mpr ⟨zk_d_139_1, List.forall_mem_cons.mpr ⟨zk_d_139_2, List.forall_mem_cons.mpr ⟨zk_d_139_3, List.forall_mem_cons.mpr ⟨zk_d_139_4, List.forall_mem_cons.mpr ⟨zk_d_139_5, List.forall_mem_cons.mpr ⟨zk_d_139_6, List.forall_mem_cons.mpr ⟨zk_d_139_7, List.forall_mem_cons.mpr ⟨zk_d_139_8, fun _ h => absurd h List.not_mem_nil⟩⟩⟩⟩⟩⟩⟩⟩⟩
theorem zk_d_140_0 : zl_140_0.all (zk_qok prog_7_method_26_code) = true := by decide +kernel
theorem zk_d_140_1 : zl_140_1.all (zk_qok prog_7_method_26_code) = true := by decide +kernel
theorem zk_d_140_2 : zl_140_2.all (zk_qok prog_7_method_26_code) = true := by decide +kernel
theorem zk_d_140 : ∀ c ∈ zl_140, c.2.all (zk_qok prog_7_method_26_code) = true := List.forall_mem_cons.mpr ⟨zk_d_140_0, List.forall_mem_cons.mpr ⟨zk_d_140_1, List.forall_mem_cons.mpr ⟨zk_d_140_2, fun _ h => absurd h List.not_mem_nil⟩⟩⟩
theorem zk_d_141_0 : zl_141_0.all (zk_qok prog_7_method_23_code) = true := by decide +kernel
theorem zk_d_141 : ∀ c ∈ zl_141, c.2.all (zk_qok prog_7_method_23_code) = true := List.forall_mem_cons.mpr ⟨zk_d_141_0, fun _ h => absurd h List.not_mem_nil⟩
theorem zk_d_142_0 : zl_142_0.all (zk_qok prog_7_method_27_code) = true := by decide +kernel
theorem zk_d_142 : ∀ c ∈ zl_142, c.2.all (zk_qok prog_7_method_27_code) = true := List.forall_mem_cons.mpr ⟨zk_d_142_0, fun _ h => absurd h List.not_mem_nil⟩
theorem zk_d_143_0 : zl_143_0.all (zk_qok prog_7_method_28_code) = true := by decide +kernel
theorem zk_d_143_1 : zl_143_1.all (zk_qok prog_7_method_28_code) = true := by decide +kernel
theorem zk_d_143_2 : zl_143_2.all (zk_qok prog_7_method_28_code) = true := by decide +kernel
theorem zk_d_143_3 : zl_143_3.all (zk_qok prog_7_method_28_code) = true := by decide +kernel
theorem zk_d_143_4 : zl_143_4.all (zk_qok prog_7_method_28_code) = true := by decide +kernel
theorem zk_d_143 : ∀ c ∈ zl_143, c.2.all (zk_qok prog_7_method_28_code) = true := List.forall_mem_cons.mpr ⟨zk_d_143_0, List.forall_mem_cons.mpr ⟨zk_d_143_1, List.forall_mem_cons.mpr ⟨zk_d_143_2, List.forall_mem_cons.mpr ⟨zk_d_143_3, List.forall_mem_cons.mpr ⟨zk_d_143_4, fun _ h => absurd h List.not_mem_nil⟩⟩⟩⟩⟩
theorem zk_d_144_0 : zl_144_0.all (zk_qok prog_7_method_24_code) = true := by decide +kernel
theorem zk_d_144 : ∀ c ∈ zl_144, c.2.all (zk_qok prog_7_method_24_code) = true := List.forall_mem_cons.mpr ⟨zk_d_144_0, fun _ h => absurd h List.not_mem_nil⟩
theorem zk_d_145_0 : zl_145_0.all (zk_qok prog_7_method_31_code) = true := by decide +kernel
theorem zk_d_145_1 : zl_145_1.all (zk_qok prog_7_method_31_code) = true := by decide +kernel
theorem zk_d_145 : ∀ c ∈ zl_145, c.2.all (zk_qok prog_7_method_31_code) = true := List.forall_mem_cons.mpr ⟨zk_d_145_0, List.forall_mem_cons.mpr ⟨zk_d_145_1, fun _ h => absurd h List.not_mem_nil⟩⟩
theorem zk_d_146_0 : zl_146_0.all (zk_qok prog_7_method_36_code) = true := by decide +kernel
theorem zk_d_146_1 : zl_146_1.all (zk_qok prog_7_method_36_code) = true := by decide +kernel
theorem zk_d_146_2 : zl_146_2.all (zk_qok prog_7_method_36_code) = true := by decide +kernel
theorem zk_d_146 : ∀ c ∈ zl_146, c.2.all (zk_qok prog_7_method_36_code) = true := List.forall_mem_cons.mpr ⟨zk_d_146_0, List.forall_mem_cons.mpr ⟨zk_d_146_1, List.forall_mem_cons.mpr ⟨zk_d_146_2, fun _ h => absurd h List.not_mem_nil⟩⟩⟩
theorem zk_d_147_0 : zl_147_0.all (zk_qok prog_7_method_21_code) = true := by decide +kernel
theorem zk_d_147_1 : zl_147_1.all (zk_qok prog_7_method_21_code) = true := by decide +kernel
theorem zk_d_147 : ∀ c ∈ zl_147, c.2.all (zk_qok prog_7_method_21_code) = true := List.forall_mem_cons.mpr ⟨zk_d_147_0, List.forall_mem_cons.mpr ⟨zk_d_147_1, fun _ h => absurd h List.not_mem_nil⟩⟩
theorem zk_d_148_0 : zl_148_0.all (zk_qok prog_7_method_8_code) = true := by decide +kernel
theorem zk_d_148 : ∀ c ∈ zl_148, c.2.all (zk_qok prog_7_method_8_code) = true := List.forall_mem_cons.mpr ⟨zk_d_148_0, fun _ h => absurd h List.not_mem_nil⟩
theorem zk_d_149_0 : zl_149_0.all (zk_qok prog_7_method_37_code) = true := by decide +kernel
theorem zk_d_149_1 : zl_149_1.all (zk_qok prog_7_method_37_code) = true := by decide +kernel
theorem zk_d_149_2 : zl_149_2.all (zk_qok prog_7_method_37_code) = true := by decide +kernel
theorem zk_d_149_3 : zl_149_3.all (zk_qok prog_7_method_37_code) = true := by decide +kernel
theorem zk_d_149_4 : zl_149_4.all (zk_qok prog_7_method_37_code) = true := by decide +kernel
theorem zk_d_149 : ∀ c ∈ zl_149, c.2.all (zk_qok prog_7_method_37_code) = true := List.forall_mem_cons.mpr ⟨zk_d_149_0, List.forall_mem_cons.mpr ⟨zk_d_149_1, List.forall_mem_cons.mpr ⟨zk_d_149_2, List.forall_mem_cons.mpr ⟨zk_d_149_3, List.forall_mem_cons.mpr ⟨zk_d_149_4, fun _ h => absurd h List.not_mem_nil⟩⟩⟩⟩⟩
theorem zk_d_150_0 : zl_150_0.all (zk_qok prog_7_method_38_code) = true := by decide +kernel
theorem zk_d_150_1 : zl_150_1.all (zk_qok prog_7_method_38_code) = true := by decide +kernel
theorem zk_d_150_2 : zl_150_2.all (zk_qok prog_7_method_38_code) = true := by decide +kernel
theorem zk_d_150 : ∀ c ∈ zl_150, c.2.all (zk_qok prog_7_method_38_code) = true := List.forall_mem_cons.mpr ⟨zk_d_150_0, List.forall_mem_cons.mpr ⟨zk_d_150_1, List.forall_mem_cons.mpr ⟨zk_d_150_2, fun _ h => absurd h List.not_mem_nil⟩⟩⟩
theorem zk_d_151_0 : zl_151_0.all (zk_qok prog_7_method_39_code) = true := by decide +kernel
theorem zk_d_151_1 : zl_151_1.all (zk_qok prog_7_method_39_code) = true := by decide +kernel
theorem zk_d_151 : ∀ c ∈ zl_151, c.2.all (zk_qok prog_7_method_39_code) = true := List.forall_mem_cons.mpr ⟨zk_d_151_0, List.forall_mem_cons.mpr ⟨zk_d_151_1, fun _ h => absurd h List.not_mem_nil⟩⟩
theorem zk_d_152_0 : zl_152_0.all (zk_qok prog_7_method_40_code) = true := by decide +kernel
theorem zk_d_152_1 : zl_152_1.all (zk_qok prog_7_method_40_code) = true := by decide +kernel
theorem zk_d_152 : ∀ c ∈ zl_152, c.2.all (zk_qok prog_7_method_40_code) = true := List.forall_mem_cons.mpr ⟨zk_d_152_0, List.forall_mem_cons.mpr ⟨zk_d_152_1, fun _ h => absurd h List.not_mem_nil⟩⟩
theorem zk_d_153_0 : zl_153_0.all (zk_qok prog_7_method_41_code) = true := by decide +kernel
theorem zk_d_153_1 : zl_153_1.all (zk_qok prog_7_method_41_code) = true := by decide +kernel
theorem zk_d_153 : ∀ c ∈ zl_153, c.2.all (zk_qok prog_7_method_41_code) = true := List.forall_mem_cons.mpr ⟨zk_d_153_0, List.forall_mem_cons.mpr ⟨zk_d_153_1, fun _ h => absurd h List.not_mem_nil⟩⟩
theorem zk_d_154_0 : zl_154_0.all (zk_qok prog_7_method_43_code) = true := by decide +kernel
theorem zk_d_154 : ∀ c ∈ zl_154, c.2.all (zk_qok prog_7_method_43_code) = true := List.forall_mem_cons.mpr ⟨zk_d_154_0, fun _ h => absurd h List.not_mem_nil⟩
theorem zk_d_155_0 : zl_155_0.all (zk_qok prog_7_method_42_code) = true := by decide +kernel
theorem zk_d_155 : ∀ c ∈ zl_155, c.2.all (zk_qok prog_7_method_42_code) = true := List.forall_mem_cons.mpr ⟨zk_d_155_0, fun _ h => absurd h List.not_mem_nil⟩
theorem zk_d_156_0 : zl_156_0.all (zk_qok prog_7_method_45_code) = true := by decide +kernel
theorem zk_d_156_1 : zl_156_1.all (zk_qok prog_7_method_45_code) = true := by decide +kernel
theorem zk_d_156_2 : zl_156_2.all (zk_qok prog_7_method_45_code) = true := by decide +kernel
theorem zk_d_156_3 : zl_156_3.all (zk_qok prog_7_method_45_code) = true := by decide +kernel
theorem zk_d_156_4 : zl_156_4.all (zk_qok prog_7_method_45_code) = true := by decide +kernel
theorem zk_d_156 : ∀ c ∈ zl_156, c.2.all (zk_qok prog_7_method_45_code) = true := List.forall_mem_cons.mpr ⟨zk_d_156_0, List.forall_mem_cons.mpr ⟨zk_d_156_1, List.forall_mem_cons.mpr ⟨zk_d_156_2, List.forall_mem_cons.mpr ⟨zk_d_156_3, List.forall_mem_cons.mpr ⟨zk_d_156_4, fun _ h => absurd h List.not_mem_nil⟩⟩⟩⟩⟩
theorem zk_d_157_0 : zl_157_0.all (zk_qok prog_7_method_44_code) = true := by decide +kernel
theorem zk_d_157_1 : zl_157_1.all (zk_qok prog_7_method_44_code) = true := by decide +kernel
theorem zk_d_157_2 : zl_157_2.all (zk_qok prog_7_method_44_code) = true := by decide +kernel
theorem zk_d_157 : ∀ c ∈ zl_157, c.2.all (zk_qok prog_7_method_44_code) = true := List.forall_mem_cons.mpr ⟨zk_d_157_0, List.forall_mem_cons.mpr ⟨zk_d_157_1, List.forall_mem_cons.mpr ⟨zk_d_157_2, fun _ h => absurd h List.not_mem_nil⟩⟩⟩
theorem zk_d_158_0 : zl_158_0.all (zk_qok prog_7_method_46_code) = true := by decide +kernel
theorem zk_d_158_1 : zl_158_1.all (zk_qok prog_7_method_46_code) = true := by decide +kernel
theorem zk_d_158_2 : zl_158_2.all (zk_qok prog_7_method_46_code) = true := by decide +kernel
theorem zk_d_158 : ∀ c ∈ zl_158, c.2.all (zk_qok prog_7_method_46_code) = true := List.forall_mem_cons.mpr ⟨zk_d_158_0, List.forall_mem_cons.mpr ⟨zk_d_158_1, List.forall_mem_cons.mpr ⟨zk_d_158_2, fun _ h => absurd h List.not_mem_nil⟩⟩⟩
theorem zk_d_159_0 : zl_159_0.all (zk_qok prog_7_method_47_code) = true := by decide +kernel
theorem zk_d_159_1 : zl_159_1.all (zk_qok prog_7_method_47_code) = true := by decide +kernel
theorem zk_d_159_2 : zl_159_2.all (zk_qok prog_7_method_47_code) = true := by decide +kernel
theorem zk_d_159_3 : zl_159_3.all (zk_qok prog_7_method_47_code) = true := by decide +kernel
theorem zk_d_159 : ∀ c ∈ zl_159, c.2.all (zk_qok prog_7_method_47_code) = true := List.forall_mem_cons.mpr ⟨zk_d_159_0, List.forall_mem_cons.mpr ⟨zk_d_159_1, List.forall_mem_cons.mpr ⟨zk_d_159_2, List.forall_mem_cons.mpr ⟨zk_d_159_3, fun _ h => absurd h List.not_mem_nil⟩⟩⟩⟩
theorem zk_d_160_0 : zl_160_0.all (zk_qok prog_7_method_48_code) = true := by decide +kernel
theorem zk_d_160_1 : zl_160_1.all (zk_qok prog_7_method_48_code) = true := by decide +kernel
theorem zk_d_160 : ∀ c ∈ zl_160, c.2.all (zk_qok prog_7_method_48_code) = true := List.forall_mem_cons.mpr ⟨zk_d_160_0, List.forall_mem_cons.mpr ⟨zk_d_160_1, fun _ h => absurd h List.not_mem_nil⟩⟩
theorem zk_d_161_0 : zl_161_0.all (zk_qok prog_7_method_49_code) = true := by decide +kernel
theorem zk_d_161 : ∀ c ∈ zl_161, c.2.all (zk_qok prog_7_method_49_code) = true := List.forall_mem_cons.mpr ⟨zk_d_161_0, fun _ h => absurd h List.not_mem_nil⟩
theorem zk_d_162_0 : zl_162_0.all (zk_qok code) = true := by decide +kernel
theorem zk_d_162_1 : zl_162_1.all (zk_qok code) = true := by decide +kernel
theorem zk_d_162_2 : zl_162_2.all (zk_qok code) = true := by decide +kernel
theorem zk_d_162_3 : zl_162_3.all (zk_qok code) = true := by decide +kernel
theorem zk_d_162_4 : zl_162_4.all (zk_qok code) = true := by decide +kernel
theorem zk_d_162_5 : zl_162_5.all (zk_qok code) = true := by decide +kernel
theorem zk_d_162_6 : zl_162_6.all (zk_qok code) = true := by decide +kernel
theorem zk_d_162_7 : zl_162_7.all (zk_qok code) = true := by decide +kernel
theorem zk_d_162_8 : zl_162_8.all (zk_qok code) = true := by decide +kernel
theorem zk_d_162_9 : zl_162_9.all (zk_qok code) = true := by decide +kernel
theorem zk_d_162_10 : zl_162_10.all (zk_qok code) = true := by decide +kernel
theorem zk_d_162_11 : zl_162_11.all (zk_qok code) = true := by decide +kernel
theorem zk_d_162_12 : zl_162_12.all (zk_qok code) = true := by decide +kernel
theorem zk_d_162_13 : zl_162_13.all (zk_qok code) = true := by decide +kernel
theorem zk_d_162_14 : zl_162_14.all (zk_qok code) = true := by decide +kernel
theorem zk_d_162_15 : zl_162_15.all (zk_qok code) = true := by decide +kernel
theorem zk_d_162_16 : zl_162_16.all (zk_qok code) = true := by decide +kernel
theorem zk_d_162_17 : zl_162_17.all (zk_qok code) = true := by decide +kernel
theorem zk_d_162_18 : zl_162_18.all (zk_qok code) = true := by decide +kernel
theorem zk_d_162_19 : zl_162_19.all (zk_qok code) = true := by decide +kernel
theorem zk_d_162_20 : zl_162_20.all (zk_qok code) = true := by decide +kernel
theorem zk_d_162_21 : zl_162_21.all (zk_qok code) = true := by decide +kernel
theorem zk_d_162_22 : zl_162_22.all (zk_qok code) = true := by decide +kernel
theorem zk_d_162_23 : zl_162_23.all (zk_qok code) = true := by decide +kernel
theorem zk_d_162_24 : zl_162_24.all (zk_qok code) = true := by decide +kernel
theorem zk_d_162_25 : zl_162_25.all (zk_qok code) = true := by decide +kernel
theorem zk_d_162_26 : zl_162_26.all (zk_qok code) = true := by decide +kernel
theorem zk_d_162_27 : zl_162_27.all (zk_qok code) = true := by decide +kernel
theorem zk_d_162_28 : zl_162_28.all (zk_qok code) = true := by decide +kernel
theorem zk_d_162_29 : zl_162_29.all (zk_qok code) = true := by decide +kernel
theorem zk_d_162_30 : zl_162_30.all (zk_qok code) = true := by decide +kernel
theorem zk_d_162_31 : zl_162_31.all (zk_qok code) = true := by decide +kernel
theorem zk_d_162_32 : zl_162_32.all (zk_qok code) = true := by decide +kernel
theorem zk_d_162_33 : zl_162_33.all (zk_qok code) = true := by decide +kernel
theorem zk_d_162_34 : zl_162_34.all (zk_qok code) = true := by decide +kernel
theorem zk_d_162_35 : zl_162_35.all (zk_qok code) = true := by decide +kernel
theorem zk_d_162_36 : zl_162_36.all (zk_qok code) = true := by decide +kernel
theorem zk_d_162_37 : zl_162_37.all (zk_qok code) = true := by decide +kernel
theorem zk_d_162_38 : zl_162_38.all (zk_qok code) = true := by decide +kernel
theorem zk_d_162_39 : zl_162_39.all (zk_qok code) = true := by decide +kernel
theorem zk_d_162_40 : zl_162_40.all (zk_qok code) = true := by decide +kernel
theorem zk_d_162_41 : zl_162_41.all (zk_qok code) = true := by decide +kernel
theorem zk_d_162_42 : zl_162_42.all (zk_qok code) = true := by decide +kernel
theorem zk_d_162 : ∀ c ∈ zl_162, c.2.all (zk_qok code) = true := List.forall_mem_cons.mpr ⟨zk_d_162_0, List.forall_mem_cons.mpr ⟨zk_d_162_1, List.forall_mem_cons.mpr ⟨zk_d_162_2, List.forall_mem_cons.mpr ⟨zk_d_162_3, List.forall_mem_cons.mpr ⟨zk_d_162_4, List.forall_mem_cons.mpr ⟨zk_d_162_5, List.forall_mem_cons.mpr ⟨zk_d_162_6, List.forall_mem_cons.mpr ⟨zk_d_162_7, List.forall_mem_cons.mpr ⟨zk_d_162_8, List.forall_mem_cons.mpr ⟨zk_d_162_9, List.forall_mem_cons.mpr ⟨zk_d_162_10, List.forall_mem_cons.mpr ⟨zk_d_162_11, List.forall_mem_cons.mpr ⟨zk_d_162_12, List.forall_mem_cons.mpr ⟨zk_d_162_13, List.forall_mem_cons.mpr ⟨zk_d_162_14, List.forall_mem_cons.mpr ⟨zk_d_162_15, List.forall_mem_cons.mpr ⟨zk_d_162_16, List.forall_mem_cons.mpr ⟨zk_d_162_17, List.forall_mem_cons.mpr ⟨zk_d_162_18, List.forall_mem_cons.mpr ⟨zk_d_162_19, List.forall_mem_cons.mpr ⟨zk_d_162_20, List.forall_mem_cons.mpr ⟨zk_d_162_21, List.forall_mem_cons.mpr ⟨zk_d_162_22, List.forall_mem_cons.mpr ⟨zk_d_162_23, List.forall_mem_cons.mpr ⟨zk_d_162_24, List.forall_mem_cons.mpr ⟨zk_d_162_25, List.forall_mem_cons.mpr ⟨zk_d_162_26, List.forall_mem_cons.mpr ⟨zk_d_162_27, List.forall_mem_cons.mpr ⟨zk_d_162_28, List.forall_mem_cons.mpr ⟨zk_d_162_29, List.forall_mem_cons.mpr ⟨zk_d_162_30, List.forall_mem_cons.mpr ⟨zk_d_162_31, List.forall_mem_cons.mpr ⟨zk_d_162_32, List.forall_mem_cons.mpr ⟨zk_d_162_33, List.forall_mem_cons.mpr ⟨zk_d_162_34, List.forall_mem_cons.mpr ⟨zk_d_162_35, List.forall_mem_cons.mpr ⟨zk_d_162_36, List.forall_mem_cons.mpr ⟨zk_d_162_37, List.forall_mem_cons.mpr ⟨zk_d_162_38, List.forall_mem_cons.mpr ⟨zk_d_162_39, List.forall_mem_cons.mpr ⟨zk_d_162_40, List.forall_mem_cons.mpr ⟨zk_d_162_41, List.forall_mem_cons.mpr ⟨zk_d_162_42, fun _ h => absurd h List.not_mem_nil⟩⟩⟩⟩⟩⟩⟩⟩⟩⟩⟩⟩⟩⟩⟩⟩⟩⟩⟩⟩⟩⟩⟩⟩⟩⟩⟩⟩⟩⟩⟩⟩⟩⟩⟩⟩⟩⟩⟩⟩⟩⟩⟩
def zk_dP (M : Nat) : Prop := match zk_nth zk_codes M with
  | some c => ∀ q ∈ c, q.2.all (zk_qok (zk_by M)) = true
  | none => True
theorem zk_d_all : zk_AllP zk_dP 163 := ⟨⟨⟨⟨⟨⟨⟨⟨⟨⟨⟨⟨⟨⟨⟨⟨⟨⟨⟨⟨⟨⟨⟨⟨⟨⟨⟨⟨⟨⟨⟨⟨⟨⟨⟨⟨⟨⟨⟨⟨⟨⟨⟨⟨⟨⟨⟨⟨⟨⟨⟨⟨⟨⟨⟨⟨⟨⟨⟨⟨⟨⟨⟨⟨⟨⟨⟨⟨⟨⟨⟨⟨⟨⟨⟨⟨⟨⟨⟨⟨⟨⟨⟨⟨⟨⟨⟨⟨⟨⟨⟨⟨⟨⟨⟨⟨⟨⟨⟨⟨⟨⟨⟨⟨⟨⟨⟨⟨⟨⟨⟨⟨⟨⟨⟨⟨⟨⟨⟨⟨⟨⟨⟨⟨⟨⟨⟨⟨⟨⟨⟨⟨⟨⟨⟨⟨⟨⟨⟨⟨⟨⟨⟨⟨⟨⟨⟨⟨⟨⟨⟨⟨⟨⟨⟨⟨⟨⟨⟨⟨⟨⟨⟨trivial, zk_d_0⟩, zk_d_1⟩, zk_d_2⟩, zk_d_3⟩, zk_d_4⟩, zk_d_5⟩, zk_d_6⟩, zk_d_7⟩, zk_d_8⟩, zk_d_9⟩, zk_d_10⟩, zk_d_11⟩, zk_d_12⟩, zk_d_13⟩, zk_d_14⟩, zk_d_15⟩, zk_d_16⟩, zk_d_17⟩, zk_d_18⟩, zk_d_19⟩, zk_d_20⟩, zk_d_21⟩, zk_d_22⟩, zk_d_23⟩, zk_d_24⟩, zk_d_25⟩, zk_d_26⟩, zk_d_27⟩, zk_d_28⟩, zk_d_29⟩, zk_d_30⟩, zk_d_31⟩, zk_d_32⟩, zk_d_33⟩, zk_d_34⟩, zk_d_35⟩, zk_d_36⟩, zk_d_37⟩, zk_d_38⟩, zk_d_39⟩, zk_d_40⟩, zk_d_41⟩, zk_d_42⟩, zk_d_43⟩, zk_d_44⟩, zk_d_45⟩, zk_d_46⟩, zk_d_47⟩, zk_d_48⟩, zk_d_49⟩, zk_d_50⟩, zk_d_51⟩, zk_d_52⟩, zk_d_53⟩, zk_d_54⟩, zk_d_55⟩, zk_d_56⟩, zk_d_57⟩, zk_d_58⟩, zk_d_59⟩, zk_d_60⟩, zk_d_61⟩, zk_d_62⟩, zk_d_63⟩, zk_d_64⟩, zk_d_65⟩, zk_d_66⟩, zk_d_67⟩, zk_d_68⟩, zk_d_69⟩, zk_d_70⟩, zk_d_71⟩, zk_d_72⟩, zk_d_73⟩, zk_d_74⟩, zk_d_75⟩, zk_d_76⟩, zk_d_77⟩, zk_d_78⟩, zk_d_79⟩, zk_d_80⟩, zk_d_81⟩, zk_d_82⟩, zk_d_83⟩, zk_d_84⟩, zk_d_85⟩, zk_d_86⟩, zk_d_87⟩, zk_d_88⟩, zk_d_89⟩, zk_d_90⟩, zk_d_91⟩, zk_d_92⟩, zk_d_93⟩, zk_d_94⟩, zk_d_95⟩, zk_d_96⟩, zk_d_97⟩, zk_d_98⟩, zk_d_99⟩, zk_d_100⟩, zk_d_101⟩, zk_d_102⟩, zk_d_103⟩, zk_d_104⟩, zk_d_105⟩, zk_d_106⟩, zk_d_107⟩, zk_d_108⟩, zk_d_109⟩, zk_d_110⟩, zk_d_111⟩, zk_d_112⟩, zk_d_113⟩, zk_d_114⟩, zk_d_115⟩, zk_d_116⟩, zk_d_117⟩, zk_d_118⟩, zk_d_119⟩, zk_d_120⟩, zk_d_121⟩, zk_d_122⟩, zk_d_123⟩, zk_d_124⟩, zk_d_125⟩, zk_d_126⟩, zk_d_127⟩, zk_d_128⟩, zk_d_129⟩, zk_d_130⟩, zk_d_131⟩, zk_d_132⟩, zk_d_133⟩, zk_d_134⟩, zk_d_135⟩, zk_d_136⟩, zk_d_137⟩, zk_d_138⟩, zk_d_139⟩, zk_d_140⟩, zk_d_141⟩, zk_d_142⟩, zk_d_143⟩, zk_d_144⟩, zk_d_145⟩, zk_d_146⟩, zk_d_147⟩, zk_d_148⟩, zk_d_149⟩, zk_d_150⟩, zk_d_151⟩, zk_d_152⟩, zk_d_153⟩, zk_d_154⟩, zk_d_155⟩, zk_d_156⟩, zk_d_157⟩, zk_d_158⟩, zk_d_159⟩, zk_d_160⟩, zk_d_161⟩, zk_d_162⟩
theorem zk_at_mem {pc : Nat} {l : List (Nat × Instr × Nat × Nat)} {e : Instr × Nat × Nat} (h : zk_at pc l = some e) : (pc, e) ∈ l := by
  induction l with
  | nil => cases h
  | cons q r ih =>
    unfold zk_at at h
    cases hq : Nat.beq q.1 pc with
    | true =>
      rw [hq] at h
      have e1 : q.1 = pc := Nat.eq_of_beq_eq_true hq
      have e2 : q.2 = e := Option.some.inj h
      rw [← e1, ← e2]
      exact List.mem_cons_self
    | false =>
      rw [hq] at h
      exact List.mem_cons_of_mem _ (ih h)
theorem zk_at2_mem {pc : Nat} {l : List (Nat × List (Nat × Instr × Nat × Nat))} {e : Instr × Nat × Nat} (h : zk_at2 pc l = some e) : ∃ c ∈ l, (pc, e) ∈ c.2 := by
  induction l with
  | nil => cases h
  | cons q r ih =>
    unfold zk_at2 at h
    cases hq : Nat.blt pc q.1 with
    | true =>
      rw [hq] at h
      exact ⟨q, List.mem_cons_self, zk_at_mem h⟩
    | false =>
      rw [hq] at h
      obtain ⟨c, h1, h2⟩ := ih h
      exact ⟨c, List.mem_cons_of_mem _ h1, h2⟩
theorem zk_f_ins {M pc nx tg : Nat} {i : Instr} (h : zk_ins M pc = some (i, nx, tg)) : M < 163 ∧ decode (zk_by M) pc = .ok (i, zk_il i pc nx) ∧ nx = pc + zk_il i pc nx ∧ zk_tgb i pc tg = true := by
  unfold zk_ins at h
  split at h
  · rename_i c hc
    have hM : M < 163 := by
      rcases Nat.lt_or_ge M 163 with q | q
      · exact q
      · rw [zk_nth_none q] at hc; cases hc
    have h1 := zk_AllP_at zk_d_all M hM
    unfold zk_dP at h1
    simp only [hc] at h1
    obtain ⟨q, h2, h3⟩ := zk_at2_mem h
    have h4 := List.all_eq_true.mp (h1 q h2) _ h3
    unfold zk_qok at h4
    simp only [Bool.and_eq_true, decide_eq_true_eq] at h4
    exact ⟨hM, h4.1.1, h4.1.2, h4.2⟩
  · cases h
end
section
/-! THE REAL MACHINE DOES WHAT THE ABSTRACT ONE SAYS -/
def zk_ad (sc b k : Nat) : Nat := if k = 0 then sc else b + k
def zk_v (sc b : Nat) (v : Value) : Value := match v with
  | .ref k => .ref (zk_ad sc b k)
  | .int x => .int x
  | .long x => .long x
  | .float x => .float x
  | .double x => .double x
  | .null => .null
  | .retAddr x => .retAddr x
theorem zk_v_cat (sc b : Nat) (v : Value) : (zk_v sc b v).category = v.category := by cases v <;> rfl
def zk_e (aC : FieldType → ClassId) (sc b : Nat) (e : zkE) : va_E := match e with
  | .inl (ty, a) => .inl (aC ty, a)
  | .inr (ci, fs) => .inr (ci, fs.map (zk_v sc b))
def zk_lv (sc b : Nat) (lv : zkL) : zkL := lv.map (fun q => (q.1, zk_v sc b q.2))
theorem zk_lv_get {sc b : Nat} {ls : Array Slot} {nL : Nat} {lv : zkL} (h : lv_has ls nL (zk_lv sc b lv)) {k : Nat} {v : Value} (hk : zk_get lv k = some v) : ls[k]? = some (.val (zk_v sc b v)) := by
  have hm : (k, v) ∈ lv := by
    clear h
    induction lv with
    | nil => cases hk
    | cons q r ih =>
      unfold zk_get at hk
      cases hq : Nat.beq q.1 k with
      | true =>
        rw [hq] at hk
        have e1 : q.1 = k := Nat.eq_of_beq_eq_true hq
        have e2 : q.2 = v := Option.some.inj hk
        rw [← e1, ← e2]
        exact List.mem_cons_self
      | false =>
        rw [hq] at hk
        exact List.mem_cons_of_mem _ (ih hk)
  exact h.2.2 (k, zk_v sc b v) (List.mem_map.mpr ⟨(k, v), hm, rfl⟩)
theorem zk_lv_put1 (sc b : Nat) (lv : zkL) (i : Nat) (v : Value) : (i, zk_v sc b v) :: (zk_lv sc b lv).filter (fun q => !(q.1 == i) && !(q.1 + 1 == i && q.2.category == 2)) = zk_lv sc b (zk_put1 lv i v) := by
  simp only [zk_lv, zk_put1, List.map_cons, List.filter_map, List.cons.injEq, true_and]
  congr 1
  apply List.filter_congr
  intro q _
  simp only [Function.comp, zk_v_cat]
theorem zk_lv_put2 (sc b : Nat) (lv : zkL) (i : Nat) (v : Value) : (i, zk_v sc b v) :: (zk_lv sc b lv).filter (fun q => !(q.1 == i) && (!(q.1 == i + 1) && !(q.1 + 1 == i && q.2.category == 2))) = zk_lv sc b (zk_put2 lv i v) := by
  simp only [zk_lv, zk_put2, List.map_cons, List.filter_map, List.cons.injEq, true_and]
  congr 1
  apply List.filter_congr
  intro q _
  simp only [Function.comp, zk_v_cat]
theorem zk_lv_del (sc b : Nat) (lv : zkL) (i : Nat) : (zk_lv sc b lv).filter (fun q => !(q.1 == i) && !(q.1 + 1 == i && q.2.category == 2)) = zk_lv sc b (zk_del lv i) := by
  simp only [zk_lv, zk_del, List.filter_map]
  congr 1
  apply List.filter_congr
  intro q _
  simp only [Function.comp, zk_v_cat]
section ZS1
variable {p : Program} {l : Launch} {e : Env} {R : Room} {s : State} {m : MethodId} {args : Array Value} {below : List Frame} {meth : Method} {c : Code} {H : Heap} {locs : List Loc} {cells slots : Nat} {Q : State → Prop}
variable {cc : ByteArray} {pc nx tg : Nat} {ls : Array Slot} {sc b nL M : Nat} {lv lv2 : zkL} {st st2 : List Value} {pc2 : Nat} {i : Instr}
theorem zk_s1 (hexec : p.tables.exec = Jvm.exec) (hb : c.code = cc) (hown : s.vm.findClass (zk_own M) = some m.cls) (hts : ∀ w ∈ zkT, w.before args s = true) (hd : decode cc pc = .ok (i, zk_il i pc nx)) (hnx : nx = pc + zk_il i pc nx) (hn : zk_mxl M = nL) (hlv : lv_has ls nL (zk_lv sc b lv)) (hs : zk_loc1 M i nx tg lv st = some (pc2, lv2, st2))
    (kk : ∀ ls2 : Array Slot, lv_has ls2 nL (zk_lv sc b lv2) → W p l e R s m args below meth c H locs cells slots Q (F0 m pc2 ls2 (st2.map (zk_v sc b)))) : W p l e R s m args below meth c H locs cells slots Q (F0 m pc ls (st.map (zk_v sc b))) := by
  have hlt : ∀ k : Nat, Nat.blt k (zk_mxl M) = true → k < nL := fun k h => by rw [hn] at h; exact Nat.le_of_ble_eq_true h
  cases i with
  | aload k =>
    simp only [zk_loc1] at hs
    split at hs
    · rename_i a hq
      cases hs
      simp only [zk_il] at hnx hd
      subst hnx
      exact lv_aload hexec hb hd (zk_lv_get hlv hq) (kk ls hlv)
    · cases hs
  | aload_n k =>
    simp only [zk_loc1] at hs
    split at hs
    · rename_i a hq
      cases hs
      simp only [zk_il] at hnx hd
      subst hnx
      exact lv_aload_n hexec hb hd rfl (zk_lv_get hlv hq) (kk ls hlv)
    · cases hs
  | iload k =>
    simp only [zk_loc1] at hs
    split at hs
    · rename_i a hq
      cases hs
      simp only [zk_il] at hnx hd
      subst hnx
      exact lv_iload hexec hb hd (zk_lv_get hlv hq) (kk ls hlv)
    · cases hs
  | iload_n k =>
    simp only [zk_loc1] at hs
    split at hs
    · rename_i a hq
      cases hs
      simp only [zk_il] at hnx hd
      subst hnx
      exact lv_iload_n hexec hb hd rfl (zk_lv_get hlv hq) (kk ls hlv)
    · cases hs
  | lload k =>
    simp only [zk_loc1] at hs
    split at hs
    · rename_i a hq
      cases hs
      simp only [zk_il] at hnx hd
      subst hnx
      exact lv_lload hexec hb hd (zk_lv_get hlv hq) (kk ls hlv)
    · cases hs
  | lload_n k =>
    simp only [zk_loc1] at hs
    split at hs
    · rename_i a hq
      cases hs
      simp only [zk_il] at hnx hd
      subst hnx
      exact lv_lload_n hexec hb hd rfl (zk_lv_get hlv hq) (kk ls hlv)
    · cases hs
  | istore k =>
    simp only [zk_loc1] at hs
    split at hs
    · rename_i x r
      cases hq : Nat.blt k (zk_mxl M) with
      | false => rw [hq] at hs; cases hs
      | true =>
        rw [hq] at hs
        cases hs
        simp only [zk_il] at hnx hd
        subst hnx
        exact lv_istore hexec hb hd hlv (hlt _ hq) (zk_lv_put1 sc b lv k (.int x)) kk
    · cases hs
  | istore_n k =>
    simp only [zk_loc1] at hs
    split at hs
    · rename_i x r
      cases hq : Nat.blt k.val (zk_mxl M) with
      | false => rw [hq] at hs; cases hs
      | true =>
        rw [hq] at hs
        cases hs
        simp only [zk_il] at hnx hd
        subst hnx
        exact lv_istore_n hexec hb hd rfl hlv (hlt _ hq) (zk_lv_put1 sc b lv k.val (.int x)) kk
    · cases hs
  | lstore k =>
    simp only [zk_loc1] at hs
    split at hs
    · rename_i x r
      cases hq : Nat.blt (k + 1) (zk_mxl M) with
      | false => rw [hq] at hs; cases hs
      | true =>
        rw [hq] at hs
        cases hs
        simp only [zk_il] at hnx hd
        subst hnx
        exact lv_lstore hexec hb hd hlv (hlt _ hq) (zk_lv_put2 sc b lv k (.long x)) kk
    · cases hs
  | lstore_n k =>
    simp only [zk_loc1] at hs
    split at hs
    · rename_i x r
      cases hq : Nat.blt (k.val + 1) (zk_mxl M) with
      | false => rw [hq] at hs; cases hs
      | true =>
        rw [hq] at hs
        cases hs
        simp only [zk_il] at hnx hd
        subst hnx
        exact lv_lstore_n hexec hb hd rfl hlv (hlt _ hq) (zk_lv_put2 sc b lv k.val (.long x)) kk
    · cases hs
  | astore k =>
    simp only [zk_loc1] at hs
    split at hs
    · rename_i x r
      cases hq : Nat.blt k (zk_mxl M) with
      | false => rw [hq] at hs; cases hs
      | true =>
        rw [hq] at hs
        cases hs
        simp only [zk_il] at hnx hd
        subst hnx
        exact lv_astore hexec hb hd hlv (hlt _ hq) (zk_lv_put1 sc b lv k (.ref x)) kk
    · cases hs
  | astore_n k =>
    simp only [zk_loc1] at hs
    split at hs
    · rename_i x r
      cases hq : Nat.blt k.val (zk_mxl M) with
      | false => rw [hq] at hs; cases hs
      | true =>
        rw [hq] at hs
        cases hs
        simp only [zk_il] at hnx hd
        subst hnx
        exact lv_astore_n hexec hb hd rfl hlv (hlt _ hq) (zk_lv_put1 sc b lv k.val (.ref x)) kk
    · cases hs
  | iinc k n =>
    simp only [zk_loc1] at hs
    split at hs
    · rename_i x hx
      cases hq : Nat.blt k (zk_mxl M) with
      | false => rw [hq] at hs; cases hs
      | true =>
        rw [hq] at hs
        cases hs
        simp only [zk_il] at hnx hd
        subst hnx
        obtain ⟨j, hj⟩ : ∃ j : Nat, (zk_lv sc b lv)[j]? = some (k, .int x) := by
          have hm : (k, Value.int x) ∈ zk_lv sc b lv := by
            clear hlv kk
            induction lv with
            | nil => cases hx
            | cons q r ih =>
              unfold zk_get at hx
              cases hz : Nat.beq q.1 k with
              | true =>
                rw [hz] at hx
                have e1 : q.1 = k := Nat.eq_of_beq_eq_true hz
                have e2 : q.2 = .int x := Option.some.inj hx
                exact List.mem_map.mpr ⟨q, List.mem_cons_self, by rw [e1, e2]; rfl⟩
              | false =>
                rw [hz] at hx
                obtain ⟨z, h1, h2⟩ := List.mem_map.mp (ih hx)
                exact List.mem_map.mpr ⟨z, List.mem_cons_of_mem _ h1, h2⟩
          exact List.getElem?_of_mem hm
        exact lv_iinc hexec hb hd hlv hj rfl (hlt _ hq) (zk_lv_put1 sc b lv k (.int (x + Int32.ofInt n))) kk
    · cases hs
  | iconst n =>
    simp only [zk_loc1] at hs
    cases hs
    simp only [zk_il] at hnx hd
    subst hnx
    exact lv_iconst hexec hb hd rfl (kk ls hlv)
  | lconst n =>
    simp only [zk_loc1] at hs
    cases hs
    simp only [zk_il] at hnx hd
    subst hnx
    exact lv_lconst hexec hb hd rfl (kk ls hlv)
  | bipush n =>
    simp only [zk_loc1] at hs
    cases hs
    simp only [zk_il] at hnx hd
    subst hnx
    exact lv_bipush hexec hb hd rfl (kk ls hlv)
  | sipush n =>
    simp only [zk_loc1] at hs
    cases hs
    simp only [zk_il] at hnx hd
    subst hnx
    exact lv_sipush hexec hb hd rfl (kk ls hlv)
  | ldc k =>
    simp only [zk_loc1] at hs
    split at hs
    · rename_i v hq
      cases hs
      simp only [zk_il] at hnx hd
      subst hnx
      exact lv_ldc hexec hb hown (hts _ (zk_f_ki hq)) hd (kk ls hlv)
    · cases hs
  | ldc_w k =>
    simp only [zk_loc1] at hs
    split at hs
    · rename_i v hq
      cases hs
      simp only [zk_il] at hnx hd
      subst hnx
      exact lv_ldcw hexec hb hown (hts _ (zk_f_ki hq)) hd (kk ls hlv)
    · cases hs
  | ldc2_w k =>
    simp only [zk_loc1] at hs
    split at hs
    · rename_i v hq
      cases hs
      simp only [zk_il] at hnx hd
      subst hnx
      exact lv_ldc2 hexec hb hown (hts _ (zk_f_kl hq)) hd (kk ls hlv)
    · cases hs
  | dup =>
    simp only [zk_loc1] at hs
    split at hs
    · cases hs
      simp only [zk_il] at hnx hd
      subst hnx
      exact lv_dup hexec hb hd rfl (kk ls hlv)
    · cases hs
      simp only [zk_il] at hnx hd
      subst hnx
      exact lv_dup hexec hb hd rfl (kk ls hlv)
    · cases hs
  | pop =>
    simp only [zk_loc1] at hs
    split at hs
    · cases hs
      simp only [zk_il] at hnx hd
      subst hnx
      exact lv_pop hexec hb hd rfl (kk ls hlv)
    · cases hs
      simp only [zk_il] at hnx hd
      subst hnx
      exact lv_pop hexec hb hd rfl (kk ls hlv)
    · cases hs
  | _ => simp only [zk_loc1] at hs; cases hs
theorem zk_s2 (hexec : p.tables.exec = Jvm.exec) (hb : c.code = cc) (hd : decode cc pc = .ok (i, zk_il i pc nx)) (hnx : nx = pc + zk_il i pc nx) (hs : zk_loc2 i nx st = some (pc2, st2))
    (kk : W p l e R s m args below meth c H locs cells slots Q (F0 m pc2 ls (st2.map (zk_v sc b)))) : W p l e R s m args below meth c H locs cells slots Q (F0 m pc ls (st.map (zk_v sc b))) := by
  cases i with
  | iadd =>
    simp only [zk_loc2] at hs
    split at hs
    · cases hs
      simp only [zk_il] at hnx hd
      subst hnx
      exact lv_iadd hexec hb hd kk
    · cases hs
  | isub =>
    simp only [zk_loc2] at hs
    split at hs
    · cases hs
      simp only [zk_il] at hnx hd
      subst hnx
      exact lv_isub hexec hb hd kk
    · cases hs
  | imul =>
    simp only [zk_loc2] at hs
    split at hs
    · cases hs
      simp only [zk_il] at hnx hd
      subst hnx
      exact lv_imul hexec hb hd kk
    · cases hs
  | iand =>
    simp only [zk_loc2] at hs
    split at hs
    · cases hs
      simp only [zk_il] at hnx hd
      subst hnx
      exact lv_iand hexec hb hd kk
    · cases hs
  | ior =>
    simp only [zk_loc2] at hs
    split at hs
    · cases hs
      simp only [zk_il] at hnx hd
      subst hnx
      exact lv_ior hexec hb hd kk
    · cases hs
  | ixor =>
    simp only [zk_loc2] at hs
    split at hs
    · cases hs
      simp only [zk_il] at hnx hd
      subst hnx
      exact lv_ixor hexec hb hd kk
    · cases hs
  | ishl =>
    simp only [zk_loc2] at hs
    split at hs
    · cases hs
      simp only [zk_il] at hnx hd
      subst hnx
      exact lv_ishl hexec hb hd kk
    · cases hs
  | ladd =>
    simp only [zk_loc2] at hs
    split at hs
    · cases hs
      simp only [zk_il] at hnx hd
      subst hnx
      exact lv_ladd hexec hb hd kk
    · cases hs
  | lsub =>
    simp only [zk_loc2] at hs
    split at hs
    · cases hs
      simp only [zk_il] at hnx hd
      subst hnx
      exact lv_lsub hexec hb hd kk
    · cases hs
  | land =>
    simp only [zk_loc2] at hs
    split at hs
    · cases hs
      simp only [zk_il] at hnx hd
      subst hnx
      exact lv_land hexec hb hd kk
    · cases hs
  | lor =>
    simp only [zk_loc2] at hs
    split at hs
    · cases hs
      simp only [zk_il] at hnx hd
      subst hnx
      exact lv_lor hexec hb hd kk
    · cases hs
  | iushr =>
    simp only [zk_loc2] at hs
    split at hs
    · cases hs
      simp only [zk_il] at hnx hd
      subst hnx
      exact lv_iushr hexec hb hd rfl kk
    · cases hs
  | lshl =>
    simp only [zk_loc2] at hs
    split at hs
    · cases hs
      simp only [zk_il] at hnx hd
      subst hnx
      exact lv_lshl hexec hb hd rfl kk
    · cases hs
  | lshr =>
    simp only [zk_loc2] at hs
    split at hs
    · cases hs
      simp only [zk_il] at hnx hd
      subst hnx
      exact lv_lshr hexec hb hd rfl kk
    · cases hs
  | lushr =>
    simp only [zk_loc2] at hs
    split at hs
    · cases hs
      simp only [zk_il] at hnx hd
      subst hnx
      exact lv_lushr hexec hb hd rfl kk
    · cases hs
  | i2l =>
    simp only [zk_loc2] at hs
    split at hs
    · cases hs
      simp only [zk_il] at hnx hd
      subst hnx
      exact lv_i2l hexec hb hd rfl kk
    · cases hs
  | l2i =>
    simp only [zk_loc2] at hs
    split at hs
    · cases hs
      simp only [zk_il] at hnx hd
      subst hnx
      exact lv_l2i hexec hb hd rfl kk
    · cases hs
  | idiv =>
    simp only [zk_loc2] at hs
    split at hs
    · split at hs
      · cases hs
      · rename_i hne
        cases hs
        simp only [zk_il] at hnx hd
        subst hnx
        exact lv_idiv hexec hb hd hne kk
    · cases hs
  | irem =>
    simp only [zk_loc2] at hs
    split at hs
    · split at hs
      · cases hs
      · rename_i hne
        cases hs
        simp only [zk_il] at hnx hd
        subst hnx
        exact lv_irem hexec hb hd hne kk
    · cases hs
  | lcmp =>
    simp only [zk_loc2] at hs
    split at hs
    · cases hs
      simp only [zk_il] at hnx hd
      subst hnx
      exact W.lcmp hexec hb hd kk
    · cases hs
  | _ => simp only [zk_loc2] at hs; cases hs
theorem zk_s3 (hexec : p.tables.exec = Jvm.exec) (hb : c.code = cc) (hd : decode cc pc = .ok (i, zk_il i pc nx)) (hnx : nx = pc + zk_il i pc nx) (htg : zk_tgb i pc tg = true) (hs : zk_loc3 i pc nx tg st = some (pc2, st2))
    (kk : W p l e R s m args below meth c H locs cells slots Q (F0 m pc2 ls (st2.map (zk_v sc b)))) : W p l e R s m args below meth c H locs cells slots Q (F0 m pc ls (st.map (zk_v sc b))) := by
  cases i with
  | goto off =>
    simp only [zk_loc3] at hs
    cases hs
    exact lv_goto hexec hb hd (of_decide_eq_true htg) kk
  | ifCond c9 off =>
    simp only [zk_loc3] at hs
    split at hs
    · rename_i x r
      cases hs
      simp only [zk_il] at hnx hd
      subst hnx
      have ht := of_decide_eq_true htg
      cases c9 with
      | eq =>
        refine lv_if_eq hexec hb hd ht (fun q => ?_) (fun q => ?_)
        · rw [show zk_if .eq x = true from decide_eq_true q] at kk; exact kk
        · rw [show zk_if .eq x = false from decide_eq_false q] at kk; exact kk
      | ne =>
        refine lv_if_ne hexec hb hd ht (fun q => ?_) (fun q => ?_)
        · rw [show zk_if .ne x = true from decide_eq_true q] at kk; exact kk
        · rw [show zk_if .ne x = false from decide_eq_false (fun z => z q)] at kk; exact kk
      | lt =>
        refine lv_if_lt hexec hb hd ht (fun q => ?_) (fun q => ?_)
        · rw [show zk_if .lt x = true from decide_eq_true q] at kk; exact kk
        · rw [show zk_if .lt x = false from decide_eq_false q] at kk; exact kk
      | ge =>
        refine lv_if_ge hexec hb hd ht (fun q => ?_) (fun q => ?_)
        · rw [show zk_if .ge x = true from decide_eq_true q] at kk; exact kk
        · rw [show zk_if .ge x = false from decide_eq_false q] at kk; exact kk
      | gt =>
        refine lv_if_gt hexec hb hd ht (fun q => ?_) (fun q => ?_)
        · rw [show zk_if .gt x = true from decide_eq_true q] at kk; exact kk
        · rw [show zk_if .gt x = false from decide_eq_false q] at kk; exact kk
      | le =>
        refine lv_if_le hexec hb hd ht (fun q => ?_) (fun q => ?_)
        · rw [show zk_if .le x = true from decide_eq_true q] at kk; exact kk
        · rw [show zk_if .le x = false from decide_eq_false q] at kk; exact kk
    · cases hs
  | if_icmp c9 off =>
    simp only [zk_loc3] at hs
    split at hs
    · rename_i y x r
      cases hs
      simp only [zk_il] at hnx hd
      subst hnx
      have ht := of_decide_eq_true htg
      cases c9 with
      | eq =>
        refine lv_icmp_eq hexec hb hd ht (fun q => ?_) (fun q => ?_)
        · rw [show zk_icmp .eq x y = true from decide_eq_true q] at kk; exact kk
        · rw [show zk_icmp .eq x y = false from decide_eq_false q] at kk; exact kk
      | ne =>
        refine lv_icmp_ne hexec hb hd ht (fun q => ?_) (fun q => ?_)
        · rw [show zk_icmp .ne x y = true from decide_eq_true q] at kk; exact kk
        · rw [show zk_icmp .ne x y = false from decide_eq_false (fun z => z q)] at kk; exact kk
      | lt =>
        refine lv_icmp_lt hexec hb hd ht (fun q => ?_) (fun q => ?_)
        · rw [show zk_icmp .lt x y = true from decide_eq_true q] at kk; exact kk
        · rw [show zk_icmp .lt x y = false from decide_eq_false q] at kk; exact kk
      | ge =>
        refine lv_icmp_ge hexec hb hd ht (fun q => ?_) (fun q => ?_)
        · rw [show zk_icmp .ge x y = true from decide_eq_true q] at kk; exact kk
        · rw [show zk_icmp .ge x y = false from decide_eq_false q] at kk; exact kk
      | gt =>
        refine lv_icmp_gt hexec hb hd ht (fun q => ?_) (fun q => ?_)
        · rw [show zk_icmp .gt x y = true from decide_eq_true q] at kk; exact kk
        · rw [show zk_icmp .gt x y = false from decide_eq_false q] at kk; exact kk
      | le =>
        refine lv_icmp_le hexec hb hd ht (fun q => ?_) (fun q => ?_)
        · rw [show zk_icmp .le x y = true from decide_eq_true q] at kk; exact kk
        · rw [show zk_icmp .le x y = false from decide_eq_false q] at kk; exact kk
    · cases hs
  | tableswitch dd lo hi offs =>
    simp only [zk_loc3] at hs
    simp only [zk_tgb, Bool.and_eq_true, decide_eq_true_eq, List.all_eq_true] at htg
    split at hs
    · rename_i x r
      split at hs
      · rename_i hq
        cases hs
        exact lv_tableOut hexec hb hd hq (by have := htg.1; omega) kk
      · rename_i hq
        split at hs
        · rename_i o ho
          cases hs
          have h0 : 0 ≤ o := htg.2 o (Array.mem_toList_iff.mpr (Array.mem_of_getElem? ho))
          exact lv_tableIn hexec hb hd (fun z => hq (Or.inl z)) (fun z => hq (Or.inr z)) ho (by omega) kk
        · cases hs
    · cases hs
  | _ => simp only [zk_loc3] at hs; cases hs
end ZS1
end
section
/-- the heap holds the abstract one, from b + 1 on -/
def zk_R (D : va_G) (aC : FieldType → ClassId) (sc b : Nat) (h : zkH) (H : Heap) : Prop := H.size = b + h.2.length ∧ h.2[0]? = some none ∧ ∀ (k : Nat) (e : zkE), h.2[k]? = some (some e) → va_at D zkCl (b + k, zk_e aC sc b e) H
theorem zk_cell_eq {h : zkH} {a : Nat} {e : zkE} (hc : zk_cell h a = some e) : h.2[a]? = some (some e) := by
  unfold zk_cell at hc
  split at hc
  · rename_i e2 he
    cases hc
    exact he
  · cases hc
theorem zk_R.at {D : va_G} {aC : FieldType → ClassId} {sc b : Nat} {h : zkH} {H : Heap} (hR : zk_R D aC sc b h H) {a : Nat} {e : zkE} (hc : zk_cell h a = some e) : va_at D zkCl (zk_ad sc b a, zk_e aC sc b e) H ∧ zk_ad sc b a = b + a ∧ b < b + a := by
  have h1 := zk_cell_eq hc
  have h0 : a ≠ 0 := by
    intro q
    subst q
    rw [hR.2.1] at h1
    cases h1
  have h2 : zk_ad sc b a = b + a := by unfold zk_ad; rw [if_neg h0]
  exact ⟨by rw [h2]; exact hR.2.2 a e h1, h2, by omega⟩
theorem zk_R.set {D : va_G} {aC : FieldType → ClassId} {sc b : Nat} {h : zkH} {H H1 : Heap} (hR : zk_R D aC sc b h H) {a : Nat} {e0 e : zkE} (hc : zk_cell h a = some e0) (hz : H1.size = H.size) (hat : va_at D zkCl (zk_ad sc b a, zk_e aC sc b e) H1) (ho : ∀ q : Nat, q ≠ zk_ad sc b a → H1[q]? = H[q]?) : zk_R D aC sc b (zk_set h a e) H1 := by
  obtain ⟨-, h2, h3⟩ := hR.at hc
  have h1 := zk_cell_eq hc
  have hl := (List.getElem?_eq_some_iff.mp h1).1
  have h0 : a ≠ 0 := by omega
  rw [h2] at hat ho
  refine ⟨by rw [hz, hR.1]; simp [zk_set], by simp only [zk_set]; rw [List.getElem?_set_ne h0]; exact hR.2.1, fun k e2 hk => ?_⟩
  simp only [zk_set] at hk
  by_cases hka : k = a
  · subst hka
    rw [List.getElem?_set_self hl] at hk
    cases hk
    exact hat
  · rw [List.getElem?_set_ne (Ne.symm hka)] at hk
    exact (hR.2.2 k e2 hk).kept (ho _ (by show b + k ≠ b + a; omega))
theorem zk_R.push {D : va_G} {aC : FieldType → ClassId} {sc b : Nat} {h : zkH} {H H1 : Heap} (hR : zk_R D aC sc b h H) {n : Nat} {e : Option zkE} (hz : H1.size = H.size + 1) (ho : ∀ q : Nat, q < H.size → H1[q]? = H[q]?) (hat : ∀ e1, e = some e1 → va_at D zkCl (H.size, zk_e aC sc b e1) H1) : zk_R D aC sc b (zk_push h n e) H1 := by
  have hpos : 0 < h.2.length := (List.getElem?_eq_some_iff.mp hR.2.1).1
  refine ⟨by rw [hz, hR.1]; simp [zk_push]; omega, by simp only [zk_push]; rw [List.getElem?_append_left hpos]; exact hR.2.1, fun k e2 hk => ?_⟩
  simp only [zk_push] at hk
  by_cases hl : k < h.2.length
  · rw [List.getElem?_append_left hl] at hk
    exact (hR.2.2 k e2 hk).kept (ho _ (by show b + k < H.size; rw [hR.1]; omega))
  · rw [List.getElem?_append_right (by omega)] at hk
    have hz1 : k - h.2.length < 1 := (List.getElem?_eq_some_iff.mp hk).1
    rw [show k - h.2.length = 0 by omega] at hk
    have h5 : e = some e2 := by simpa using hk
    have h6 := hat e2 h5
    rw [hR.1] at h6
    rw [show b + k = b + h.2.length by omega]
    exact h6
theorem zk_ad_len {D : va_G} {aC : FieldType → ClassId} {sc b : Nat} {h : zkH} {H : Heap} (hR : zk_R D aC sc b h H) : zk_ad sc b (zk_len h) = H.size := by
  have hpos : 0 < h.2.length := (List.getElem?_eq_some_iff.mp hR.2.1).1
  unfold zk_ad zk_len
  rw [if_neg (by omega), hR.1]
/-- what a frame of the invocation from s, with the abstract heap h0 there, has done so far -/
def zk_J (D : va_G) (aC : FieldType → ClassId) (sc b : Nat) (s : State) (h0 h : zkH) (H : Heap) (locs : List Loc) (cells slots : Nat) : Prop := zk_R D aC sc b h H ∧ (∀ q : Nat, q ≤ b → H[q]? = s.heap[q]?) ∧ (∀ q ∈ locs, b < q.base) ∧ h.2.length = h0.2.length + cells ∧ h.1 = h0.1 + slots ∧ s.heap.size = b + h0.2.length
theorem zk_J.grown {D : va_G} {aC : FieldType → ClassId} {sc b : Nat} {s : State} {h0 h : zkH} {H : Heap} {locs : List Loc} {cells slots : Nat} (hJ : zk_J D aC sc b s h0 h H locs cells slots) : s.heap.size ≤ H.size := by
  obtain ⟨hR, -, -, h4, -, h6⟩ := hJ
  rw [h6, hR.1]
  omega
theorem zk_J.wr {D : va_G} {aC : FieldType → ClassId} {sc b : Nat} {s : State} {h0 h : zkH} {H H1 : Heap} {locs : List Loc} {cells slots : Nat} (hJ : zk_J D aC sc b s h0 h H locs cells slots) {a k : Nat} {e0 e : zkE} (hc : zk_cell h a = some e0) (hz : H1.size = H.size) (hat : va_at D zkCl (zk_ad sc b a, zk_e aC sc b e) H1) (ho : ∀ q : Nat, q ≠ zk_ad sc b a → H1[q]? = H[q]?) : zk_J D aC sc b s h0 (zk_set h a e) H1 (locs ++ [⟨zk_ad sc b a, k⟩]) cells slots := by
  obtain ⟨hR, h1, h2, h4, h5, h6⟩ := hJ
  obtain ⟨-, g2, g3⟩ := hR.at hc
  refine ⟨hR.set hc hz hat ho, fun q hq => (ho q (by rw [g2]; omega)).trans (h1 q hq), fun q hq => ?_, by simp only [zk_set, List.length_set]; exact h4, h5, h6⟩
  rcases List.mem_append.mp hq with z | z
  · exact h2 q z
  · rw [List.mem_singleton.mp z]
    show b < zk_ad sc b a
    rw [g2]; exact g3
theorem zk_J.nw {D : va_G} {aC : FieldType → ClassId} {sc b : Nat} {s : State} {h0 h : zkH} {H H1 : Heap} {locs : List Loc} {cells slots n : Nat} {e : Option zkE} (hJ : zk_J D aC sc b s h0 h H locs cells slots) (hz : H1.size = H.size + 1) (ho : ∀ q : Nat, q < H.size → H1[q]? = H[q]?) (hat : ∀ e1, e = some e1 → va_at D zkCl (H.size, zk_e aC sc b e1) H1) : zk_J D aC sc b s h0 (zk_push h n e) H1 locs (cells + 1) (slots + n) := by
  obtain ⟨hR, h1, h2, h4, h5, h6⟩ := hJ
  have hpos : 0 < h.2.length := (List.getElem?_eq_some_iff.mp hR.2.1).1
  refine ⟨hR.push hz ho hat, fun q hq => (ho q (by rw [hR.1]; omega)).trans (h1 q hq), h2, by simp only [zk_push, List.length_append, List.length_singleton]; omega, by simp only [zk_push]; omega, h6⟩
abbrev zkTy (aC : FieldType → ClassId) : List (ClassId × FieldType) := [(aC .int, .int), (aC .long, .long), (aC .boolean, .boolean)]
theorem zk_in {i : Int32} {n : Nat} (h1 : 0 ≤ i) (h2 : i.toNatClampNeg < n) : vp_in i n := fun q => by
  rcases q with q | q
  · exact absurd q (Int32.not_lt.mpr h1)
  · omega
theorem zk_fit_ok {sc b : Nat} {ty : FieldType} {v : Value} (h : zk_fit ty v = true) : narrow ty (zk_v sc b v) = zk_v sc b v ∧ fits ty (zk_v sc b v) = true := by
  cases ty <;> cases v <;> first | exact ⟨rfl, rfl⟩ | cases h
theorem zk_v_def (sc b : Nat) (ty : FieldType) : zk_v sc b (defaultValue ty) = defaultValue ty := by cases ty <;> rfl
section ZS4
variable {p : Program} {l : Launch} {e : Env} {R : Room} {s : State} {m : MethodId} {args : Array Value} {below : List Frame} {meth : Method} {c : Code} {H : Heap} {locs : List Loc} {cells slots : Nat} {Q : State → Prop}
variable {cc : ByteArray} {pc nx : Nat} {ls : Array Slot} {sc b M : Nat} {st st2 : List Value} {pc2 : Nat} {i : Instr} {h0 h h2 : zkH} {D : va_G} {aC : FieldType → ClassId} {X : zkX}
theorem zk_P1 {D : va_G} {a : Nat} {ex : va_E} {H : Heap} (hat : va_at D zkCl (a, ex) H) : va_P D zkCl [(a, ex)] H := fun k q hk => by
  cases k with
  | zero => cases hk; exact hat
  | succ k => simp at hk
/-- an element is written -/
theorem zk_arrset {cA : ClassId} {n : Nat} {f : Nat → Value} {k : Nat} {v : Value} {a : vp_A} (ha : vp_cell cA a = arrV cA n (updV f k v)) : (arrV cA n f).setSlot k v = vp_cell cA a := by rw [ha, arrV_store]
theorem zk_s4 (hexec : p.tables.exec = Jvm.exec) (hb : c.code = cc) (hown : s.vm.findClass (zk_own M) = some m.cls) (hname : meth.name = (zk_yn M).name) (hts : ∀ w ∈ zkT, w.before args s = true) (hd : decode cc pc = .ok (i, zk_il i pc nx)) (hnx : nx = pc + zk_il i pc nx) (hK : va_K D zkCl (zkTy aC) s) (hX : va_X sc X.1 X.2 s s.heap) (hsc : sc ≤ b)
    (hJ : zk_J D aC sc b s h0 h H locs cells slots) (hs : zk_loc4 X M i nx st h = some (pc2, st2, h2)) (hrc : h2.2.length ≤ h0.2.length + R.cells) (hrs : h2.1 ≤ h0.1 + R.slots)
    (kk : ∀ (H2 : Heap) (locs2 : List Loc) (cells2 slots2 : Nat), zk_J D aC sc b s h0 h2 H2 locs2 cells2 slots2 → W p l e R s m args below meth c H2 locs2 cells2 slots2 Q (F0 m pc2 ls (st2.map (zk_v sc b)))) : W p l e R s m args below meth c H locs cells slots Q (F0 m pc ls (st.map (zk_v sc b))) := by
  have hR := hJ.1
  cases i with
  | getfield k =>
    simp only [zk_loc4] at hs
    split at hs
    · rename_i a r
      split at hs
      · rename_i ci fs c2 j hc hf
        cases hq : Nat.beq ci c2 with
        | false => rw [hq] at hs; cases hs
        | true =>
          rw [hq] at hs
          have e1 : ci = c2 := Nat.eq_of_beq_eq_true hq
          subst e1
          simp only [cond_true] at hs
          split at hs
          · rename_i v hv
            cases hs
            simp only [zk_il] at hnx hd
            subst hnx
            obtain ⟨g1, g2, g3⟩ := hR.at hc
            obtain ⟨w, hw, hjN, hdecl, -, hlink⟩ := zk_f_fl hf
            have hsame : ∀ x, s.fieldFound? (w.2.1 j).1 (w.2.1 j).2.1 (w.2.1 j).2.2.1 = some x → s.fieldFound? w.1 (w.2.1 j).2.1 (w.2.1 j).2.2.1 = some x := by
              rw [hdecl]; exact fun x h => h
            have hv2 : (fs.map (zk_v sc b))[j]? = some (zk_v sc b v) := by rw [List.getElem?_map, hv]; rfl
            rcases hlink with hl | ⟨host, hl⟩
            · exact va_get (D := D) (ci := ci) (C := w.1) (T := w.2.1) (N := w.2.2) hexec hb hts (zk_f_lay hw) hown hK (zk_P1 g1) 0 rfl hw j hjN (hts _ hl) hsame hv2 hd (kk H locs cells slots hJ)
            · exact va_getN (D := D) (ci := ci) (C := w.1) (T := w.2.1) (N := w.2.2) hexec hb hts (zk_f_lay hw) hown hK (zk_P1 g1) 0 rfl hw j hjN (hts _ hl) hsame hv2 hd (kk H locs cells slots hJ)
          · cases hs
      · cases hs
    · cases hs
  | iaload =>
    simp only [zk_loc4] at hs
    split at hs
    · rename_i x a r
      split at hs
      · rename_i ex hc
        split at hs
        · rename_i v hv
          cases hs
          simp only [zk_il] at hnx hd
          subst hnx
          cases a with
          | zero =>
            have hc : some (Sum.inl (FieldType.int, X.1, Sum.inl X.2)) = some ex := hc
            cases hc
            simp only [zk_aldi] at hv
            split at hv
            · rename_i hq
              cases hv
              have hz : sc < s.heap.size := by
                obtain ⟨scr, z1, -⟩ := hX
                exact (Array.getElem?_eq_some_iff.mp z1).1
              exact va_sld (A := fun q => b < q) (H0 := s.heap) hexec hb hX hz (by omega) ⟨hJ.grown, fun q z1 z2 => hJ.2.1 q (Nat.not_lt.mp z2), hJ.2.2.1⟩ (zk_in hq.1 hq.2) hd (kk H locs cells slots hJ)
            · cases hv
          | succ a =>
            have hc : zk_cell h (a + 1) = some ex := hc
            obtain ⟨g1, g2, g3⟩ := hR.at hc
            unfold zk_aldi at hv
            split at hv
            · rename_i n f
              split at hv
              · rename_i hq
                cases hv
                exact va_iald hexec hb hK (zk_P1 g1) 0 0 rfl rfl (zk_in hq.1 hq.2) hd (kk H locs cells slots hJ)
              · cases hv
            · cases hv
        · cases hs
      · cases hs
    · cases hs
  | laload =>
    simp only [zk_loc4] at hs
    split at hs
    · rename_i x a r
      split at hs
      · rename_i ex hc
        split at hs
        · rename_i v hv
          cases hs
          simp only [zk_il] at hnx hd
          subst hnx
          obtain ⟨g1, g2, g3⟩ := hR.at hc
          unfold zk_aldl at hv
          split at hv
          · rename_i n f
            split at hv
            · rename_i hq
              cases hv
              exact va_lald hexec hb hK (zk_P1 g1) 0 1 rfl rfl (zk_in hq.1 hq.2) hd (kk H locs cells slots hJ)
            · cases hv
          · cases hv
        · cases hs
      · cases hs
    · cases hs
  | baload =>
    simp only [zk_loc4] at hs
    split at hs
    · rename_i x a r
      split at hs
      · rename_i ex hc
        split at hs
        · rename_i v hv
          cases hs
          simp only [zk_il] at hnx hd
          subst hnx
          obtain ⟨g1, g2, g3⟩ := hR.at hc
          unfold zk_aldz at hv
          split at hv
          · rename_i n f
            split at hv
            · rename_i hq
              cases hv
              exact va_zald hexec hb hK (zk_P1 g1) 0 2 rfl rfl (zk_in hq.1 hq.2) hd (kk H locs cells slots hJ)
            · cases hv
          · cases hv
        · cases hs
      · cases hs
    · cases hs
  | iastore =>
    simp only [zk_loc4] at hs
    split at hs
    · rename_i v x a r
      split at hs
      · rename_i ex hc
        split at hs
        · rename_i e2 hv
          cases hs
          simp only [zk_il] at hnx hd
          subst hnx
          obtain ⟨g1, g2, g3⟩ := hR.at hc
          unfold zk_asti at hv
          split at hv
          · rename_i n f
            split at hv
            · rename_i hq
              cases hv
              refine W.iast hexec hb g1 ((hK.2 0 _ rfl).1 n (fun j => .int (f j))) (fun q => by cases q) (by show ¬ (x < 0 ∨ (arrV _ _ _).slots.size ≤ _); rw [arrV_size]; exact zk_in hq.1 hq.2) rfl rfl hd fun H1 e1 z oq => ?_
              refine kk H1 _ cells slots (hJ.wr (e := .inl (.int, n, .inl (upd f x.toNatClampNeg v))) hc z ?_ oq)
              show H1[zk_ad sc b a]? = some (vp_cell (aC .int) (n, .inl (upd f x.toNatClampNeg v)))
              rw [e1]
              exact congrArg some (zk_arrset (by rw [vp_cell_i]; congr 1; funext q; by_cases hz : q = x.toNatClampNeg <;> simp [updV, upd, hz]))
            · cases hv
          · cases hv
        · cases hs
      · cases hs
    · cases hs
  | lastore =>
    simp only [zk_loc4] at hs
    split at hs
    · rename_i v x a r
      split at hs
      · rename_i ex hc
        split at hs
        · rename_i e2 hv
          cases hs
          simp only [zk_il] at hnx hd
          subst hnx
          obtain ⟨g1, g2, g3⟩ := hR.at hc
          unfold zk_astl at hv
          split at hv
          · rename_i n f
            split at hv
            · rename_i hq
              cases hv
              refine W.last hexec hb g1 ((hK.2 1 _ rfl).1 n (fun j => .long (f j))) (fun q => by cases q) (by show ¬ (x < 0 ∨ (arrV _ _ _).slots.size ≤ _); rw [arrV_size]; exact zk_in hq.1 hq.2) rfl rfl hd fun H1 e1 z oq => ?_
              refine kk H1 _ cells slots (hJ.wr (e := .inl (.long, n, .inr (.inl (vp_updL f x.toNatClampNeg v)))) hc z ?_ oq)
              show H1[zk_ad sc b a]? = some (vp_cell (aC .long) (n, .inr (.inl (vp_updL f x.toNatClampNeg v))))
              rw [e1]
              exact congrArg some (zk_arrset (by rw [vp_cell_l]; congr 1; funext q; by_cases hz : q = x.toNatClampNeg <;> simp [updV, vp_updL, hz]))
            · cases hv
          · cases hv
        · cases hs
      · cases hs
    · cases hs
  | bastore =>
    simp only [zk_loc4] at hs
    split at hs
    · rename_i v x a r
      split at hs
      · rename_i ex hc
        split at hs
        · rename_i e2 hv
          cases hs
          simp only [zk_il] at hnx hd
          subst hnx
          obtain ⟨g1, g2, g3⟩ := hR.at hc
          unfold zk_astz at hv
          split at hv
          · rename_i n f
            split at hv
            · rename_i hq
              cases hv
              refine W.zast hexec hb g1 ((hK.2 2 _ rfl).1 n (fun j => .int (f j))) (fun q => by cases q) (by show ¬ (x < 0 ∨ (arrV _ _ _).slots.size ≤ _); rw [arrV_size]; exact zk_in hq.1 hq.2) rfl rfl hd fun H1 e1 z oq => ?_
              refine kk H1 _ cells slots (hJ.wr (e := .inl (.boolean, n, .inl (upd f x.toNatClampNeg (vp_nar .boolean v)))) hc z ?_ oq)
              show H1[zk_ad sc b a]? = some (vp_cell (aC .boolean) (n, .inl (upd f x.toNatClampNeg (vp_nar .boolean v))))
              rw [e1]
              exact congrArg some (zk_arrset (by rw [vp_cell_i]; congr 1; funext q; by_cases hz : q = x.toNatClampNeg <;> simp [updV, upd, hz]; rfl))
            · cases hv
          · cases hv
        · cases hs
      · cases hs
    · cases hs
  | putfield k =>
    simp only [zk_loc4] at hs
    split at hs
    · rename_i v a r
      split at hs
      · rename_i ci fs c2 j hc hf
        cases hq : (Nat.beq ci c2 && zk_fit (zk_fty ci j) v && Nat.blt j fs.length && zk_fin M ci j) with
        | false => rw [hq] at hs; cases hs
        | true =>
          rw [hq] at hs
          cases hs
          simp only [zk_il] at hnx hd
          subst hnx
          simp only [Bool.and_eq_true] at hq
          obtain ⟨⟨⟨hq1, hq2⟩, hq3⟩, hq4⟩ := hq
          have e1 : ci = c2 := Nat.eq_of_beq_eq_true hq1
          subst e1
          have hl : j < (fs.map (zk_v sc b)).length := by rw [List.length_map]; exact Nat.le_of_ble_eq_true hq3
          obtain ⟨hn, hfit⟩ := zk_fit_ok (sc := sc) (b := b) hq2
          obtain ⟨g1, g2, g3⟩ := hR.at hc
          obtain ⟨w, hw, hjN, hdecl, hty, hlink⟩ := zk_f_fl hf
          have hsame : ∀ x, s.fieldFound? (w.2.1 j).1 (w.2.1 j).2.1 (w.2.1 j).2.2.1 = some x → s.fieldFound? w.1 (w.2.1 j).2.1 (w.2.1 j).2.2.1 = some x := by
            rw [hdecl]; exact fun x h => h
          have hap := va_apart (own := zk_own M) (C := w.1) (T := w.2.1) (N := w.2.2) hts (zk_f_lay hw) (zk_fty ci) (zk_f_ty hw) (zk_f_nm hw) hK hw
          obtain ⟨w2, h1, cell, q1, q2, q3, q4⟩ := g1
          have hr : w2 = w := Option.some.inj (h1.symm.trans hw)
          subst hr
          obtain ⟨hS, hfc, kC, hkC, hkind⟩ := hK.1 ci _ hw
          obtain ⟨cf, kf, fi, f, hi, hsl⟩ := hS j hjN
          have hlay := hts _ (zk_f_lay hw _ (u_in_lay hjN))
          have hst := (u_facts hfc hkC (u_lays hts (zk_f_lay hw) hjN) hi).1
          have fin : ∀ H' : Heap, H'[zk_ad sc b a]? = some (cell.setSlot f.slot (zk_v sc b v)) → H'.size = H.size → (∀ q, q ≠ zk_ad sc b a → H'[q]? = H[q]?) → W p l e R s m args below meth c H' (locs ++ [⟨zk_ad sc b a, f.slot⟩]) cells slots Q (F0 m (pc + 3) ls (st2.map (zk_v sc b))) := by
            intro H' e1 e2 e3
            rw [hsl] at e1
            refine kk H' _ cells slots (hJ.wr (e := .inr (ci, fs.set j v)) hc e2 ?_ e3)
            refine ⟨_, hw, ?_⟩
            have := t_OB.to (V' := vp_V ((fs.set j v).map (zk_v sc b))) (⟨_, e1, q2, q3, t_set q4 hap hjN (zk_v sc b v)⟩ : t_OB (zk_ad sc b a) (D.1 ci) w2.2.2 (D.2 ci) H' (updV (vp_V (fs.map (zk_v sc b))) j (zk_v sc b v))) (fun x _ => by rw [List.map_set]; exact vp_updV_set hl _ x)
            exact this
          cases hfn : (w2.2.1 j).2.2.2 with
          | false =>
            unfold u_lay at hlay
            rw [if_neg (by rw [hfn]; decide)] at hlay
            have h6 := u_store hfc hkC hkind hlay hi hty hn hfit
            rcases hlink with hlk | ⟨host, hlk⟩
            · exact W.putK hexec hb (f := f) ⟨hown, hts _ hlk, ⟨_, _, _, hsame _ hi⟩, hst⟩ (by rw [q2]; exact h6) q1 q3 (by rw [hsl]; exact k2_hasslot (q4 j hjN)) rfl rfl hd fin
            · exact va_WputK hexec hb (f := f) hown (hts _ hlk) (hsame _ hi) hst (by rw [q2]; exact h6) q1 q3 (by rw [hsl]; exact k2_hasslot (q4 j hjN)) rfl rfl hd fin
          | true =>
            obtain ⟨hy1, hy2, hy3⟩ := zk_f_fin hw hq4 hfn hf
            unfold u_lay at hlay
            rw [if_pos hfn] at hlay
            have hcf : m.cls = cf := by
              obtain ⟨_, _, c', _, _, _, -, -, hf', -, -, -, hown2, -⟩ := Cond.laysFinal_spec hlay
              have e1 : c' = cf := by have := hi.symm.trans hf'; simp at this; exact this.1.symm
              rw [hy2] at hown2
              rw [← e1]; exact Option.some.inj (hown.symm.trans hown2)
            have h6 := u_fits hfc hkC hkind (Or.inr hlay) hi hty hn hfit
            exact W.putFinK hexec hb hown (hts _ hy3) (hsame _ hi) hst hcf (hname.trans hy1) (by rw [q2]; exact h6) q1 q3 (by rw [hsl]; exact k2_hasslot (q4 j hjN)) rfl rfl hd fin
      · cases hs
    · cases hs
  | arraylength =>
    simp only [zk_loc4] at hs
    split at hs
    · rename_i a r
      split at hs
      · rename_i ex hc
        split at hs
        · rename_i v hv
          cases hs
          simp only [zk_il] at hnx hd
          subst hnx
          cases a with
          | zero =>
            have hc : some (Sum.inl (FieldType.int, X.1, Sum.inl X.2)) = some ex := hc
            cases hc
            simp only [zk_alen] at hv
            cases hv
            have hz : sc < s.heap.size := by
              obtain ⟨scr, z1, -⟩ := hX
              exact (Array.getElem?_eq_some_iff.mp z1).1
            exact va_slen (A := fun q => b < q) (H0 := s.heap) hexec hb hX hz (Nat.not_lt.mpr hsc) ⟨hJ.grown, fun q z1 z2 => hJ.2.1 q (Nat.not_lt.mp z2), hJ.2.2.1⟩ hd (kk H locs cells slots hJ)
          | succ a =>
            have hc : zk_cell h (a + 1) = some ex := hc
            obtain ⟨g1, g2, g3⟩ := hR.at hc
            unfold zk_alen at hv
            split at hv
            · cases hv
              exact va_alen hexec hb hK (zk_P1 g1) 0 0 rfl rfl rfl hd (kk H locs cells slots hJ)
            · cases hv
              exact va_alen hexec hb hK (zk_P1 g1) 0 2 rfl rfl rfl hd (kk H locs cells slots hJ)
            · cases hv
              exact va_alen hexec hb hK (zk_P1 g1) 0 1 rfl rfl rfl hd (kk H locs cells slots hJ)
            · cases hv
        · cases hs
      · cases hs
    · cases hs
  | newarray t =>
    simp only [zk_loc4] at hs
    split at hs
    · rename_i x r
      split at hs
      · rename_i ex hx
        split at hs
        · rename_i hq
          cases hs
          simp only [zk_il] at hnx hd
          subst hnx
          have hlen : (zk_push h x.toNatClampNeg (some ex)).2.length = h.2.length + 1 := by simp [zk_push]
          have hsl2 : (zk_push h x.toNatClampNeg (some ex)).1 = h.1 + x.toNatClampNeg := rfl
          have hc1 : cells + 1 ≤ R.cells := by have := hJ.2.2.2.1; omega
          have hc2 : slots + x.toNatClampNeg ≤ R.slots := by have := hJ.2.2.2.2.1; omega
          have fin : ∀ (H' : Heap) (cA : ClassId), H'[H.size]? = some (arrV cA x.toNatClampNeg (fun _ => defaultValue (newarray.typeOf t))) → H'.size = H.size + 1 → (∀ q, q < H.size → H'[q]? = H[q]?) → ArrOfT s cA (newarray.typeOf t) → s.vm.findClass ("[" ++ (newarray.typeOf t).toString) = some cA → W p l e R s m args below meth c H' locs (cells + 1) (slots + x.toNatClampNeg) Q (F0 m (pc + 2) ls (.ref H.size :: r.map (zk_v sc b))) := by
            intro H' cA e1 z1 o1 hAr hNm
            have key := kk H' locs (cells + 1) (slots + x.toNatClampNeg) (hJ.nw (e := some ex) z1 o1 (fun e1' he => ?_))
            · rw [List.map_cons, show zk_v sc b (.ref (zk_len h)) = .ref H.size from congrArg Value.ref (zk_ad_len hR)] at key
              exact key
            · cases he
              cases t with
              | int =>
                cases hx
                have e5 : cA = aC .int := Option.some.inj (hNm.symm.trans (hK.2 0 _ rfl).2)
                subst e5
                exact e1
              | long =>
                cases hx
                have e5 : cA = aC .long := Option.some.inj (hNm.symm.trans (hK.2 1 _ rfl).2)
                subst e5
                exact e1
              | boolean =>
                cases hx
                have e5 : cA = aC .boolean := Option.some.inj (hNm.symm.trans (hK.2 2 _ rfl).2)
                subst e5
                exact e1
              | _ => cases hx
          have hbytes : x.toNatClampNeg * componentBytes (newarray.typeOf t) ≤ 536870912 := by
            have h8 : componentBytes (newarray.typeOf t) ≤ 8 := by cases t <;> decide
            calc x.toNatClampNeg * componentBytes (newarray.typeOf t) ≤ 1000000 * 8 := Nat.mul_le_mul hq.2 h8
              _ ≤ 536870912 := by decide
          have harr : (Cond.arrayClass (newarray.typeOf t)).before args s = true := by
            cases t with
            | int => exact hts _ zk_f_aI
            | long => exact hts _ zk_f_aL
            | boolean => exact hts _ zk_f_aB
            | _ => cases hx
          exact va_newaK hexec hb harr rfl hd rfl (Int32.not_lt.mpr hq.1) rfl hbytes hc1 hc2 rfl fin
        · cases hs
      · cases hs
    · cases hs
  | new k =>
    simp only [zk_loc4] at hs
    split at hs
    · rename_i ci hc
      cases hs
      simp only [zk_il] at hnx hd
      subst hnx
      obtain ⟨w, hw, hl1, hl2, hl3, hdf⟩ := zk_f_cl hc
      have hlen : (zk_push h (zk_df ci).length (some (.inr (ci, zk_df ci)))).2.length = h.2.length + 1 := by simp [zk_push]
      have hsl2 : (zk_push h (zk_df ci).length (some (.inr (ci, zk_df ci)))).1 = h.1 + (zk_df ci).length := rfl
      have hN : (zk_df ci).length = w.2.2 := hdf.1
      have hc1 : cells + 1 ≤ R.cells := by have := hJ.2.2.2.1; omega
      have hc2 : slots + w.2.2 ≤ R.slots := by have := hJ.2.2.2.2.1; omega
      have hKn := hK.1 ci _ hw
      refine W.newcK hexec hb hown (hts _ hl1) (hts _ hl2) (hts _ hl3) rfl hd hc1 hc2 hKn.2.1 rfl fun H1 kC hkC e1 z1 o1 => ?_
      have key := kk H1 locs (cells + 1) (slots + (zk_df ci).length) (hJ.nw (e := some (.inr (ci, zk_df ci))) z1 o1 (fun e1' he => ?_))
      · rw [List.map_cons, show zk_v sc b (.ref (zk_len h)) = .ref H.size from congrArg Value.ref (zk_ad_len hR), hN] at key
        exact key
      · cases he
        exact ⟨_, hw, (u_born (zk_fty ci) hts (zk_f_lay hw) hKn hkC e1 (zk_f_ty hw)).to (fun j hj => by rw [vp_V, List.getD_eq_getElem?_getD, List.getElem?_map, hdf.2 j hj]; exact (zk_v_def sc b _).symm)⟩
    · cases hs
  | _ => simp only [zk_loc4] at hs; cases hs
end ZS4
section ZS5
variable {p : Program} {l : Launch} {e : Env} {R : Room} {s : State} {m : MethodId} {args : Array Value} {below : List Frame} {meth : Method} {c : Code} {H : Heap} {locs : List Loc} {cells slots : Nat} {Q : State → Prop}
variable {cc : ByteArray} {pc nx : Nat} {ls : Array Slot} {sc b M : Nat} {st st2 : List Value} {pc2 : Nat} {i : Instr} {h0 h h2 : zkH} {D : va_G} {aC : FieldType → ClassId} {X : zkX}
theorem zk_catsum (sc b : Nat) (r : List Value) : ((r.map (zk_v sc b)).map fun v => v.category).sum = (r.map Value.category).sum := by
  rw [List.map_map]
  congr 1
  apply List.map_congr_left
  intro v _
  exact zk_v_cat sc b v
theorem zk_s5 (hexec : p.tables.exec = Jvm.exec) (hb : c.code = cc) (hml : c.maxLocals = ls.size) (hown : s.vm.findClass (zk_own M) = some m.cls) (hts : ∀ w ∈ zkT, w.before args s = true) (hd : decode cc pc = .ok (i, zk_il i pc nx)) (hnx : nx = pc + zk_il i pc nx) (hK : va_K D zkCl (zkTy aC) s)
    (hJ : zk_J D aC sc b s h0 h H locs cells slots) (hs : zk_loc5 M i nx st h = some (pc2, st2, h2)) (hrf : 1 ≤ R.frames) (hrl : 60 ≤ R.locals)
    (kk : ∀ (H2 : Heap) (locs2 : List Loc) (cells2 slots2 : Nat), zk_J D aC sc b s h0 h2 H2 locs2 cells2 slots2 → W p l e R s m args below meth c H2 locs2 cells2 slots2 Q (F0 m pc2 ls (st2.map (zk_v sc b)))) : W p l e R s m args below meth c H locs cells slots Q (F0 m pc ls (st.map (zk_v sc b))) := by
  have hR := hJ.1
  cases i with
  | invokespecial k =>
    simp only [zk_loc5] at hs
    split at hs
    · rename_i q1 q2 q3 hm
      split at hs
      · rename_i a r
        cases hq : Nat.ble ((r.map Value.category).sum) 8 with
        | false => rw [hq] at hs; cases hs
        | true =>
          rw [hq] at hs
          cases hs
          simp only [zk_il] at hnx hd
          subst hnx
          have hsum := Nat.le_of_ble_eq_true hq
          obtain ⟨g1, g2, g3⟩ := zk_f_oi hm
          refine W.objInit hexec hb hown (hts _ g1) (hts _ g2) (hts _ g3) rfl (by rw [hml]) rfl hd hrf ?_ (kk H locs cells slots hJ)
          show 2 * 0 + ((st2.map (zk_v sc b)).map fun v => v.category).sum + 12 ≤ R.locals
          rw [zk_catsum]
          omega
      · cases hs
    · cases hs
  | invokestatic k =>
    simp only [zk_loc5] at hs
    split at hs
    · rename_i q1 q2 q3 hm
      split at hs
      · rename_i n dp dd sp a r
        split at hs
        · rename_i n0 f n1 g hc0 hc1
          split at hs
          · rename_i hq
            cases hs
            simp only [zk_il] at hnx hd
            subst hnx
            obtain ⟨⟨h1, h2', h3⟩, h4, h5, h6⟩ := hq
            obtain ⟨w1, w2, w3, w4⟩ := zk_f_ac hm
            obtain ⟨a1, a2, a3⟩ := hR.at hc0
            obtain ⟨b1, b2', b3⟩ := hR.at hc1
            have nn : ∀ z : Int32, 0 ≤ z → z.toInt = (z.toNatClampNeg : Int) := by
              intro z hz
              have hz0 : (0 : Int) ≤ z.toInt := by simpa using Int32.le_iff_toInt_le.mp hz
              show z.toInt = ((z.toInt.toNat : Nat) : Int)
              omega
            intro T hT X0
            have e0 : H[zk_ad sc b a]? = some (vp_cell (aC .long) (n0, .inr (.inl f))) := a1
            have e1 : H[zk_ad sc b dd]? = some (vp_cell (aC .long) (n1, .inr (.inl g))) := b1
            obtain ⟨-, k0, hk0, cm0, hkk0⟩ := (hK.2 1 _ rfl).1 n0 (fun j => .long (f j))
            obtain ⟨-, k1, hk1, cm1, hkk1⟩ := (hK.2 1 _ rfl).1 n1 (fun j => .long (g j))
            obtain ⟨vm', X', step⟩ := X0.arraycopy hexec hown (hts _ w1) (hts _ w2) (hts _ w3) (hts _ w4) (src := zk_ad sc b a) (dst := zk_ad sc b dd) (cs := vp_cell (aC .long) (n0, .inr (.inl f))) (cd := vp_cell (aC .long) (n1, .inr (.inl g))) (srcPos := sp) (destPos := dp) (n := n) (by rw [hT]; exact e0) (by rw [hT]; exact e1)
              (fun _ h => by cases h) (fun _ h => by cases h) (fun h => by cases h) (fun h => by cases h) hk0 hk1 hkk0 hkk1 rfl (Int32.not_lt.mpr h1) (Int32.not_lt.mpr h2') (Int32.not_lt.mpr h3)
              (by rw [nn sp h1, nn n h3]; show ¬ _ > ((arrV (aC .long) n0 (fun j => .long (f j))).slots.size : Int); rw [arrV_size]; omega)
              (by rw [nn dp h2', nn n h3]; show ¬ _ > ((arrV (aC .long) n1 (fun j => .long (g j))).slots.size : Int); rw [arrV_size]; omega)
              (fun vm₁ _ i hi => by
                have e : (vp_cell (aC .long) (n0, .inr (.inl f))).slots.getD (sp.toNatClampNeg + i) .null = .long (f (sp.toNatClampNeg + i)) := by
                  show (arrV (aC .long) n0 (fun j => .long (f j))).slots.getD _ _ = _
                  rw [Array.getD_eq_getD_getElem?, arrV_read _ _ (by omega)]
                  rfl
                refine ⟨?_, ?_⟩
                · rw [e]; rfl
                · rw [e]; exact trivial)
              (g := F0 m pc ls (.int n :: .int dp :: .ref (zk_ad sc b dd) :: .int sp :: .ref (zk_ad sc b a) :: st2.map (zk_v sc b))) rfl (by rw [hml]) (rest := st2.map (zk_v sc b)) rfl (by rw [hb]; exact hd) hrf (by
                show 2 * 0 + ((st2.map (zk_v sc b)).map fun v => v.category).sum + (nativeFrameWords "java/lang/System" "arraycopy" 5 + 11) ≤ R.locals
                rw [zk_catsum]
                have : nativeFrameWords "java/lang/System" "arraycopy" 5 ≤ 40 := by decide
                omega)
            have e9 : copied (vp_cell (aC .long) (n0, .inr (.inl f))) (vp_cell (aC .long) (n1, .inr (.inl g))) sp dp n = vp_cell (aC .long) (n1, .inr (.inl (va_cpy f g sp.toNatClampNeg dp.toNatClampNeg n.toNatClampNeg))) := va_copied (fun z => .long z) (aC .long) (aC .long) f g h4
            rw [e9] at X' step
            have hl : zk_ad sc b dd < H.size := (Array.getElem?_eq_some_iff.mp e1).1
            have hheap : ((T.setVm vm').setCell (zk_ad sc b dd) (vp_cell (aC .long) (n1, .inr (.inl (va_cpy f g sp.toNatClampNeg dp.toNatClampNeg n.toNatClampNeg))))).heap = H.setIfInBounds (zk_ad sc b dd) (vp_cell (aC .long) (n1, .inr (.inl (va_cpy f g sp.toNatClampNeg dp.toNatClampNeg n.toNatClampNeg)))) := by rw [← hT]; rfl
            have oq : ∀ q : Nat, q ≠ zk_ad sc b dd → (H.setIfInBounds (zk_ad sc b dd) (vp_cell (aC .long) (n1, .inr (.inl (va_cpy f g sp.toNatClampNeg dp.toNatClampNeg n.toNatClampNeg)))))[q]? = H[q]? := fun q hq => by simp [Array.getElem?_setIfInBounds, Ne.symm hq]
            have hJ1 := hJ.wr (k := 0) (e := .inl (.long, n1, .inr (.inl (va_cpy f g sp.toNatClampNeg dp.toNatClampNeg n.toNatClampNeg)))) hc1 (by simp) (show (H.setIfInBounds (zk_ad sc b dd) _)[zk_ad sc b dd]? = some _ by simp [Array.getElem?_setIfInBounds, hl]) oq
            obtain ⟨t, z1, z2⟩ := kk _ _ cells slots ⟨hJ1.1, hJ1.2.1, fun q hq => by
                rcases List.mem_append.mp hq with z | z
                · exact hJ.2.2.1 q z
                · obtain ⟨y, -, hy⟩ := List.mem_map.mp z
                  rw [← hy]
                  show b < zk_ad sc b dd
                  rw [b2']; exact b3, hJ1.2.2.2⟩ _ hheap X'
            exact ⟨t, step t z1, z2⟩
          · cases hs
        · cases hs
      · cases hs
    · cases hs
  | _ => simp only [zk_loc5] at hs; cases hs
end ZS5
end
section
section ZS6
variable {p : Program} {l : Launch} {e : Env} {R : Room} {s : State} {m : MethodId} {args : Array Value} {below : List Frame} {meth : Method} {c : Code} {T : State} {locs : List Loc} {cells slots : Nat}
/-- a callee by its free contract, whatever its end: the caller stands again -/
theorem zk_cb (X : Stand p l e R s m args below meth c T locs cells slots) {y : MethodName} {S : Spec} {P : Array Value → State → Prop} {Qf : Array Value → State → Outcome → State → Prop} {Lp : Outcome → List Loc → Prop} {k n len : Nat}
    (hM : MetFree l y S P (fun _ _ _ _ _ => True) Qf) (hQ : ∀ a first o t, Qf a first o t → ∃ L, first.WarmedH t.vm ∧ first.sameButNew ({ t with vm := first.vm } : State) L k n ∧ Lp o L)
    {g : JFrame} {ig : Instr} {mk : MethodId} {a : Array Value} {methY : Method} {cY : Code} {kY : Class} {wt : Nat} (hg : g.method = m) (hsize : g.locals.size = c.maxLocals) (hdg : decode c.code g.pc = .ok (ig, len)) (hwt : 2 * g.monitorRoom + (g.stack.map fun v => v.category).sum ≤ wt)
    (hn : T.methodNamed? y = some mk) (hmY : T.vm.method? mk = some methY) (hcY : methY.code = some cY) (hkY : T.vm.classes[mk.cls]? = some kY) (hini : kY.init = .initialized)
    (hfr : S.room.frames + 1 ≤ R.frames) (hlo : wt + (cY.maxLocals + 11) + S.room.locals ≤ R.locals) (hce : cells + S.room.cells ≤ R.cells) (hsl : slots + S.room.slots ≤ R.slots) (hpre : S.pre.before a T = true) (hP : P a (T.calling g mk a)) :
    ∃ (o : Outcome) (t T2 : State) (L : List Loc), Stand p l e R s m args below meth c T2 (locs ++ L) (cells + k) (slots + n) ∧ T2.heap = t.heap ∧ T2.vm = t.vm ∧ Qf a (T.calling g mk a) o t ∧ Lp o L ∧
      (∀ v, o = .returned v → Steps p.tables e below (doInvoke e (T.setTop g) [] mk a).1 (T2.setTop { g with pc := g.pc + len, stack := v.toList ++ g.stack })) ∧
      (∀ x, o = .threw x → Steps p.tables e below (doInvoke e (T.setTop g) [] mk a).1 ((T2.setTop g).pushFrame (.throwing x))) := by
  have hAt : At T g.method c below := by rw [hg]; exact X.here
  have happ : S.appliesLoose y e.platform (T.calling g mk a) = true :=
    Spec.appliesLoose_calling (g := g) hAt hdg hn hkY hini (X.room_calling (g := g) (R' := S.room) hsize hmY hcY hfr (by omega) hce hsl) hpre
  obtain ⟨mid, hmid⟩ := hAt.above
  have hframes : (T.setTop g).frames = (.java g :: mid) ++ below := by rw [State.frames_setTop' g hAt.top, hmid]; rfl
  obtain ⟨o, t, hsteps, -, hend, hq⟩ := Steps.callFree hM p X.admits X.cas X.clock (acts := []) hframes happ hP trivial
  have hq' : Qf a (T.calling g mk a) o t := hq
  rw [State.frames_setTop' g hAt.top] at hend
  obtain ⟨L, hW0, hsame0, hLp⟩ := hQ _ _ _ _ hq'
  obtain ⟨e2, q2, q3, q4, q5, q6⟩ := hsame0
  have hW : T.WarmedH t.vm := hW0
  obtain ⟨g₀, hg0⟩ := Option.isSome_iff_exists.mp hAt.top
  obtain ⟨r, hr⟩ := State.topJava?_eq_some.mp hg0
  have e3 : t = ({ (T.calling g mk a).setFrames t.frames with heap := t.heap, slotsUsed := t.slotsUsed } : State).setVm t.vm := by
    have h9 : t = ({ t with vm := (T.calling g mk a).vm } : State).setVm t.vm := rfl
    rw [e2] at h9
    exact h9
  have hr' : (({ T with heap := t.heap, slotsUsed := t.slotsUsed } : State).setVm t.vm).frames = .java g₀ :: r := hr
  have hsame : T.sameButNew ({ T with heap := t.heap, slotsUsed := t.slotsUsed } : State) L k n := by
    refine ⟨?_, q2, q3, q4, q5, q6⟩
    obtain ⟨th, hth, -⟩ := State.frames_cons hr
    show ({ T with heap := t.heap, slotsUsed := t.slotsUsed } : State) = { T.setFrames T.frames with heap := t.heap, slotsUsed := t.slotsUsed }
    rw [State.setFrames_self hth]
  subst hg
  refine ⟨o, t, (({ T with heap := t.heap, slotsUsed := t.slotsUsed } : State).setVm t.vm), L,
    ⟨X.admits, X.cas, X.clock, X.frames, X.room, X.hears, X.method, X.code, (X.here.setHeapUsed t.heap t.slotsUsed).setVm hW.alike, X.tail, State.WarmedH.trans X.warmed hW, X.limits, X.bytes, X.same.trans (hsame.setVm s.vm)⟩, rfl, rfl, hq', hLp, ?_, ?_⟩
  · intro v hv
    subst hv
    obtain ⟨c₂, i₂, len₂, hc₂, hd₂, hf₂⟩ := hend
    have hcc : c₂ = c := by
      have h1 : t.code? g.method = T.code? g.method := by rw [State.code?_eq, State.code?_eq, hW.alike.method?]
      exact Option.some.inj (hc₂.symm.trans (h1.trans hAt.code))
    subst hcc
    have hlen : len₂ = len := by rw [hdg] at hd₂; cases hd₂; rfl
    subst hlen
    have hs₂ : t = (({ T with heap := t.heap, slotsUsed := t.slotsUsed } : State).setVm t.vm).setTop { g with pc := g.pc + len₂, stack := v.toList ++ g.stack } := by
      refine e3.trans ?_
      rw [hf₂, State.calling_eq hAt.top, State.setFrames_setFrames, State.setTop_of_frames _ hr', hr]
      rfl
    rw [← hs₂]
    exact hsteps
  · intro x hx
    subst hx
    have hf₂ : t.frames = .throwing x :: .java g :: T.frames.tail := hend
    have hs₂ : t = ((({ T with heap := t.heap, slotsUsed := t.slotsUsed } : State).setVm t.vm).setTop g).pushFrame (.throwing x) := by
      refine e3.trans ?_
      rw [hf₂, State.calling_eq hAt.top, State.setFrames_setFrames, State.pushFrame, State.frames_setTop _ hr', State.setTop_of_frames _ hr', State.setFrames_setFrames, hr]
      rfl
    rw [← hs₂]
    exact hsteps
end ZS6
/-- a heap only grows -/
def zk_le (h h2 : zkH) : Prop := h.2.length ≤ h2.2.length ∧ h.1 ≤ h2.1
theorem zk_le.rf (h : zkH) : zk_le h h := ⟨Nat.le_refl _, Nat.le_refl _⟩
theorem zk_le.tr {a b c : zkH} (h1 : zk_le a b) (h2 : zk_le b c) : zk_le a c := ⟨Nat.le_trans h1.1 h2.1, Nat.le_trans h1.2 h2.2⟩
theorem zk_le_set (h : zkH) (a : Nat) (e : zkE) : zk_le h (zk_set h a e) := ⟨by simp [zk_set], Nat.le_refl _⟩
theorem zk_le_push (h : zkH) (n : Nat) (e : Option zkE) : zk_le h (zk_push h n e) := ⟨by simp [zk_push], by simp [zk_push]⟩
theorem zk_loc4_le {X : zkX} {M : Nat} {i : Instr} {nx pc2 : Nat} {st st2 : List Value} {h h2 : zkH} (hs : zk_loc4 X M i nx st h = some (pc2, st2, h2)) : zk_le h h2 := by
  unfold zk_loc4 at hs
  split at hs <;> (repeat' split at hs) <;> first
    | cases hs; done
    | (cases hs; exact zk_le.rf _)
    | (cases hs; exact zk_le_set _ _ _)
    | (cases hs; exact zk_le_push _ _ _)
    | (revert hs; cases (Nat.beq _ _) <;> intro hs <;> (repeat' split at hs) <;> first | cases hs; done | (cases hs; exact zk_le.rf _))
    | (revert hs; cases (Nat.beq _ _ && _ && _ && _) <;> intro hs <;> first | cases hs; done | (cases hs; exact zk_le_set _ _ _))
theorem zk_loc5_le {M : Nat} {i : Instr} {nx pc2 : Nat} {st st2 : List Value} {h h2 : zkH} (hs : zk_loc5 M i nx st h = some (pc2, st2, h2)) : zk_le h h2 := by
  unfold zk_loc5 at hs
  split at hs <;> (repeat' split at hs) <;> first
    | cases hs; done
    | (cases hs; exact zk_le_set _ _ _)
    | (revert hs; cases (Nat.ble _ _) <;> intro hs <;> first | cases hs; done | (cases hs; exact zk_le.rf _))
theorem zk_loc_le {X : zkX} {M : Nat} {i : Instr} {nx tg : Nat} {s s2 : zkS} (hs : zk_loc X M i nx tg s = some s2) : zk_le s.2.2.2 s2.2.2.2 := by
  unfold zk_loc at hs
  split at hs
  · cases hs; exact zk_le.rf _
  · split at hs
    · cases hs; exact zk_le.rf _
    · split at hs
      · cases hs; exact zk_le.rf _
      · split at hs
        · rename_i h4
          cases hs; exact zk_loc4_le h4
        · split at hs
          · rename_i h5
            cases hs; exact zk_loc5_le h5
          · cases hs
theorem zk_run_le {X : zkX} {call : Nat → List Value → zkH → Option zkO} (hc : ∀ M as h o, call M as h = some o → zk_le h o.2) (d M : Nat) : ∀ (n : Nat) (s : zkS) (o : zkO), zk_run X call d M n s = some o → zk_le s.2.2.2 o.2 := by
  intro n
  induction n with
  | zero => intro s o h; cases h
  | succ n ih =>
    intro s o h
    unfold zk_run at h
    split at h
    · cases h
    · rename_i i nx tg hi
      cases hbd : zk_bud d M i with
      | false => rw [hbd] at h; cases h
      | true =>
      rw [hbd, cond_true] at h
      split at h
      · rename_i s2 h2
        exact (zk_loc_le h2).tr (ih _ _ h)
      · split at h
        · rename_i o2 h3
          cases h
          unfold zk_end at h3
          (repeat' split at h3) <;> first | cases h3; done | (cases h3; exact zk_le.rf _)
        · split at h
          · rename_i o2 h4
            cases h
            unfold zk_thr at h4
            (repeat' split at h4) <;> first
              | cases h4; done
              | (revert h4; cases (_ && _ && _) <;> intro h4 <;> first | cases h4; done | (cases h4; exact zk_le_push _ _ _))
          · split at h
            · cases h
            · rename_i M2 as rest h5
              split at h
              · cases h
              · rename_i o2 h6
                have g1 := hc _ _ _ _ h6
                unfold zk_back at h
                split at h
                · exact g1.tr (ih _ _ h)
                · split at h
                  · cases h
                  · cases h; exact g1
                  · split at h
                    · cases h
                    · exact g1.tr (ih _ _ h)
theorem zk_call_le {X : zkX} {n : Nat} : ∀ (d M : Nat) (as : List Value) (h : zkH) (o : zkO), zk_call X n d M as h = some o → zk_le h o.2 := by
  intro d
  induction d with
  | zero => intro M as h o q; cases q
  | succ d ih =>
    intro M as h o q
    unfold zk_call at q
    cases hb : Nat.ble (lg_sl as).length (zk_mxl M) with
    | false => rw [hb] at q; cases q
    | true =>
      rw [hb] at q
      exact zk_run_le ih d M n _ _ q
section ZS7
/-- the search for a handler, where the rows' classes may be looked at for the first time -/
theorem zk_go_yes {Q : Handler → Pre} {E : CtlPost} {e : Env} {d : Bool} {acts : List Action} {s : State} {f : JFrame} {a : Addr} {x : ExceptionTableEntry} {t : List ExceptionTableEntry} {c : ClassId} {cell : Cell} (hx : covers x f.pc = true) (h0 : x.catchType ≠ 0)
    (hl : s.vm.ClassLinks e.platform f.method.cls x.catchType c) (hcell : s.heap[a]? = some cell) (hobj : ∀ k, cell.vm ≠ .statics k) (hk : ∃ k, s.vm.classes[cell.cls]? = some k) (hc : ∃ k, s.vm.classes[c]? = some k) :
    wp (findHandler.go f a (x :: t)) Q E e d acts s ↔ if s.vm.assignable cell.cls c = true then Q (.found x.handlerPc) d acts (s.setVm (s.vm.noted f.method.cls x.catchType (.cls c))) else wp (findHandler.go f a t) Q E e d acts (s.setVm (s.vm.noted f.method.cls x.catchType (.cls c))) := by
  simp only [covers] at hx
  have hal : s.vm.Alike (s.vm.noted f.method.cls x.catchType (.cls c)) := (Vm.Alike.refl s.vm).noted _ _ _
  obtain ⟨k1, hk1⟩ := hk
  obtain ⟨k2, hk2⟩ := hc
  obtain ⟨y1, hy1, -⟩ := hal.2.2 _ _ hk1
  obtain ⟨y2, hy2, -⟩ := hal.2.2 _ _ hk2
  have hasg : (s.vm.noted f.method.cls x.catchType (.cls c)).assignable cell.cls c = s.vm.assignable cell.cls c := hal.assignable _ _
  obtain ⟨ha, ht⟩ := (resolveClass_links e.toSetting hl).op (op := VmOp.resolveClass f.method.cls x.catchType) rfl
  cases hfit : s.vm.assignable cell.cls c <;> rw [hfit] at hasg <;>
    simp [findHandler.go, hx, h0, ha, ht, hcell, hobj, hy1, hy2, hasg, VmOp.dirties, VmOp.acts]
theorem zk_find {e : Env} {M x : Nat} {s0 : State} {args : Array Value} {f : JFrame} {a : Addr} {cell : Cell} (hpl : e.platform.magicAccessors = ({} : Platform).magicAccessors) (hown : s0.vm.findClass (zk_own M) = some f.method.cls) (hts : ∀ w ∈ zkT, w.before args s0 = true) (hobj : cell.vm.isStatics = false) (hcls : s0.vm.findClass (zk_xn x) = some cell.cls) (hxno : ∀ (z : Nat) (c9 : ClassId), z < 2 → z ≠ x → s0.vm.findClass (zk_xn z) = some c9 → s0.vm.assignable cell.cls c9 = false) :
    ∀ (tb : List ExceptionTableEntry) (S : State) (r : Option Nat), s0.WarmedH S.vm → S.heap[a]? = some cell → zk_catch M f.pc x (tb.map (fun h => (h.startPc, h.endPc, h.handlerPc, h.catchType))) = some r →
      ∃ vm2, s0.WarmedH vm2 ∧ ∀ (Q : Handler → Pre) (E : CtlPost) (d : Bool) (acts : List Action), wp (findHandler.go f a tb) Q E e d acts S ↔ Q (match r with | none => .none | some hp => .found hp) d acts (S.setVm vm2) := by
  intro tb
  induction tb with
  | nil =>
    intro S r hW hcell hr
    cases hr
    exact ⟨S.vm, hW, fun Q E d acts => by rw [W.findHandler_go_nil, State.setVm_self]⟩
  | cons y ys ih =>
    intro S r hW hcell hr
    rw [List.map_cons] at hr
    unfold zk_catch at hr
    cases hcov : (Nat.ble y.startPc f.pc && Nat.blt f.pc y.endPc) with
    | false =>
      rw [hcov] at hr
      obtain ⟨vm2, h1, h2⟩ := ih S r hW hcell hr
      have hcv : covers y f.pc = false := by
        simp only [covers]
        rw [Bool.and_eq_false_iff] at hcov ⊢
        rcases hcov with z | z
        · exact Or.inl (decide_eq_false (fun q => by rw [Nat.ble_eq_true_of_le q] at z; cases z))
        · exact Or.inr (decide_eq_false (fun q => by rw [show Nat.blt f.pc y.endPc = true from Nat.ble_eq_true_of_le q] at z; cases z))
      exact ⟨vm2, h1, fun Q E d acts => by rw [W.findHandler_go_skip hcv]; exact h2 Q E d acts⟩
    | true =>
      rw [hcov] at hr
      simp only [cond_true] at hr
      rw [Bool.and_eq_true] at hcov
      have hcv : covers y f.pc = true := by
        simp only [covers]
        rw [Bool.and_eq_true]
        exact ⟨decide_eq_true (Nat.le_of_ble_eq_true hcov.1), decide_eq_true (Nat.le_of_ble_eq_true hcov.2)⟩
      split at hr
      · cases hr
      · rename_i z hz
        obtain ⟨w1, w2⟩ := zk_f_xk hz
        obtain ⟨c9, hc9, hlk⟩ := Cond.classLink_spec hown (hts _ w2) e.platform hpl
        obtain ⟨dk, _, _, kt, hd0, _, _, _, _, hkt, _, hopen⟩ := hlk.here
        obtain ⟨k0, hk0⟩ := Vm.classAt_of_findClass hcls
        obtain ⟨k0', hk0', -⟩ := hW.alike.2.2 _ _ hk0
        obtain ⟨kt', hkt', -⟩ := hW.alike.2.2 _ _ hkt
        have hW2 := hW.noted hd0 hopen (State.rightAt_cls hlk)
        have hgo := fun (Q : Handler → Pre) (E : CtlPost) (d : Bool) (acts : List Action) => zk_go_yes (Q := Q) (E := E) (e := e) (d := d) (acts := acts) (s := S) (f := f) (a := a) (x := y) (t := ys) hcv w1 (hW.classLinks hlk) hcell (VmData.ne_statics_of hobj) ⟨k0', hk0'⟩ ⟨kt', hkt'⟩
        have hasg : S.vm.assignable cell.cls c9 = s0.vm.assignable cell.cls c9 := hW.alike.assignable _ _
        cases hbq : Nat.beq z x with
        | true =>
          rw [hbq] at hr
          cases hr
          have e1 : z = x := Nat.eq_of_beq_eq_true hbq
          subst e1
          cases Option.some.inj (hc9.symm.trans hcls)
          exact ⟨_, hW2, fun Q E d acts => by rw [hgo, hasg, if_pos (va_asg _ _)]⟩
        | false =>
          rw [hbq] at hr
          have hne : z ≠ x := fun q => by rw [q, Nat.beq_refl] at hbq; cases hbq
          have hno : s0.vm.assignable cell.cls c9 = false := hxno z c9 (zk_f_xc hz).2.2 hne hc9
          obtain ⟨vm2, h1, h2⟩ := ih (S.setVm (S.vm.noted f.method.cls y.catchType (.cls c9))) r hW2 hcell hr
          exact ⟨vm2, h1, fun Q E d acts => by rw [hgo, hasg, if_neg (by rw [hno]; decide)]; exact h2 Q E d acts⟩
variable {tb : Tables} {e : Env} {s target : State} {g : JFrame} {c : Code} {below : List Frame} {a : Addr}
theorem zk_caught (h : At s g.method c below) {pc : Nat} {vm2 : Vm} (hfind : ∀ (Q : Handler → Pre) (E : CtlPost) (d : Bool) (acts : List Action), wp (findHandler g a) Q E e d acts ((s.setTop g).pushFrame (.throwing a)) ↔ Q (.found pc) d acts (((s.setTop g).pushFrame (.throwing a)).setVm vm2))
    (hrest : Steps tb e below ((s.setVm vm2).setTop { g with pc := pc, stack := [.ref a] }) target) : Steps tb e below ((s.setTop g).pushFrame (.throwing a)) target := by
  obtain ⟨hgo, hw⟩ := h.throwing a
  refine Steps.head hgo hw ?_
  rw [stepThread_throwing (frames_entered h.top _)]
  have key : (stepThrowing e ((s.setTop g).pushFrame (.throwing a)) a (.java g :: s.frames.tail)).1 = (((s.setTop g).pushFrame (.throwing a)).setVm vm2).setFrames (.java { g with pc := pc, stack := [.ref a] } :: s.frames.tail) := by
    simp only [stepThrowing, searchFrame, vmDo]
    generalize hr : Sem.go _ e false [] _ = res
    obtain ⟨as, rfl, ha⟩ := Sem.eq_ok_of hr (a := Handler.found pc) (s' := ((s.setTop g).pushFrame (.throwing a)).setVm vm2) (acts' := []) (by simp [hfind _ _ _ _])
    rfl
  rw [key]
  obtain ⟨g₀, hg⟩ := Option.isSome_iff_exists.mp h.top
  obtain ⟨r, hr⟩ := State.topJava?_eq_some.mp hg
  have hr2 : (s.setVm vm2).frames = .java g₀ :: r := hr
  rw [State.setTop_of_frames _ hr2] at hrest
  have cm : ∀ F : List Frame, (s.setFrames F).setVm vm2 = (s.setVm vm2).setFrames F := fun _ => rfl
  rw [State.pushFrame, State.setTop_of_frames _ hr, State.setFrames_setFrames, hr, cm, State.setFrames_setFrames]
  exact hrest
end ZS7
end
section
/-! a whole frame, a whole call -/
def zk_nm : List String := ["java/lang/RuntimeException", "java/lang/Exception"]
/-- the words of an exception's making -/
def zk_thB (x ic : Nat) (ps : List Nat) : Bool := Bundle.fit (zk_xn x) && decide ((Cond.initialized (zk_xn x) :: vx_atS "PropertyStore" ic (zk_xn x) zk_nm).length = ps.length) && (List.zip (Cond.initialized (zk_xn x) :: vx_atS "PropertyStore" ic (zk_xn x) zk_nm) ps).all (fun q => vx_ot q.1 && zk_chk q.2 q.1)
theorem zk_th0 : zk_thB 0 44 [57, 54, 216, 225, 228, 231, 233, 217, 218, 71, 72, 219, 224, 229, 249, 206, 250, 208, 251, 210, 220, 222, 212, 245, 246, 248, 212, 236, 237, 238, 239, 198, 239, 240, 241, 242, 200, 242, 243, 244, 245, 202, 235, 195, 196, 203, 204, 205, 207, 209, 211, 215, 214, 213] = true := by decide +kernel
theorem zk_th1 : zk_thB 1 84 [64, 54, 216, 225, 228, 231, 233, 217, 218, 71, 72, 219, 224, 229, 249, 206, 250, 208, 251, 210, 220, 222, 212, 245, 246, 248, 212, 398, 399, 400, 239, 198, 239, 240, 241, 242, 200, 242, 243, 244, 245, 202, 397, 388, 389, 390, 227, 391, 392, 393, 394, 215, 214, 395] = true := by decide +kernel
theorem zk_thU {x ic : Nat} {ps : List Nat} (h : zk_thB x ic ps = true) : Bundle.fit (zk_xn x) = true ∧ ∀ w ∈ Cond.initialized (zk_xn x) :: vx_atS "PropertyStore" ic (zk_xn x) zk_nm, vx_ot w = true ∧ w ∈ zkT := by
  unfold zk_thB at h
  simp only [Bool.and_eq_true, decide_eq_true_eq] at h
  refine ⟨h.1.1, fun w hw => ?_⟩
  obtain ⟨i, hi, e⟩ := List.getElem_of_mem hw
  have h2 := List.all_eq_true.mp h.2 (w, ps[i]'(h.1.2 ▸ hi)) (by
    rw [List.mem_iff_getElem]
    exact ⟨i, by rw [List.length_zip, ← h.1.2, Nat.min_self]; exact hi, by rw [List.getElem_zip, e]⟩)
  rw [Bool.and_eq_true] at h2
  exact ⟨h2.1, zk_chk_mem h2.2⟩
theorem zk_f_thr {M x j ic : Nat} (h : zk_xok M x j ic = true) : zk_own M = "PropertyStore" ∧ Bundle.fit (zk_xn x) = true ∧ (∃ tx, (j, tx) ∈ zk_xs) ∧ ∀ w ∈ Cond.initialized (zk_xn x) :: vx_atS (zk_own M) ic (zk_xn x) zk_nm, vx_ot w = true ∧ w ∈ zkT := by
  unfold zk_xok at h
  simp only [Bool.and_eq_true, Bool.or_eq_true] at h
  obtain ⟨⟨h1, h2⟩, h3⟩ := h
  have ho : zk_own M = "PropertyStore" := by
    have h9 : zk_pl M = 0 := Nat.eq_of_beq_eq_true h1
    by_cases hM : M < 163
    · have h8 : zk_nth zk_pn (zk_pl M) = some (zk_own M) := of_decide_eq_true (List.all_eq_true.mp zk_pok_ok M (List.mem_range.mpr hM))
      rw [h9] at h8
      exact (Option.some.inj h8).symm
    · rw [zk_big (by omega)] at h9
      cases h9
  obtain ⟨tx, htx⟩ := Option.isSome_iff_exists.mp h3
  rw [ho]
  rcases h2 with h2 | h2
  · rw [Nat.eq_of_beq_eq_true h2.1, Nat.eq_of_beq_eq_true h2.2]
    exact ⟨rfl, (zk_thU zk_th0).1, ⟨tx, zk_lk_mem htx⟩, (zk_thU zk_th0).2⟩
  · rw [Nat.eq_of_beq_eq_true h2.1, Nat.eq_of_beq_eq_true h2.2]
    exact ⟨rfl, (zk_thU zk_th1).1, ⟨tx, zk_lk_mem htx⟩, (zk_thU zk_th1).2⟩
/-- what stays while nothing up to b changes and the tables grow warmer: the script; the statics and texts that an exception's making reads; which exceptions are not each other -/
def zk_Cn (sc b : Nat) (X : zkX) (t : State) : Prop := va_X sc X.1 X.2 t t.heap ∧ sc ≤ b ∧ vx_Zq Bundle.tN "UNASSIGNED_STACK" Bundle.steD (fun q => b < q) t t.heap ∧ vx_Zq Bundle.tN "SUPPRESSED_SENTINEL" Bundle.listD (fun q => b < q) t t.heap ∧ (∀ q ∈ zk_xs, ∃ a, vk_R "PropertyStore" q.1 q.2 a t) ∧
  ∀ x y c1 c2, x < 2 → y < 2 → x ≠ y → t.vm.findClass (zk_xn x) = some c1 → t.vm.findClass (zk_xn y) = some c2 → t.vm.assignable c1 c2 = false
def zk_Cl (sc b : Nat) (X : zkX) (s : State) : Prop := ∀ t : State, s.WarmedH t.vm → (∀ q : Nat, q ≤ b → t.heap[q]? = s.heap[q]?) → zk_Cn sc b X t
theorem zk_Cl.to {sc b : Nat} {X : zkX} {s t : State} (h : zk_Cl sc b X s) (h1 : s.WarmedH t.vm) (h2 : ∀ q : Nat, q ≤ b → t.heap[q]? = s.heap[q]?) : zk_Cl sc b X t :=
  fun u g1 g2 => h u (State.WarmedH.trans h1 g1) (fun q hq => (g2 q hq).trans (h2 q hq))
theorem zk_Cl.now {sc b : Nat} {X : zkX} {s : State} (h : zk_Cl sc b X s) : zk_Cn sc b X s := h s (State.WarmedH.refl s) (fun _ _ => rfl)
def zk_Pc (D : va_G) (aC : FieldType → ClassId) (sc b : Nat) (X : zkX) (as : List Value) (h : zkH) (args : Array Value) (s : State) : Prop := args = (as.map (zk_v sc b)).toArray ∧ zk_R D aC sc b h s.heap ∧ va_K D zkCl (zkTy aC) s ∧ zk_Cl sc b X s
/-- the end of an invocation from s, by the abstract outcome o -/
def zk_oc (sc b : Nat) (s : State) (o : zkO) (oc : Outcome) (t : State) : Prop := match o.1 with
  | .inl v => oc = .returned (v.map (zk_v sc b))
  | .inr x => ∃ (a : Nat) (cell : Cell), oc = .threw a ∧ t.heap[a]? = some cell ∧ cell.vm = .none ∧ s.vm.findClass (zk_xn x) = some cell.cls ∧ x < 2
def zk_Qc (D : va_G) (aC : FieldType → ClassId) (sc b : Nat) (o : zkO) (s : State) (oc : Outcome) (t : State) : Prop := zk_oc sc b s o oc t ∧ zk_R D aC sc b o.2 t.heap ∧ ∀ q : Nat, q ≤ b → t.heap[q]? = s.heap[q]?
def zk_Fr (b : Nat) (h0 : zkH) (o : zkO) (s t : State) (L : List Loc) : Prop := s.WarmedH t.vm ∧ s.sameButNew ({ t with vm := s.vm } : State) L (o.2.2.length - h0.2.length) (o.2.1 - h0.1) ∧ ∀ q ∈ L, b < q.base
/-- the room of a frame that may have d frames above it -/
def zk_rm (d : Nat) (h0 : zkH) (o : zkO) : Room := { frames := d, cells := o.2.2.length - h0.2.length, slots := o.2.1 - h0.1, locals := 33 * d + 60 }
def zk_ws (M : Nat) : List Cond := zk_cw M :: zkT
def zk_Met (l : Launch) (D : va_G) (aC : FieldType → ClassId) (sc b : Nat) (X : zkX) (d M : Nat) (as : List Value) (h : zkH) (o : zkO) : Prop :=
  MetFree l (zk_yn M) (headSpec (zk_ws M) (zk_rm d h o)) (zk_Pc D aC sc b X as h) (fun _ _ _ _ _ => True) (fun _ s oc t => zk_Qc D aC sc b o s oc t ∧ ∃ L, zk_Fr b h o s t L)
def zk_ZQ (D : va_G) (aC : FieldType → ClassId) (sc b : Nat) (below : List Frame) (h0 : zkH) (o : zkO) (s : State) (t : State) : Prop := ∃ oc, t.status = .running ∧ Ended t below oc ∧ zk_Qc D aC sc b o s oc t ∧ ∃ L, zk_Fr b h0 o s t L
section ZS8
variable {p : Program} {l : Launch} {e : Env} {R : Room} {s : State} {m : MethodId} {args : Array Value} {below : List Frame} {meth : Method} {c : Code} {H : Heap} {locs : List Loc} {cells slots : Nat} {Q Q2 : State → Prop}
theorem zk_mono {g : JFrame} (hq : ∀ t, Q t → Q2 t) (k : W p l e R s m args below meth c H locs cells slots Q g) : W p l e R s m args below meth c H locs cells slots Q2 g := fun T hT X => by
  obtain ⟨t, a, b⟩ := k T hT X
  exact ⟨t, a, hq t b⟩
variable {cc : ByteArray} {pc nx tg : Nat} {ls : Array Slot} {sc b d M : Nat} {st : List Value} {i : Instr} {h0 h : zkH} {D : va_G} {aC : FieldType → ClassId} {X : zkX} {lv : zkL} {o : zkO}
theorem zk_mq {q : zkO} (hJ : zk_J D aC sc b s h0 h H locs cells slots) (ho : q.2 = h) (t : State) (z : MQ below (fun _ s oc t => zk_Qc D aC sc b q s oc t) args s cells slots (fun q => b < q) t) : zk_ZQ D aC sc b below h0 q s t := by
  obtain ⟨oc, z1, z2, z3, L, ⟨-, z5, z6⟩, z7⟩ := z
  obtain ⟨-, -, -, h4, h5, -⟩ := hJ
  refine ⟨oc, z1, z2, z3, L, z5, ?_, z7⟩
  rw [ho, h4, h5, Nat.add_sub_cancel_left, Nat.add_sub_cancel_left]
  exact z6
theorem zk_qc (hJ : zk_J D aC sc b s h0 h H locs cells slots) {v : Option Value} : ∀ t : State, t.heap = H → s.WarmedH t.vm → zk_Qc D aC sc b (.inl v, h) s (.returned (v.map (zk_v sc b))) t := by
  intro t ht _
  exact ⟨rfl, by rw [ht]; exact hJ.1, fun q hq => by rw [ht]; exact hJ.2.1 q hq⟩
theorem zk_s_end (hexec : p.tables.exec = Jvm.exec) (hb : c.code = cc) (hr : meth.sig.returnType = zk_rt M) (hlocks : meth.locks = false) (hd : decode cc pc = .ok (i, zk_il i pc nx)) (hJ : zk_J D aC sc b s h0 h H locs cells slots) (hs : zk_end M i (pc, lv, st, h) = some o) : W p l e R s m args below meth c H locs cells slots (zk_ZQ D aC sc b below h0 o s) (F0 m pc ls (st.map (zk_v sc b))) := by
  cases i with
  | ireturn =>
    simp only [zk_end] at hs
    split at hs
    · rename_i x
      split at hs
      · rename_i hrt
        cases hs
        exact zk_mono (zk_mq hJ rfl) (W.iret hexec hb (hr.trans hrt) (zk_qc (v := some (.int x)) hJ) hJ.2.2.1 hd hlocks)
      · rename_i hrt
        split at hs
        · rename_i hx
          cases hs
          refine zk_mono (zk_mq hJ rfl) (W.zret hexec hb (hr.trans hrt) ?_ (zk_qc (v := some (.int x)) hJ) hJ.2.2.1 hd hlocks)
          show narrow .boolean (.int x) = .int x
          have h9 : narrow .boolean (.int x) = .int (vp_nar .boolean x) := rfl
          rw [h9, hx]
        · cases hs
      · cases hs
    · cases hs
  | lreturn =>
    simp only [zk_end] at hs
    split at hs
    · rename_i x
      split at hs
      · rename_i hrt
        cases hs
        exact zk_mono (zk_mq hJ rfl) (W.lret hexec hb (hr.trans hrt) (zk_qc (v := some (.long x)) hJ) hJ.2.2.1 hd hlocks)
      · cases hs
    · cases hs
  | areturn =>
    simp only [zk_end] at hs
    split at hs
    · rename_i x
      split at hs
      · rename_i ty hrt
        cases hs
        exact zk_mono (zk_mq hJ rfl) (W.aret hexec hb (hr.trans hrt) (Or.inr ⟨ty, rfl⟩) (Or.inr ⟨_, rfl⟩) (zk_qc (v := some (.ref x)) hJ) hJ.2.2.1 hd hlocks)
      · cases hs
    · cases hs
  | return_ =>
    simp only [zk_end] at hs
    split at hs
    · split at hs
      · rename_i hrt
        cases hs
        exact zk_mono (zk_mq hJ rfl) (W.vret hexec hb (hr.trans hrt) (zk_qc (v := none) hJ) hJ.2.2.1 hd hlocks)
      · cases hs
    · cases hs
  | _ => simp only [zk_end] at hs; cases hs
/-- throw new -/
theorem zk_s_thr (hexec : p.tables.exec = Jvm.exec) (hb : c.code = zk_by M) (hml : c.maxLocals = ls.size) (hl : l.stackTraces = false) (hown : s.vm.findClass (zk_own M) = some m.cls) (hlocks : meth.locks = false) (hts : ∀ w ∈ zkT, w.before args s = true) (htb : c.exceptionTable.toList.map (fun h => (h.startPc, h.endPc, h.handlerPc, h.catchType)) = zk_hd M) (hCl : zk_Cl sc b X s)
    (hi : zk_ins M pc = some (i, nx, tg)) (hbd : zk_bud d M i = true) (hJ : zk_J D aC sc b s h0 h H locs cells slots) (hs : zk_thr M i nx (pc, lv, st, h) = some o) (hrf : d ≤ R.frames) (hrl : 33 * d + 60 ≤ R.locals) (hrc : o.2.2.length - h0.2.length ≤ R.cells) (hrs : o.2.1 - h0.1 ≤ R.slots) : W p l e R s m args below meth c H locs cells slots (zk_ZQ D aC sc b below h0 o s) (F0 m pc ls (st.map (zk_v sc b))) := by
  unfold zk_thr at hs
  split at hs
  · rename_i k
    split at hs
    · rename_i x hx
      split at hs
      · rename_i n2 t2 h2
        split at hs
        · rename_i j n3 t3 h3
          split at hs
          · rename_i ic n4 t4 h4
            split at hs
            · rename_i n5 t5 h5
              cases hq : ((zk_hd M).isEmpty && zk_xok M x j ic && Nat.ble ((st.map Value.category).sum) 8) with
              | false => simp only [hq] at hs; cases hs
              | true =>
                simp only [hq] at hs
                cases hs
                simp only [Bool.and_eq_true] at hq
                obtain ⟨⟨q1, q2⟩, q3⟩ := hq
                have hsum := Nat.le_of_ble_eq_true q3
                obtain ⟨-, d0, e0, -⟩ := zk_f_ins hi
                obtain ⟨-, d2, e2, -⟩ := zk_f_ins h2
                obtain ⟨-, d3, e3, -⟩ := zk_f_ins h3
                obtain ⟨-, d4, e4, -⟩ := zk_f_ins h4
                obtain ⟨-, d5, e5, -⟩ := zk_f_ins h5
                have e0 : nx = pc + 3 := e0
                have e2 : n2 = nx + 1 := e2
                have e3 : n3 = n2 + 2 := e3
                have e4 : n4 = n3 + 3 := e4
                subst e0; subst e2; subst e3; subst e4
                have hd6 : 6 ≤ d := by
                  simp only [zk_bud, hx] at hbd
                  exact Nat.le_of_ble_eq_true hbd
                obtain ⟨-, hk, hx2⟩ := zk_f_xc hx
                obtain ⟨w1, w4, ⟨tx, w3⟩, w5⟩ := zk_f_thr q2
                obtain ⟨hX, hsc, hU, hN, hstr, -⟩ := hCl.now
                obtain ⟨sa, hsa⟩ := hstr _ w3
                have hout : ∀ y ∈ c.exceptionTable.toList, covers y (pc + 3 + 1 + 2 + 3) = false := by
                  have h9 : zk_hd M = [] := List.isEmpty_iff.mp q1
                  rw [h9, List.map_eq_nil_iff] at htb
                  rw [htb]
                  exact fun y hy => absurd hy List.not_mem_nil
                have hlen : (zk_push h 6 none).2.length = h.2.length + 1 := by simp [zk_push]
                have hsl : (zk_push h 6 none).1 = h.1 + 6 := rfl
                have hrc' : h.2.length + 1 - h0.2.length ≤ R.cells := by rw [← hlen]; exact hrc
                have hrs' : h.1 + 6 - h0.1 ≤ R.slots := by rw [← hsl]; exact hrs
                have j4 := hJ.2.2.2.1
                have j5 := hJ.2.2.2.2.1
                refine zk_mono (fun t z => ?_) (zk_throwS (names := zk_nm) (A := fun q => b < q) (mc := cells + 1) (ms := slots + 6) (Qc := fun _ _ _ _ => False) (XC := fun E _ t => E = zk_xn x ∧ t.heap.size = H.size + 1 ∧ ∀ q : Nat, q < H.size → t.heap[q]? = H[q]?) (free := fun q => b < q) hexec hb hl hown w4 (by decide) (hts _ hk) (hts _ (w5 _ (List.mem_cons_self)).2) (by rw [w1]; exact hsa) (fun w hw => hts _ (w5 _ (List.mem_cons_of_mem _ hw)).2) (fun w hw => by
                  rcases List.mem_cons.mp hw with z | z
                  · rw [z]; rfl
                  · exact (w5 w z).1) hU hN ⟨hJ.grown, fun q z1 z2 => hJ.2.1 q (Nat.not_lt.mp z2), hJ.2.2.1⟩ hml.symm d0 d2 d3 d4 d5 hout (by show 2 + 3 < R.frames; omega) (by
                  rw [zk_catsum]
                  show _ + (13 * (2 + 1) + 43) ≤ R.locals
                  omega) (by omega) (by omega) hlocks (fun t _ z1 z2 => ⟨rfl, z1, z2⟩) hJ.2.2.1 (Nat.le_refl _) (Nat.le_refl _))
                obtain ⟨oc, z1, z2, z3⟩ := z
                rcases z3 with ⟨z3, -⟩ | ⟨a, rfl, E, ce, L, ⟨rfl, z4, z5⟩, z6, z7, z8, z9, z10, z11⟩
                · exact z3.elim
                · refine ⟨_, z1, z2, ⟨⟨a, ce, rfl, z6, z7, z8, hx2⟩, hJ.1.push z4 z5 (fun e1 he => by cases he), fun q hq2 => (z5 q (by rw [hJ.1.1]; have := (List.getElem?_eq_some_iff.mp hJ.1.2.1).1; omega)).trans (hJ.2.1 q hq2)⟩, L, z9, ?_, z11⟩
                  show s.sameButNew _ L ((zk_push h 6 none).2.length - h0.2.length) ((zk_push h 6 none).1 - h0.1)
                  rw [hlen, hsl, show h.2.length + 1 - h0.2.length = cells + 1 by omega, show h.1 + 6 - h0.1 = slots + 6 by omega]
                  exact z10
            · cases hs
          · cases hs
        · cases hs
      · cases hs
    · cases hs
  · cases hs
end ZS8
end
section
/-- what the word of a method's code says -/
theorem zk_cwn {M : Nat} {args : Array Value} {s : State} (h : (zk_cw M).before args s = true) : ∃ mk meth c, s.methodNamed? (zk_yn M) = some mk ∧ s.vm.method? mk = some meth ∧ meth.code = some c ∧ c.code = zk_by M ∧ c.maxLocals = zk_mxl M ∧ c.exceptionTable.toList.map (fun h => (h.startPc, h.endPc, h.handlerPc, h.catchType)) = zk_hd M ∧ meth.sig.returnType = zk_rt M ∧ meth.locks = false ∧ parseMethodDescriptor (zk_yn M).desc = some meth.sig := by
  unfold zk_cw at h
  split at h
  · rename_i hh
    cases hn : s.methodNamed? (zk_yn M) with
    | none => simp [Cond.before, Cond.holds, Cond.value, hn] at h
    | some mk =>
      obtain ⟨meth, c, h1, h2, h3, h4, h5, h6, h7, h8⟩ := Cond.code_spec hn h
      refine ⟨mk, meth, c, rfl, h1, h2, h3, h4, ?_, h5, h6, h8⟩
      rw [hh]
      simp only [Array.isEmpty_iff] at h7
      rw [h7]
      rfl
  · rename_i q r hh
    obtain ⟨mk, meth, c, hn, h1, h2, h3, h4, h5, h6, h7, h8⟩ := Cond.codeWith_spec h
    exact ⟨mk, meth, c, hn, h1, h2, h3, h4, h5.trans hh.symm, h6, h7, h8⟩
theorem zk_sig {M : Nat} {args : Array Value} {s : State} {mk : MethodId} {meth : Method} (hn : s.methodNamed? (zk_yn M) = some mk) (hm : s.vm.method? mk = some meth) (h : (zk_cw M).before args s = true) : parseMethodDescriptor (zk_yn M).desc = some meth.sig := by
  obtain ⟨mk2, meth2, c, h1, h2, -, -, -, -, -, -, h8⟩ := zk_cwn h
  cases h1.symm.trans hn
  cases h2.symm.trans hm
  exact h8
section ZS9
variable {p : Program} {l : Launch} {e : Env} {R : Room} {s : State} {m : MethodId} {args : Array Value} {below : List Frame} {meth : Method} {c : Code}
/-- what is fixed in a frame -/
def zk_Fx (p : Program) (l : Launch) (R : Room) (s : State) (m : MethodId) (args : Array Value) (meth : Method) (c : Code) (D : va_G) (aC : FieldType → ClassId) (sc b : Nat) (X : zkX) (d M : Nat) (h0 : zkH) (o : zkO) : Prop :=
  p.tables.exec = Jvm.exec ∧ c.code = zk_by M ∧ c.maxLocals = zk_mxl M ∧ meth.sig.returnType = zk_rt M ∧ meth.locks = false ∧ meth.name = (zk_yn M).name ∧ s.vm.findClass (zk_own M) = some m.cls ∧ (∀ w ∈ zkT, w.before args s = true) ∧
  c.exceptionTable.toList.map (fun h => (h.startPc, h.endPc, h.handlerPc, h.catchType)) = zk_hd M ∧ va_K D zkCl (zkTy aC) s ∧ zk_Cl sc b X s ∧ l.stackTraces = false ∧ d ≤ R.frames ∧ 33 * d + 60 ≤ R.locals ∧ o.2.2.length - h0.2.length ≤ R.cells ∧ o.2.1 - h0.1 ≤ R.slots
/-- the step into a method -/
theorem zk_into {T : State} {locs : List Loc} {cells slots : Nat} (X0 : Stand p l e R s m args below meth c T locs cells slots) (hexec : p.tables.exec = Jvm.exec) (hts : ∀ w ∈ zkT, w.before args s = true) {M M2 : Nat} {i : Instr} {st as rest : List Value} {h : zkH} {D : va_G} {aC : FieldType → ClassId} {sc b pc nx : Nat} {ls : Array Slot} (hown : s.vm.findClass (zk_own M) = some m.cls) (hK : va_K D zkCl (zkTy aC) s) (hR : zk_R D aC sc b h T.heap) (hi : zk_inv M i st h = some (M2, as, rest)) (hd : decode c.code pc = .ok (i, zk_il i pc nx)) :
    ∃ (mk : MethodId) (vm1 : Vm), M2 < 162 ∧ zk_il i pc nx = 3 ∧ (rest.map Value.category).sum ≤ 8 ∧ s.methodNamed? (zk_yn M2) = some mk ∧ Stand p l e R s m args below meth c (T.setVm vm1) locs cells slots ∧
      ∀ target, (∀ acts, Steps p.tables e below (doInvoke e ((T.setVm vm1).setTop (F0 m pc ls (rest.map (zk_v sc b)))) acts mk (as.map (zk_v sc b)).toArray).1 target) → Steps p.tables e below (T.setTop (F0 m pc ls (st.map (zk_v sc b)))) target := by
  have pops : ∀ (n : Nat) (acc st as r : List Value), zk_pop n acc st = some (as, r) → as.length = n + acc.length ∧ acc.reverse ++ st = as.reverse ++ r := by
    intro n
    induction n with
    | zero => intro acc st as r h; cases h; exact ⟨by omega, rfl⟩
    | succ n ih =>
      intro acc st as r h
      cases st with
      | nil => cases h
      | cons v st =>
        obtain ⟨h1, h2⟩ := ih (v :: acc) st as r h
        refine ⟨by rw [h1, List.length_cons]; omega, ?_⟩
        rw [← h2, List.reverse_cons, List.append_assoc]
        rfl
  have nps : ∀ {y : MethodName} {n : Nat}, zk_nps y = some n → ∀ sig, parseMethodDescriptor y.desc = some sig → n = sig.parameters.length := by
    intro y n h sig hs
    unfold zk_nps at h
    rw [hs] at h
    exact (Option.some.inj h).symm
  cases i with
  | invokevirtual k =>
    simp only [zk_inv] at hi
    split at hi
    · rename_i M3 n ci hm
      split at hi
      · rename_i as2 bb r hp
        split at hi
        · rename_i c2 fs hc
          cases hq : (Nat.beq ci c2 && Nat.ble ((r.map Value.category).sum) 8) with
          | false => rw [hq] at hi; cases hi
          | true =>
            rw [hq] at hi
            cases hi
            rw [Bool.and_eq_true] at hq
            have e1 : ci = c2 := Nat.eq_of_beq_eq_true hq.1
            subst e1
            obtain ⟨ps, hps⟩ := zk_f_mt hm
            simp only [zk_mtB, Bool.and_eq_true, decide_eq_true_eq] at hps
            obtain ⟨⟨⟨⟨⟨w1, w2⟩, w3⟩, w4⟩, w5⟩, w6⟩ := hps
            obtain ⟨v1, v2, v3, v4, v5, v6⟩ := zk_f_cw w4
            split at w6
            · rename_i w hw
              rw [zk_nth_get] at hw
              have w6 : w.1 = zk_own M2 := of_decide_eq_true w6
              obtain ⟨mk, methM, hnamed, hmethM, hstM, habM⟩ := Cond.instanceMethod_spec (hts _ (zk_chk_mem w2))
              obtain ⟨g1, g2, g3⟩ := hR.at hc
              obtain ⟨w9, y1, cellB, y2, y3, y4, -⟩ := g1
              cases Option.some.inj (y1.symm.trans hw)
              have hcls : s.vm.findClass (zk_own M2) = some cellB.cls := by
                rw [← w6, y3]
                exact (hK.1 ci _ hw).2.1
              obtain ⟨c3, r2, m2, q1, q2, q3, q4, kP, hkP, hkPi⟩ := Cond.selects_spec (hts _ (zk_chk_mem w3))
              cases hcls.symm.trans q1
              cases (State.methodFound?_of_named hnamed ⟨v4, v5⟩).symm.trans q2
              cases hnamed.symm.trans q3
              have hselP : selectMethod e.platform s.vm cellB.cls mk = .method mk := by rw [Launch.admits_selectMethod X0.admits]; exact q4
              obtain ⟨p1, p2⟩ := pops _ _ _ _ _ hp
              have hsig : parseMethodDescriptor (zk_yn M2).desc = some methM.sig := zk_sig hnamed hmethM (hts _ v1)
              obtain ⟨vm1, X1, hstep⟩ := X0.invokevirtual hexec hown (hts _ (zk_chk_mem w1)) hnamed hmethM hstM hkP hkPi ⟨v4, v5⟩ (a := zk_ad sc b bb) (cell := cellB) y2
                (fun z hz => by rw [y4] at hz; cases hz) hselP hmethM habM hkP hkPi (g := F0 m pc ls (st.map (zk_v sc b))) rfl (argsL := as2.map (zk_v sc b)) (rest := rest.map (zk_v sc b))
                (by rw [List.length_map, p1]; exact nps w5 _ hsig) (by
                  have p3 : st = as2.reverse ++ .ref bb :: rest := p2
                  show st.map (zk_v sc b) = (as2.map (zk_v sc b)).reverse ++ Value.ref (zk_ad sc b bb) :: rest.map (zk_v sc b)
                  rw [p3, List.map_append, List.map_reverse, List.map_cons]
                  rfl) hd
              exact ⟨mk, vm1, w4, rfl, Nat.le_of_ble_eq_true hq.2, hnamed, X1, hstep⟩
            · cases w6
        · cases hi
      · cases hi
    · cases hi
  | invokestatic k =>
    simp only [zk_inv] at hi
    split at hi
    · rename_i M3 n ci hm
      split at hi
      · rename_i as2 r hp
        cases hq : Nat.ble ((r.map Value.category).sum) 8 with
        | false => rw [hq] at hi; cases hi
        | true =>
          rw [hq] at hi
          cases hi
          obtain ⟨ps, hps⟩ := zk_f_mt hm
          simp only [zk_mtB, Bool.and_eq_true, decide_eq_true_eq] at hps
          obtain ⟨⟨⟨w1, w2⟩, w4⟩, w5⟩ := hps
          obtain ⟨v1, v2, v3, v4, v5, v6⟩ := zk_f_cw w4
          obtain ⟨mk, methM, -, hnamed, hmethM, -, -, -, -, -, -, hsig⟩ := zk_cwn (hts _ v1)
          have hstatic : methM.isStatic = true := Cond.static_spec hnamed hmethM (hts _ (zk_chk_mem w2))
          obtain ⟨kP, hkP, -⟩ := className_of_methodNamed hnamed
          have hinitP : kP.init = .initialized := Cond.initialized_spec (findClass_of_methodNamed hnamed) hkP (hts _ v2)
          obtain ⟨p1, p2⟩ := pops _ _ _ _ _ hp
          obtain ⟨vm1, X1, hstep⟩ := X0.invokestatic hexec hown (hts _ (zk_chk_mem w1)) hnamed hmethM hstatic hkP hinitP ⟨v4, v5⟩ (g := F0 m pc ls (st.map (zk_v sc b))) rfl (argsL := as.map (zk_v sc b)) (rest := rest.map (zk_v sc b))
            (by rw [List.length_map, p1]; exact nps w5 _ hsig) (by
              have p3 : st = as.reverse ++ rest := p2
              show st.map (zk_v sc b) = (as.map (zk_v sc b)).reverse ++ rest.map (zk_v sc b)
              rw [p3, List.map_append, List.map_reverse]) hd
          exact ⟨mk, vm1, w4, rfl, Nat.le_of_ble_eq_true hq, hnamed, X1, hstep⟩
      · cases hi
    · cases hi
  | invokespecial k =>
    simp only [zk_inv] at hi
    split at hi
    · rename_i M3 n ci hm
      split at hi
      · rename_i as2 bb r hp
        cases hq : Nat.ble ((r.map Value.category).sum) 8 with
        | false => rw [hq] at hi; cases hi
        | true =>
          rw [hq] at hi
          cases hi
          obtain ⟨ps, hps⟩ := zk_f_mt hm
          simp only [zk_mtB, Bool.and_eq_true, decide_eq_true_eq] at hps
          obtain ⟨⟨⟨⟨⟨⟨w1, w2⟩, w3⟩, w6⟩, w7⟩, w4⟩, w5⟩ := hps
          obtain ⟨v1, v2, v3, v4, v5, v6⟩ := zk_f_cw w4
          obtain ⟨p1, p2⟩ := pops _ _ _ _ _ hp
          have hpl : e.platform.magicAccessors = ({} : Platform).magicAccessors := by rw [X0.admits.platform]
          have hcode : (Cond.code (zk_yn M2) (zk_by M2) (zk_mxl M2) none).before args s = true := by
            have h9 := hts _ v1
            unfold zk_cw at h9
            rw [w7, w6] at h9
            exact h9
          obtain ⟨mk, methM, cM, kP, vm1, hnamed, hmethM, hcodeM, -, hlocalsM, -, hkP, -, hW1, hstep⟩ := Steps.initColdArgs (e := e) (f := F0 m pc ls (st.map (zk_v sc b))) (argsL := as2.map (zk_v sc b)) (rest := rest.map (zk_v sc b)) (a := zk_ad sc b bb) X0.here hexec X0.warmed hpl hown w3 ⟨v4, v5⟩ (hts _ (zk_chk_mem w1)) (hts _ (zk_chk_mem w2)) hcode rfl
            (fun sig hs => by rw [List.length_map, p1]; exact nps w5 _ hs) (by
                  have p3 : st = as2.reverse ++ .ref bb :: rest := p2
                  show st.map (zk_v sc b) = (as2.map (zk_v sc b)).reverse ++ Value.ref (zk_ad sc b bb) :: rest.map (zk_v sc b)
                  rw [p3, List.map_append, List.map_reverse, List.map_cons]
                  rfl) hd
          exact ⟨mk, vm1, w4, rfl, Nat.le_of_ble_eq_true hq, hnamed, X0.noted hW1, hstep⟩
      · cases hi
    · cases hi
  | _ => simp only [zk_inv] at hi; cases hi
end ZS9
end
section
section ZSA
variable {tb : Tables} {e : Env} {s target : State} {g : JFrame} {c : Code} {below : List Frame} {a : Addr}
/-- out of a frame whose handlers are not for the exception -/
theorem zk_left (h : At s g.method c below) {meth : Method} {vm2 : Vm} (hm : vm2.method? g.method = some meth) (hl : meth.locks = false) (hlocked : g.locked = none) (hentered : g.entered = [])
    (hfind : ∀ (Q : Handler → Pre) (E : CtlPost) (d : Bool) (acts : List Action), wp (findHandler g a) Q E e d acts ((s.setTop g).pushFrame (.throwing a)) ↔ Q .none d acts (((s.setTop g).pushFrame (.throwing a)).setVm vm2))
    (hrest : Steps tb e below ((s.setVm vm2).setFrames (.throwing a :: s.frames.tail)) target) : Steps tb e below ((s.setTop g).pushFrame (.throwing a)) target := by
  obtain ⟨hgo, hw⟩ := h.throwing a
  refine Steps.head hgo hw ?_
  rw [stepThread_throwing (frames_entered h.top _)]
  have key : (stepThrowing e ((s.setTop g).pushFrame (.throwing a)) a (.java g :: s.frames.tail)).1 = (((s.setTop g).pushFrame (.throwing a)).setVm vm2).setFrames (.throwing a :: s.frames.tail) := by
    simp only [stepThrowing, searchFrame, vmDo]
    generalize hr : Sem.go _ e false [] _ = res
    have hm2 : (((s.setTop g).pushFrame (.throwing a)).setVm vm2).vm.method? g.method = some meth := hm
    obtain ⟨as, rfl, ha⟩ := Sem.eq_ok_of hr (a := Handler.none) (s' := ((s.setTop g).pushFrame (.throwing a)).setVm vm2) (acts' := [])
      (by cases hp : e.platform.frameOwnsMonitors <;> simp [hfind _ _ _ _, hm, hl, hlocked, hentered, hp, leaveIfLocked])
    rfl
  rw [key]
  obtain ⟨g₀, hg⟩ := Option.isSome_iff_exists.mp h.top
  obtain ⟨r, hr⟩ := State.topJava?_eq_some.mp hg
  have cm : ∀ F : List Frame, (s.setFrames F).setVm vm2 = (s.setVm vm2).setFrames F := fun _ => rfl
  rw [State.pushFrame, State.setTop_of_frames _ hr, State.setFrames_setFrames, cm, State.setFrames_setFrames]
  exact hrest
end ZSA
section ZSB
variable {p : Program} {l : Launch} {e : Env} {R : Room} {s : State} {m : MethodId} {args : Array Value} {below : List Frame} {meth : Method} {c : Code}
variable {D : va_G} {aC : FieldType → ClassId} {sc b d M : Nat} {X : zkX} {h0 : zkH} {o : zkO}
/-- a callee comes back: what stands then -/
theorem zk_s_call (hF : zk_Fx p l R s m args meth c D aC sc b X d M h0 o) {T : State} {locs : List Loc} {cells slots : Nat} (X0 : Stand p l e R s m args below meth c T locs cells slots) {d2 M2 pc nx : Nat} {i : Instr} {ls : Array Slot} {st as rest : List Value} {h : zkH} {o2 : zkO}
    (hJ : zk_J D aC sc b s h0 h T.heap locs cells slots) (hls : ls.size = zk_mxl M) (hi : zk_inv M i st h = some (M2, as, rest)) (hd : decode c.code pc = .ok (i, zk_il i pc nx)) (hd2 : d = d2 + 1) (hMet : M2 < 162 → zk_Met l D aC sc b X d2 M2 as h o2) (hle : zk_le h o2.2) (hle2 : zk_le o2.2 o.2) :
    ∃ (T2 : State) (L : List Loc) (cells2 slots2 : Nat), zk_il i pc nx = 3 ∧ Stand p l e R s m args below meth c T2 L cells2 slots2 ∧ zk_J D aC sc b s h0 o2.2 T2.heap L cells2 slots2 ∧
      (∀ v, o2.1 = .inl v → Steps p.tables e below (T.setTop (F0 m pc ls (st.map (zk_v sc b)))) (T2.setTop (F0 m (pc + 3) ls ((v.toList ++ rest).map (zk_v sc b))))) ∧
      (∀ x, o2.1 = .inr x → ∃ (a : Nat) (cell : Cell), T2.heap[a]? = some cell ∧ cell.vm = .none ∧ s.vm.findClass (zk_xn x) = some cell.cls ∧ x < 2 ∧ Steps p.tables e below (T.setTop (F0 m pc ls (st.map (zk_v sc b)))) ((T2.setTop (F0 m pc ls (rest.map (zk_v sc b)))).pushFrame (.throwing a))) := by
  obtain ⟨hexec, hb, hml, hrt, hlocks, hname, hown, hts, htb, hK, hCl, hst, hrf, hrl, hrc, hrs⟩ := hF
  obtain ⟨mk, vm1, hM2, hil, hsum, hnamed, X1, hstep⟩ := zk_into X0 hexec hts hown hK hJ.1 hi hd (ls := ls) (nx := nx)
  have hW : s.WarmedH vm1 := X1.warmed
  obtain ⟨v1, v2, v3, v4, v5, v6⟩ := zk_f_cw hM2
  have hts1 : ∀ w ∈ zkT, w.before (as.map (zk_v sc b)).toArray (T.setVm vm1) = true := zkT_warm (U := T.setVm vm1) hW hts
  obtain ⟨mk2, methY, cY, n1, n2, n3, -, n5, -, -, -, -⟩ := zk_cwn (hts1 _ v1)
  have hn1 : (T.setVm vm1).methodNamed? (zk_yn M2) = s.methodNamed? (zk_yn M2) := named_alike (U := s) (U' := T.setVm vm1) hW.alike _
  rw [hnamed] at hn1
  cases hn1.symm.trans n1
  obtain ⟨kY, hkY, -⟩ := className_of_methodNamed hn1
  have hini : kY.init = .initialized := Cond.initialized_spec (findClass_of_methodNamed hn1) hkY (hts1 _ v2)
  have j4 := hJ.2.2.2.1
  have j5 := hJ.2.2.2.2.1
  obtain ⟨le1, le2⟩ := hle
  obtain ⟨le3, le4⟩ := hle2
  obtain ⟨oc, t, T2, L, X2, hheap, hvm, hQ, hL, hret, hthr⟩ := zk_cb X1 (y := zk_yn M2) (S := headSpec (zk_ws M2) (zk_rm d2 h o2)) (Lp := fun _ L => ∀ q ∈ L, b < q.base) (k := o2.2.2.length - h.2.length) (n := o2.2.1 - h.1) (len := 3) (hMet hM2)
    (fun a first oc t hq => by
      obtain ⟨-, L, z1, z2, z3⟩ := hq
      exact ⟨L, z1, z2, z3⟩)
    (g := F0 m pc ls (rest.map (zk_v sc b))) (ig := i) (mk := mk) (a := (as.map (zk_v sc b)).toArray) (wt := 8) rfl (hls.trans hml.symm) (by rw [← hil]; exact hd)
    (by
      show 2 * 0 + ((rest.map (zk_v sc b)).map fun v => v.category).sum ≤ 8
      rw [zk_catsum]; omega) hn1 n2 n3 hkY hini (by show d2 + 1 ≤ R.frames; omega) (by
      show 8 + (cY.maxLocals + 11) + (33 * d2 + 60) ≤ R.locals
      rw [n5]; omega) (by show cells + (o2.2.2.length - h.2.length) ≤ R.cells; omega) (by show slots + (o2.2.1 - h.1) ≤ R.slots; omega)
    (atoms_intro (fun w hw => by
      rcases List.mem_cons.mp hw with z | z
      · rw [z]; exact hts1 _ v1
      · exact hts1 _ z))
    (by
      have hvmC : ((T.setVm vm1).calling (F0 m pc ls (rest.map (zk_v sc b))) mk (as.map (zk_v sc b)).toArray).vm = vm1 := rfl
      refine ⟨rfl, hJ.1, va_K.moved (U := (T.setVm vm1).calling (F0 m pc ls (rest.map (zk_v sc b))) mk (as.map (zk_v sc b)).toArray) (u := s) hW.alike hK, ?_⟩
      exact hCl.to (t := (T.setVm vm1).calling (F0 m pc ls (rest.map (zk_v sc b))) mk (as.map (zk_v sc b)).toArray) hW (fun q hq => hJ.2.1 q hq))
  obtain ⟨⟨hoc, hR2, hlow⟩, -⟩ := hQ
  have hJ2 : zk_J D aC sc b s h0 o2.2 T2.heap (locs ++ L) (cells + (o2.2.2.length - h.2.length)) (slots + (o2.2.1 - h.1)) := by
    refine ⟨by rw [hheap]; exact hR2, fun q hq => by rw [hheap]; exact (hlow q hq).trans (hJ.2.1 q hq), fun q hq => ?_, by omega, by omega, hJ.2.2.2.2.2⟩
    rcases List.mem_append.mp hq with z | z
    · exact hJ.2.2.1 q z
    · exact hL q z
  refine ⟨T2, locs ++ L, _, _, hil, X2, hJ2, fun v hv => ?_, fun x hx => ?_⟩
  · unfold zk_oc at hoc
    rw [hv] at hoc
    have h1 := hret _ hoc
    refine hstep _ (fun acts => ?_)
    have h2 : ((v.toList ++ rest).map (zk_v sc b)) = (v.map (zk_v sc b)).toList ++ rest.map (zk_v sc b) := by
      rw [List.map_append]
      cases v <;> rfl
    rw [h2]
    rw [doInvoke_state]
    exact h1
  · unfold zk_oc at hoc
    rw [hx] at hoc
    obtain ⟨a, cell, h1, h2, h3, h4, h5⟩ := hoc
    refine ⟨a, cell, by rw [hheap]; exact h2, h3, ?_, h5, ?_⟩
    · have h6 : vm1.findClass (zk_xn x) = some cell.cls := h4
      rw [hW.alike.findClass] at h6
      exact h6
    · refine hstep _ (fun acts => ?_)
      rw [doInvoke_state]
      exact hthr _ h1
end ZSB
section ZSC
variable {p : Program} {l : Launch} {e : Env} {R : Room} {s : State} {m : MethodId} {args : Array Value} {below : List Frame} {meth : Method} {c : Code}
variable {D : va_G} {aC : FieldType → ClassId} {sc b d M : Nat} {X : zkX} {h0 : zkH} {o : zkO}
/-- a handler's place: the exception goes into a local -/
theorem zk_s_hnd (hF : zk_Fx p l R s m args meth c D aC sc b X d M h0 o) {hp n2 a : Nat} {lv lv2 : zkL} {ls : Array Slot} {H : Heap} {locs : List Loc} {cells slots : Nat} {Q : State → Prop} (hlv : lv_has ls (zk_mxl M) (zk_lv sc b lv)) (hh : zk_hnd M hp lv = some (n2, lv2))
    (kk : ∀ ls2, lv_has ls2 (zk_mxl M) (zk_lv sc b lv2) → W p l e R s m args below meth c H locs cells slots Q (F0 m n2 ls2 [])) : W p l e R s m args below meth c H locs cells slots Q (F0 m hp ls [.ref a]) := by
  obtain ⟨hexec, hb, -⟩ := hF
  unfold zk_hnd at hh
  split at hh
  · rename_i k nx tg hi
    cases hq : Nat.blt k (zk_mxl M) with
    | false => rw [hq] at hh; cases hh
    | true =>
      rw [hq] at hh
      cases hh
      obtain ⟨-, d0, e0, -⟩ := zk_f_ins hi
      have e0 : n2 = hp + 2 := e0
      subst e0
      refine lv_astore hexec hb d0 hlv (Nat.le_of_ble_eq_true hq) rfl (fun ls' h9 => kk ls' ⟨h9.1, h9.2.1, fun q hq2 => h9.2.2 q ?_⟩)
      rw [zk_lv_del]
      exact List.mem_cons_of_mem _ hq2
  · rename_i k nx tg hi
    cases hq : Nat.blt k.val (zk_mxl M) with
    | false => rw [hq] at hh; cases hh
    | true =>
      rw [hq] at hh
      cases hh
      obtain ⟨-, d0, e0, -⟩ := zk_f_ins hi
      have e0 : n2 = hp + 1 := e0
      subst e0
      refine lv_astore_n hexec hb d0 rfl hlv (Nat.le_of_ble_eq_true hq) rfl (fun ls' h9 => kk ls' ⟨h9.1, h9.2.1, fun q hq2 => h9.2.2 q ?_⟩)
      rw [zk_lv_del]
      exact List.mem_cons_of_mem _ hq2
  · cases hh
theorem zk_s_run {call : Nat → List Value → zkH → Option zkO} (hF : zk_Fx p l R s m args meth c D aC sc b X d M h0 o) (hcle : ∀ M as h o, call M as h = some o → zk_le h o.2)
    (hcall : ∀ M2 as h o2, call M2 as h = some o2 → ∃ d2, d = d2 + 1 ∧ (M2 < 162 → zk_Met l D aC sc b X d2 M2 as h o2)) :
    ∀ (n pc : Nat) (lv : zkL) (st : List Value) (h : zkH) (ls : Array Slot) (H : Heap) (locs : List Loc) (cells slots : Nat), zk_run X call d M n (pc, lv, st, h) = some o → lv_has ls (zk_mxl M) (zk_lv sc b lv) → zk_J D aC sc b s h0 h H locs cells slots →
      W p l e R s m args below meth c H locs cells slots (zk_ZQ D aC sc b below h0 o s) (F0 m pc ls (st.map (zk_v sc b))) := by
  intro n
  induction n with
  | zero => intro pc lv st h ls H locs cells slots hr; cases hr
  | succ n ih =>
    intro pc lv st h ls H locs cells slots hr hlv hJ
    have hF0 := hF
    obtain ⟨hexec, hb, hml, hrt, hlocks, hname, hown, hts, htb, hK, hCl, hst, hrf, hrl, hrc, hrs⟩ := hF
    have hF := hF0
    obtain ⟨hX, hsc, -, -, -, hxno⟩ := hCl.now
    have hmls : c.maxLocals = ls.size := hml.trans hlv.1.symm
    unfold zk_run at hr
    split at hr
    · cases hr
    · rename_i i nx tg hi
      have hi : zk_ins M pc = some (i, nx, tg) := hi
      obtain ⟨-, hd, hnx, htg⟩ := zk_f_ins hi
      cases hbd : zk_bud d M i with
      | false => rw [hbd] at hr; cases hr
      | true =>
      rw [hbd, cond_true] at hr
      split at hr
      · rename_i s2 h2
        unfold zk_loc at h2
        split at h2
        · rename_i pc2 lv2 st2 g
          cases h2
          exact zk_s1 hexec hb hown hts hd hnx rfl hlv g (fun ls2 hl2 => ih pc2 lv2 st2 h ls2 H locs cells slots hr hl2 hJ)
        · split at h2
          · rename_i pc2 st2 g
            cases h2
            exact zk_s2 hexec hb hd hnx g (ih pc2 lv st2 h ls H locs cells slots hr hlv hJ)
          · split at h2
            · rename_i pc2 st2 g
              cases h2
              exact zk_s3 hexec hb hd hnx htg g (ih pc2 lv st2 h ls H locs cells slots hr hlv hJ)
            · split at h2
              · rename_i pc2 st2 hp2 g
                cases h2
                obtain ⟨le1, le2⟩ := zk_run_le hcle d M n _ _ hr
                have le1 : hp2.2.length ≤ o.2.2.length := le1
                have le2 : hp2.1 ≤ o.2.1 := le2
                exact zk_s4 hexec hb hown hname hts hd hnx hK hX hsc hJ g (by omega) (by omega) (fun H2 locs2 cells2 slots2 hJ2 => ih pc2 lv st2 hp2 ls H2 locs2 cells2 slots2 hr hlv hJ2)
              · split at h2
                · rename_i pc2 st2 hp2 g
                  cases h2
                  have hd1 : 1 ≤ d := by
                    clear hr
                    have g : zk_loc5 M i nx st h = some (pc2, st2, hp2) := g
                    cases i with
                    | invokespecial k =>
                      simp only [zk_loc5] at g
                      split at g
                      · rename_i hm
                        simp only [zk_bud, hm] at hbd
                        exact Nat.le_of_ble_eq_true hbd
                      · cases g
                    | invokestatic k =>
                      simp only [zk_loc5] at g
                      split at g
                      · rename_i hm
                        simp only [zk_bud, hm] at hbd
                        exact Nat.le_of_ble_eq_true hbd
                      · cases g
                    | _ => simp only [zk_loc5] at g; cases g
                  exact zk_s5 hexec hb hmls hown hts hd hnx hK hJ g (by omega) (by omega) (fun H2 locs2 cells2 slots2 hJ2 => ih pc2 lv st2 hp2 ls H2 locs2 cells2 slots2 hr hlv hJ2)
                · cases h2
      · split at hr
        · rename_i o2 h3
          cases hr
          exact zk_s_end hexec hb hrt hlocks hd hJ h3
        · split at hr
          · rename_i o2 h4
            cases hr
            exact zk_s_thr hexec hb hmls hst hown hlocks hts htb hCl hi hbd hJ h4 hrf hrl hrc hrs
          · split at hr
            · cases hr
            · rename_i M2 as rest h5
              split at hr
              · cases hr
              · rename_i o2 h6
                have h5 : zk_inv M i st h = some (M2, as, rest) := h5
                have h6 : call M2 as h = some o2 := h6
                have hr : zk_back (zk_run X call d M n) M pc nx lv rest o2 = some o := hr
                obtain ⟨d2, hd2, hMet⟩ := hcall _ _ _ _ h6
                have le1 := hcle _ _ _ _ h6
                have le2 : zk_le o2.2 o.2 := by
                  unfold zk_back at hr
                  split at hr
                  · exact zk_run_le hcle d M n _ _ hr
                  · split at hr
                    · cases hr
                    · cases hr; exact zk_le.rf _
                    · split at hr
                      · cases hr
                      · exact zk_run_le hcle d M n _ _ hr
                intro T hT X0
                rw [← hT] at hJ
                obtain ⟨T2, L, cells2, slots2, hil, X2, hJ2, hret, hthr⟩ := zk_s_call hF X0 hJ hlv.1 h5 (by rw [hb]; exact hd) hd2 hMet le1 le2 (ls := ls)
                have hnx : nx = pc + 3 := by rw [hnx, hil]
                unfold zk_back at hr
                split at hr
                · rename_i v hv
                  have g1 := hret v hv
                  rw [← hnx] at g1
                  obtain ⟨t, g2, g3⟩ := ih nx lv (v.toList ++ rest) o2.2 ls T2.heap L cells2 slots2 hr hlv hJ2 T2 rfl X2
                  exact ⟨t, g1.trans g2, g3⟩
                · rename_i x hx
                  obtain ⟨a, cell, c1, c2, c3, c4, g1⟩ := hthr x hx
                  have hpl : e.platform.magicAccessors = ({} : Platform).magicAccessors := by rw [X0.admits.platform]
                  have hAt : At T2 (F0 m pc ls (rest.map (zk_v sc b))).method c below := X2.here
                  have hfind : ∀ r, zk_catch M pc x (zk_hd M) = some r → ∃ vm2, s.WarmedH vm2 ∧ ∀ (Q : Handler → Pre) (E : CtlPost) (d : Bool) (acts : List Action), wp (findHandler (F0 m pc ls (rest.map (zk_v sc b))) a) Q E e d acts ((T2.setTop (F0 m pc ls (rest.map (zk_v sc b)))).pushFrame (.throwing a)) ↔ Q (match r with | none => .none | some hp => .found hp) d acts (((T2.setTop (F0 m pc ls (rest.map (zk_v sc b)))).pushFrame (.throwing a)).setVm vm2) := by
                    intro r hrr
                    rw [← htb] at hrr
                    obtain ⟨vm2, z1, z2⟩ := zk_find (e := e) (M := M) (x := x) (s0 := s) (args := args) (f := F0 m pc ls (rest.map (zk_v sc b))) (a := a) (cell := cell) hpl hown hts (by rw [c2]; rfl) c3 (fun z c9 q1 q2 q3 => hxno x z _ _ c4 q1 (Ne.symm q2) c3 q3) c.exceptionTable.toList ((T2.setTop (F0 m pc ls (rest.map (zk_v sc b)))).pushFrame (.throwing a)) r X2.warmed c1 hrr
                    refine ⟨vm2, z1, fun Q E d acts => ?_⟩
                    rw [W.findHandler_eq (meth := meth) (code := c) X2.method' X2.code]
                    exact z2 Q E d acts
                  split at hr
                  · cases hr
                  · rename_i hc
                    cases hr
                    obtain ⟨vm2, z1, z2⟩ := hfind _ hc
                    have X3 := X2.noted z1
                    obtain ⟨g₀, hfr⟩ := X3.frames_eq
                    refine ⟨_, g1.trans (zk_left hAt (meth := meth) X3.method' hlocks rfl rfl z2 (Steps.refl _)), .threw a, X3.here.running, ?_, ⟨?_, ?_, ?_⟩, L, ?_⟩
                    · show ((T2.setVm vm2).setFrames (.throwing a :: T2.frames.tail)).frames = .throwing a :: below
                      rw [X2.tail]
                      exact State.frames_setFrames _ (State.cur_lt_of_frames hfr)
                    · exact ⟨a, cell, rfl, c1, c2, c3, c4⟩
                    · exact hJ2.1
                    · exact hJ2.2.1
                    · refine ⟨(X3.ends _).1, ?_, hJ2.2.2.1⟩
                      have q4 : o2.2.2.length - h0.2.length = cells2 := by rw [hJ2.2.2.2.1, Nat.add_sub_cancel_left]
                      have q5 : o2.2.1 - h0.1 = slots2 := by rw [hJ2.2.2.2.2.1, Nat.add_sub_cancel_left]
                      show s.sameButNew _ L (o2.2.2.length - h0.2.length) (o2.2.1 - h0.1)
                      rw [q4, q5]
                      exact (X3.ends _).2
                  · rename_i hp hc
                    split at hr
                    · cases hr
                    · rename_i n2 lv2 hh
                      obtain ⟨vm2, z1, z2⟩ := hfind _ hc
                      have X3 := X2.noted z1
                      obtain ⟨t, g2, g3⟩ := zk_s_hnd hF (a := a) (H := (T2.setVm vm2).heap) hlv hh (fun ls2 hl2 => ih n2 lv2 [] o2.2 ls2 T2.heap L cells2 slots2 hr hl2 hJ2) (T2.setVm vm2) rfl X3
                      exact ⟨t, g1.trans (zk_caught hAt z2 g2), g3⟩
end ZSC
end
section
theorem zk_sl_len (sc b : Nat) (as : List Value) : (lg_sl (as.map (zk_v sc b))).length = (lg_sl as).length := by
  induction as with
  | nil => rfl
  | cons v r ih =>
    simp only [lg_sl, List.map_cons, List.flatMap_cons, List.length_append, zk_v_cat] at ih ⊢
    rw [ih]
    split <;> rfl
theorem zk_args_v (sc b : Nat) (as : List Value) : ∀ i : Nat, lv_args i (as.map (zk_v sc b)) = zk_lv sc b (lv_args i as) := by
  induction as with
  | nil => intro i; rfl
  | cons v r ih =>
    intro i
    simp only [List.map_cons, lv_args, zk_v_cat, zk_lv]
    congr 1
    exact ih _
/-- every call that the abstract machine does, the real one does -/
theorem zk_s_met {l : Launch} (hst : l.stackTraces = false) (D : va_G) (aC : FieldType → ClassId) (sc b : Nat) (X : zkX) (n : Nat) : ∀ (d M : Nat) (as : List Value) (h : zkH) (o : zkO), zk_call X n d M as h = some o → ∃ d2, d = d2 + 1 ∧ (M < 162 → zk_Met l D aC sc b X d2 M as h o) := by
  intro d
  induction d with
  | zero => intro M as h o q; cases q
  | succ d ih =>
    intro M as h o q
    refine ⟨d, rfl, fun hM => ?_⟩
    unfold zk_call at q
    cases hb : Nat.ble (lg_sl as).length (zk_mxl M) with
    | false => rw [hb] at q; cases q
    | true =>
      rw [hb, cond_true] at q
      obtain ⟨v1, v2, v3, v4, v5, v6⟩ := zk_f_cw hM
      refine MetFree.of_bodySF (code := zk_by M) (maxLocals := zk_mxl M) (ret := zk_rt M) v3 ?_ ?_
      · intro args s m hpre hn
        have hw := atoms_spec (ws := zk_ws M) hpre
        obtain ⟨mk, meth, c, n1, n2, n3, n4, n5, n6, n7, n8, n9⟩ := zk_cwn (hw _ List.mem_cons_self)
        cases n1.symm.trans hn
        exact ⟨meth, c, n2, n3, n4, n5, n7, n8⟩
      · intro p e s m args below meth c s₁ B hml hP _
        obtain ⟨hargs, hR, hK, hCl⟩ := hP
        have hw := atoms_spec (ws := zk_ws M) B.pre
        have hts : ∀ w ∈ zkT, w.before args s = true := fun w z => hw w (List.mem_cons_of_mem _ z)
        obtain ⟨mk, meth2, c2, n1, n2, n3, n4, n5, n6, n7, n8, n9⟩ := zk_cwn (hw _ List.mem_cons_self)
        cases n1.symm.trans B.named
        cases n2.symm.trans B.method
        have X0 := Stand.of_body B
        cases n3.symm.trans X0.code
        have hown : s.vm.findClass (zk_own M) = some m.cls := findClass_of_methodNamed B.named
        have hF : zk_Fx p l (zk_rm d h o) s m args meth c D aC sc b X d M h o := ⟨B.exec, n4, n5, n7, n8, (name_of_methodNamed B.named B.method).1, hown, hts, n6, hK, hCl, hst, Nat.le_refl _, Nat.le_refl _, Nat.le_refl _, Nat.le_refl _⟩
        have hh0 : s₁.heap = s.heap := by rw [B.state]; rfl
        have hJ : zk_J D aC sc b s h h s.heap [] 0 0 := ⟨hR, fun _ _ => rfl, fun _ z => absurd z List.not_mem_nil, rfl, rfl, hR.1⟩
        have hl := lv_entry (as.map (zk_v sc b)) (n := zk_mxl M) (by rw [zk_sl_len]; exact Nat.le_of_ble_eq_true hb)
        rw [zk_args_v] at hl
        obtain ⟨t, a1, oc, b1, b2, b3, b4⟩ := zk_s_run (e := e) (below := below) hF (fun M as h o q => zk_call_le d M as h o q) (fun M2 as h o2 q => ih M2 as h o2 q) n 0 (lv_args 0 as) [] h _ s.heap [] 0 0 q hl hJ s₁ hh0 X0
        refine ⟨t, oc, ?_, b1, b2, b3, b4⟩
        rw [hargs, lg_entry_eq]
        exact a1
end
section
/-! from the law's entry: the abstract machine's end is the real one's -/
theorem zk_ncast {a b : String} {args : Array Value} {s : State} (h : (Cond.not (Cond.castable a b)).before args s = true) {c1 c2 : ClassId} (h1 : s.vm.findClass a = some c1) (h2 : s.vm.findClass b = some c2) : s.vm.assignable c1 c2 = false := by
  simpa [Cond.before, Cond.holds, Cond.value, h1, h2] using h
theorem zk_arrC {ty : FieldType} {args : Array Value} {s : State} (h : (Cond.arrayClass ty).before args s = true) : ∃ cA, ArrOfT s cA ty ∧ s.vm.findClass ("[" ++ ty.toString) = some cA := by
  obtain ⟨c, k, comp, h1, h2, h3⟩ := Cond.arrayClass_spec h
  exact ⟨c, fun n z => ⟨fun k h => (by cases h), k, h2, comp, h3⟩, h1⟩
theorem zk_inst_ok : ((List.range 5).all fun ci => match zk_nth zkCl ci, zk_nth zk_ciP ci with
  | some w, some q => zk_chk q.1 (.instantiable w.1 w.2.2)
  | _, _ => false) = true := by decide +kernel
theorem zk_f_inst {ci : Nat} {w : vw_C} (hw : zkCl[ci]? = some w) : Cond.instantiable w.1 w.2.2 ∈ zkT := by
  have hlt : ci < 5 := (List.getElem?_eq_some_iff.mp hw).1
  have h1 := List.all_eq_true.mp zk_inst_ok ci (List.mem_range.mpr hlt)
  have hwn : zk_nth zkCl ci = some w := by rw [zk_nth_get]; exact hw
  simp only [hwn] at h1
  split at h1
  · rename_i a b e1 e2
    cases e1
    exact zk_chk_mem h1
  · cases h1
/-- the words of the classes and of the arrays -/
theorem zk_K0 {args : Array Value} {s : State} (hts : ∀ w ∈ zkT, w.before args s = true) : ∃ (D : va_G) (aC : FieldType → ClassId), va_K D zkCl (zkTy aC) s := by
  have key : ∀ ci : Nat, ∃ q : ClassId × (Nat → Nat), ∀ w, zkCl[ci]? = some w → u_Kn s w.1 w.2.1 w.2.2 q.1 q.2 := by
    intro ci
    cases hc : zkCl[ci]? with
    | none => exact ⟨(0, fun _ => 0), fun w hw => by cases hw⟩
    | some w =>
      obtain ⟨cC, iS, h⟩ := u_known (n := w.2.2) hts (zk_f_lay hc) (hts _ (zk_f_inst hc))
      exact ⟨(cC, iS), fun w2 hw2 => by cases hw2; exact h⟩
  obtain ⟨f, hf⟩ := Classical.axiomOfChoice key
  obtain ⟨a1, g1, g2⟩ := zk_arrC (hts _ zk_f_aI)
  obtain ⟨a2, g3, g4⟩ := zk_arrC (hts _ zk_f_aL)
  obtain ⟨a3, g5, g6⟩ := zk_arrC (hts _ zk_f_aB)
  refine ⟨(fun c => (f c).1, fun c => (f c).2), fun t => match t with | .int => a1 | .long => a2 | _ => a3, fun c w hw => hf c w hw, fun k q hq => ?_⟩
  match k, hq with
  | 0, hq => cases hq; exact ⟨g1, g2⟩
  | 1, hq => cases hq; exact ⟨g3, g4⟩
  | 2, hq => cases hq; exact ⟨g5, g6⟩
  | k + 3, hq => cases hq
/-- the words of the start -/
def zk_str1 : Bool := zk_xs.all fun q => lw_tbl.contains (Cond.stringRef "PropertyStore" q.1 q.2)
theorem zk_str1_ok : zk_str1 = true := by decide +kernel
def zk_str2 : Bool := zk_xs.all fun q => (flatC (Jvm.Cond.and given_1 narrow_1)).contains (Cond.exactly (.string "PropertyStore" q.1) "java/lang/String")
theorem zk_str2_ok : zk_str2 = true := by decide +kernel
theorem zk_gv1 : Cond.isRef (.static Bundle.tN "UNASSIGNED_STACK" Bundle.steD) ∈ flatC (Jvm.Cond.and given_1 narrow_1) := by decide +kernel
theorem zk_gv2 : Cond.isRef (.static Bundle.tN "SUPPRESSED_SENTINEL" Bundle.listD) ∈ flatC (Jvm.Cond.and given_1 narrow_1) := by decide +kernel
theorem zk_gv3 : Cond.not (Cond.castable (zk_xn 0) (zk_xn 1)) ∈ flatC (Jvm.Cond.and given_1 narrow_1) := by decide +kernel
theorem zk_gv4 : Cond.not (Cond.castable (zk_xn 1) (zk_xn 0)) ∈ flatC (Jvm.Cond.and given_1 narrow_1) := by decide +kernel
theorem zk_gv5 : Cond.laysStatic Bundle.tN "UNASSIGNED_STACK" Bundle.steD ∈ lw_tbl := by decide +kernel
theorem zk_gv6 : Cond.laysStatic Bundle.tN "SUPPRESSED_SENTINEL" Bundle.listD ∈ lw_tbl := by decide +kernel
theorem zk_gv7 : Cond.initialized Bundle.tN ∈ lw_tbl := by decide +kernel
theorem zk_Cl0 {args : Array Value} {s : State} {sc L : Nat} {xs : Nat → Int32} (hts : ∀ w ∈ lw_tbl, w.before args s = true) (hgv : (Jvm.Cond.and given_1 narrow_1).before args s = true) (hX : va_X sc L xs s s.heap) (hsc : sc < s.heap.size) : zk_Cl sc (s.heap.size - 1) (L, xs) s := by
  have hg := flat_of_before _ hgv
  have hA : ∀ a : Nat, a < s.heap.size → ¬ s.heap.size - 1 < a := fun a ha => by omega
  have hU := vx_Zqof (A := fun q => s.heap.size - 1 < q) (hts _ zk_gv5) (hts _ zk_gv7) (hg _ zk_gv1) hA
  have hN := vx_Zqof (A := fun q => s.heap.size - 1 < q) (hts _ zk_gv6) (hts _ zk_gv7) (hg _ zk_gv2) hA
  intro t hW hlow
  have hlow2 : ∀ a : Nat, a < s.heap.size → ¬ s.heap.size - 1 < a → t.heap[a]? = s.heap[a]? := fun a _ h2 => hlow a (by omega)
  refine ⟨va_X.moved hW.alike (hX.kept (hlow sc (by omega))), by omega, vx_Zq.moved hW.alike (hU.kept hlow2), vx_Zq.moved hW.alike (hN.kept hlow2), fun q hq => ?_, fun x y c1 c2 hx hy hne h1 h2 => ?_⟩
  · have w1 : Cond.stringRef "PropertyStore" q.1 q.2 ∈ lw_tbl := List.contains_iff_mem.mp (List.all_eq_true.mp zk_str1_ok q hq)
    have w2 : Cond.exactly (.string "PropertyStore" q.1) "java/lang/String" ∈ flatC (Jvm.Cond.and given_1 narrow_1) := List.contains_iff_mem.mp (List.all_eq_true.mp zk_str2_ok q hq)
    obtain ⟨a, -, -, -, h1, -⟩ := Cond.exactly_spec (hg _ w2)
    exact ⟨a, (vk_R.of (hts _ w1) h1).warm hW⟩
  · rw [hW.alike.findClass] at h1 h2
    rw [hW.alike.assignable]
    match x, y, hx, hy, hne, h1, h2 with
    | 0, 0, _, _, hne, _, _ => exact absurd rfl hne
    | 0, 1, _, _, _, h1, h2 => exact zk_ncast (hg _ zk_gv3) h1 h2
    | 1, 0, _, _, _, h1, h2 => exact zk_ncast (hg _ zk_gv4) h1 h2
    | 1, 1, _, _, hne, _, _ => exact absurd rfl hne
end
section
def R_law : String := "PropertyStoreLaw"
def lw_P (b : Addr) (xs : List Int32) (args : Array Value) (s : State) : Prop := args = #[.ref b] ∧ s.IntsAt b xs ∧ xs.length ≤ 4096 ∧ (Jvm.Cond.and given_1 narrow_1).before args s = true
def lw_Q (_ : Array Value) (s : State) (o : Outcome) (t : State) : Prop := o = .returned (some (.int 1)) ∧ Framed s o t [] 601024 7293034
def lw_Z (below : List Frame) (a : Array Value) (s : State) : State → Prop := fun t => ∃ o, t.status = .running ∧ Ended t below o ∧ lw_Q a s o t
/-- the law's end in the abstract machine: true, within the room -/
def zk_Lq (o : zkO) : Prop := o.1 = .inl (some (.int 1)) ∧ o.2.2.length ≤ 601025 ∧ o.2.1 ≤ 7293034
def lw_At (p : Program) (s : State) (m : MethodId) (meth : Method) (c : Code) (b L : Nat) (xs : Nat → Int32) : Prop :=
  p.tables.exec = Jvm.exec ∧ c.code = code ∧ meth.sig.returnType = ret ∧ c.maxLocals = 8 ∧ s.vm.findClass R_law = some m.cls ∧ (∀ w ∈ lw_tbl, w.before #[Value.ref b] s = true) ∧ va_X b L xs s s.heap ∧ b < s.heap.size ∧ meth.locks = false ∧ (Jvm.Cond.and given_1 narrow_1).before #[Value.ref b] s = true ∧ meth.name = "law" ∧ c.exceptionTable.isEmpty = true
theorem zk_by162 : zk_by 162 = code := rfl
theorem whole_from {p : Program} {e : Env} {s : State} {m : MethodId} {below : List Frame} {meth : Method} {c : Code} (l : Launch) (hst : l.stackTraces = false) {b L : Nat} {xs : Nat → Int32} (hp : zk_W (L, xs) 13 162 (0, [(0, .ref 0)], [], (0, [none])) zk_Lq) (C0 : lw_At p s m meth c b L xs) : W p l e room_1 s m #[Value.ref b] below meth c s.heap [] 0 0 (lw_Z below #[Value.ref b] s) (entryFrame m ([Value.ref b] : List Value).toArray 8) := by
  obtain ⟨hexec, hb, hret, hml, hown, htbl, hX, hbl, hlocks, hgv, hname, hempty⟩ := C0
  obtain ⟨n, o, hrun, hq1, hq2, hq3⟩ := hp
  have hts : ∀ w ∈ zkT, w.before #[Value.ref b] s = true := fun w hw => htbl w (List.mem_filter.mp hw).1
  obtain ⟨D, aC, hK⟩ := zk_K0 hts
  have hCl := zk_Cl0 htbl hgv hX hbl
  have hR : zk_R D aC b (s.heap.size - 1) (0, [none]) s.heap := by
    refine ⟨by show s.heap.size = s.heap.size - 1 + 1; omega, rfl, fun k e hk => ?_⟩
    cases k with
    | zero => cases hk
    | succ k => cases hk
  have hJ : zk_J D aC b (s.heap.size - 1) s (0, [none]) (0, [none]) s.heap [] 0 0 := ⟨hR, fun _ _ => rfl, fun _ z => absurd z List.not_mem_nil, rfl, rfl, hR.1⟩
  have htb : c.exceptionTable.toList.map (fun h => (h.startPc, h.endPc, h.handlerPc, h.catchType)) = zk_hd 162 := by
    rw [Array.isEmpty_iff] at hempty
    rw [hempty]
    rfl
  have hF : zk_Fx p l room_1 s m #[Value.ref b] meth c D aC b (s.heap.size - 1) (L, xs) 13 162 (0, [none]) o :=
    ⟨hexec, hb.trans zk_by162.symm, hml, hret, hlocks, hname, hown, hts, htb, hK, hCl, hst, Nat.le_refl 13, by decide, by show o.2.2.length - 1 ≤ 601024; omega, by show o.2.1 - 0 ≤ 7293034; omega⟩
  have hl := lv_entry [Value.ref b] (n := 8) (by show 1 ≤ 8; decide)
  have hv : lv_args 0 [Value.ref b] = zk_lv b (s.heap.size - 1) [(0, .ref 0)] := rfl
  rw [hv] at hl
  have key := zk_s_run (e := e) (below := below) hF (fun M as h o q => zk_call_le 13 M as h o q) (fun M2 as h o2 q => zk_s_met hst D aC b (s.heap.size - 1) (L, xs) n 13 M2 as h o2 q) n 0 [(0, .ref 0)] [] (0, [none]) _ s.heap [] 0 0 hrun hl hJ
  rw [lg_entry_eq]
  refine zk_mono (fun t z => ?_) key
  obtain ⟨oc, z1, z2, ⟨z3, z4, z5⟩, Ls, z6, z7, z8⟩ := z
  unfold zk_oc at z3
  rw [hq1] at z3
  have z3 : oc = .returned (some (.int 1)) := z3
  refine ⟨oc, z1, z2, z3, ⟨_, z3⟩, z6, ?_⟩
  obtain ⟨y1, y2, y3, y4, y5, y6⟩ := z7
  refine ⟨y1, y2, Nat.le_trans y3 ?_, y4, Nat.le_trans y5 ?_, fun a c0 ha => ?_⟩
  · show s.heap.size + (o.2.2.length - 1) ≤ s.heap.size + 601024
    omega
  · show o.2.1 - 0 ≤ 7293034
    omega
  · obtain ⟨c1, g1, g2, g3, g4⟩ := y6 a c0 ha
    refine ⟨c1, g1, g2, g3, fun i _ => g4 i (fun hin => ?_)⟩
    have h1 := z8 _ hin
    have h2 : a < s.heap.size := (Array.getElem?_eq_some_iff.mp ha).1
    have h3 : s.heap.size - 1 < a := h1
    exact absurd h3 (Nat.not_lt.mpr (Nat.le_sub_one_of_lt h2))
end

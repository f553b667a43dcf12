/-! the code lists are the decoded code -/
def zk_qok (b : ByteArray) (q : Nat × Instr × Nat × Nat) : Bool := decide (decode b q.1 = .ok (q.2.1, zk_il q.2.1 q.1 q.2.2.1)) && decide (q.2.2.1 = q.1 + zk_il q.2.1 q.1 q.2.2.1) && zk_tgb q.2.1 q.1 q.2.2.2
theorem zk_d_0_0 : zl_0_0.all (zk_qok prog_1_method_1_code) = true := by decide +kernel
theorem zk_d_0 : ∀ c ∈ zl_0, c.2.all (zk_qok prog_1_method_1_code) = true := List.forall_mem_cons.mpr ⟨zk_d_0_0, fun _ h => absurd h List.not_mem_nil⟩
theorem zk_d_1_0 : zl_1_0.all (zk_qok prog_5_method_1_code) = true := by decide +kernel
theorem zk_d_1 : ∀ c ∈ zl_1, c.2.all (zk_qok prog_5_method_1_code) = true := List.forall_mem_cons.mpr ⟨zk_d_1_0, fun _ h => absurd h List.not_mem_nil⟩
theorem zk_d_2_0 : zl_2_0.all (zk_qok prog_3_method_1_code) = true := by decide +kernel
theorem zk_d_2 : ∀ c ∈ zl_2, c.2.all (zk_qok prog_3_method_1_code) = true := List.forall_mem_cons.mpr ⟨zk_d_2_0, fun _ h => absurd h List.not_mem_nil⟩
theorem zk_d_3_0 : zl_3_0.all (zk_qok prog_3_method_12_code) = true := by decide +kernel
theorem zk_d_3 : ∀ c ∈ zl_3, c.2.all (zk_qok prog_3_method_12_code) = true := List.forall_mem_cons.mpr ⟨zk_d_3_0, fun _ h => absurd h List.not_mem_nil⟩
theorem zk_d_4_0 : zl_4_0.all (zk_qok prog_3_method_5_code) = true := by decide +kernel
theorem zk_d_4 : ∀ c ∈ zl_4, c.2.all (zk_qok prog_3_method_5_code) = true := List.forall_mem_cons.mpr ⟨zk_d_4_0, fun _ h => absurd h List.not_mem_nil⟩
theorem zk_d_5_0 : zl_5_0.all (zk_qok prog_2_method_1_code) = true := by decide +kernel
theorem zk_d_5 : ∀ c ∈ zl_5, c.2.all (zk_qok prog_2_method_1_code) = true := List.forall_mem_cons.mpr ⟨zk_d_5_0, fun _ h => absurd h List.not_mem_nil⟩
theorem zk_d_6_0 : zl_6_0.all (zk_qok prog_1_method_6_code) = true := by decide +kernel
theorem zk_d_6 : ∀ c ∈ zl_6, c.2.all (zk_qok prog_1_method_6_code) = true := List.forall_mem_cons.mpr ⟨zk_d_6_0, fun _ h => absurd h List.not_mem_nil⟩
theorem zk_d_7_0 : zl_7_0.all (zk_qok method_3_code) = true := by decide +kernel
theorem zk_d_7 : ∀ c ∈ zl_7, c.2.all (zk_qok method_3_code) = true := List.forall_mem_cons.mpr ⟨zk_d_7_0, fun _ h => absurd h List.not_mem_nil⟩
theorem zk_d_8_0 : zl_8_0.all (zk_qok prog_1_method_2_code) = true := by decide +kernel
theorem zk_d_8 : ∀ c ∈ zl_8, c.2.all (zk_qok prog_1_method_2_code) = true := List.forall_mem_cons.mpr ⟨zk_d_8_0, fun _ h => absurd h List.not_mem_nil⟩
theorem zk_d_9_0 : zl_9_0.all (zk_qok prog_1_method_22_code) = true := by decide +kernel
theorem zk_d_9 : ∀ c ∈ zl_9, c.2.all (zk_qok prog_1_method_22_code) = true := List.forall_mem_cons.mpr ⟨zk_d_9_0, fun _ h => absurd h List.not_mem_nil⟩
theorem zk_d_10_0 : zl_10_0.all (zk_qok prog_1_method_24_code) = true := by decide +kernel
theorem zk_d_10 : ∀ c ∈ zl_10, c.2.all (zk_qok prog_1_method_24_code) = true := List.forall_mem_cons.mpr ⟨zk_d_10_0, fun _ h => absurd h List.not_mem_nil⟩
theorem zk_d_11_0 : zl_11_0.all (zk_qok prog_1_method_23_code) = true := by decide +kernel
theorem zk_d_11 : ∀ c ∈ zl_11, c.2.all (zk_qok prog_1_method_23_code) = true := List.forall_mem_cons.mpr ⟨zk_d_11_0, fun _ h => absurd h List.not_mem_nil⟩
theorem zk_d_12_0 : zl_12_0.all (zk_qok prog_3_method_2_code) = true := by decide +kernel
theorem zk_d_12 : ∀ c ∈ zl_12, c.2.all (zk_qok prog_3_method_2_code) = true := List.forall_mem_cons.mpr ⟨zk_d_12_0, fun _ h => absurd h List.not_mem_nil⟩
theorem zk_d_13_0 : zl_13_0.all (zk_qok prog_5_method_2_code) = true := by decide +kernel
theorem zk_d_13_1 : zl_13_1.all (zk_qok prog_5_method_2_code) = true := by decide +kernel
theorem zk_d_13_2 : zl_13_2.all (zk_qok prog_5_method_2_code) = true := by decide +kernel
theorem zk_d_13_3 : zl_13_3.all (zk_qok prog_5_method_2_code) = true := by decide +kernel
theorem zk_d_13 : ∀ c ∈ zl_13, c.2.all (zk_qok prog_5_method_2_code) = true := List.forall_mem_cons.mpr ⟨zk_d_13_0, List.forall_mem_cons.mpr ⟨zk_d_13_1, List.forall_mem_cons.mpr ⟨zk_d_13_2, List.forall_mem_cons.mpr ⟨zk_d_13_3, fun _ h => absurd h List.not_mem_nil⟩⟩⟩⟩
theorem zk_d_14_0 : zl_14_0.all (zk_qok prog_3_method_7_code) = true := by decide +kernel
theorem zk_d_14_1 : zl_14_1.all (zk_qok prog_3_method_7_code) = true := by decide +kernel
theorem zk_d_14 : ∀ c ∈ zl_14, c.2.all (zk_qok prog_3_method_7_code) = true := List.forall_mem_cons.mpr ⟨zk_d_14_0, List.forall_mem_cons.mpr ⟨zk_d_14_1, fun _ h => absurd h List.not_mem_nil⟩⟩
theorem zk_d_15_0 : zl_15_0.all (zk_qok prog_3_method_8_code) = true := by decide +kernel
theorem zk_d_15 : ∀ c ∈ zl_15, c.2.all (zk_qok prog_3_method_8_code) = true := List.forall_mem_cons.mpr ⟨zk_d_15_0, fun _ h => absurd h List.not_mem_nil⟩
theorem zk_d_16_0 : zl_16_0.all (zk_qok prog_3_method_9_code) = true := by decide +kernel
theorem zk_d_16_1 : zl_16_1.all (zk_qok prog_3_method_9_code) = true := by decide +kernel
theorem zk_d_16_2 : zl_16_2.all (zk_qok prog_3_method_9_code) = true := by decide +kernel
theorem zk_d_16 : ∀ c ∈ zl_16, c.2.all (zk_qok prog_3_method_9_code) = true := List.forall_mem_cons.mpr ⟨zk_d_16_0, List.forall_mem_cons.mpr ⟨zk_d_16_1, List.forall_mem_cons.mpr ⟨zk_d_16_2, fun _ h => absurd h List.not_mem_nil⟩⟩⟩
theorem zk_d_17_0 : zl_17_0.all (zk_qok prog_3_method_10_code) = true := by decide +kernel
theorem zk_d_17 : ∀ c ∈ zl_17, c.2.all (zk_qok prog_3_method_10_code) = true := List.forall_mem_cons.mpr ⟨zk_d_17_0, fun _ h => absurd h List.not_mem_nil⟩
theorem zk_d_18_0 : zl_18_0.all (zk_qok prog_3_method_4_code) = true := by decide +kernel
theorem zk_d_18 : ∀ c ∈ zl_18, c.2.all (zk_qok prog_3_method_4_code) = true := List.forall_mem_cons.mpr ⟨zk_d_18_0, fun _ h => absurd h List.not_mem_nil⟩
theorem zk_d_19_0 : zl_19_0.all (zk_qok prog_3_method_11_code) = true := by decide +kernel
theorem zk_d_19_1 : zl_19_1.all (zk_qok prog_3_method_11_code) = true := by decide +kernel
theorem zk_d_19 : ∀ c ∈ zl_19, c.2.all (zk_qok prog_3_method_11_code) = true := List.forall_mem_cons.mpr ⟨zk_d_19_0, List.forall_mem_cons.mpr ⟨zk_d_19_1, fun _ h => absurd h List.not_mem_nil⟩⟩
theorem zk_d_20_0 : zl_20_0.all (zk_qok prog_3_method_13_code) = true := by decide +kernel
theorem zk_d_20_1 : zl_20_1.all (zk_qok prog_3_method_13_code) = true := by decide +kernel
theorem zk_d_20 : ∀ c ∈ zl_20, c.2.all (zk_qok prog_3_method_13_code) = true := List.forall_mem_cons.mpr ⟨zk_d_20_0, List.forall_mem_cons.mpr ⟨zk_d_20_1, fun _ h => absurd h List.not_mem_nil⟩⟩
theorem zk_d_21_0 : zl_21_0.all (zk_qok prog_14_method_69_code) = true := by decide +kernel
theorem zk_d_21 : ∀ c ∈ zl_21, c.2.all (zk_qok prog_14_method_69_code) = true := List.forall_mem_cons.mpr ⟨zk_d_21_0, fun _ h => absurd h List.not_mem_nil⟩
theorem zk_d_22_0 : zl_22_0.all (zk_qok prog_19_method_124_code) = true := by decide +kernel
theorem zk_d_22 : ∀ c ∈ zl_22, c.2.all (zk_qok prog_19_method_124_code) = true := List.forall_mem_cons.mpr ⟨zk_d_22_0, fun _ h => absurd h List.not_mem_nil⟩
theorem zk_d_23_0 : zl_23_0.all (zk_qok prog_3_method_3_code) = true := by decide +kernel
theorem zk_d_23 : ∀ c ∈ zl_23, c.2.all (zk_qok prog_3_method_3_code) = true := List.forall_mem_cons.mpr ⟨zk_d_23_0, fun _ h => absurd h List.not_mem_nil⟩
theorem zk_d_24_0 : zl_24_0.all (zk_qok prog_5_method_34_code) = true := by decide +kernel
theorem zk_d_24 : ∀ c ∈ zl_24, c.2.all (zk_qok prog_5_method_34_code) = true := List.forall_mem_cons.mpr ⟨zk_d_24_0, fun _ h => absurd h List.not_mem_nil⟩
theorem zk_d_25_0 : zl_25_0.all (zk_qok prog_4_method_5_code) = true := by decide +kernel
theorem zk_d_25_1 : zl_25_1.all (zk_qok prog_4_method_5_code) = true := by decide +kernel
theorem zk_d_25 : ∀ c ∈ zl_25, c.2.all (zk_qok prog_4_method_5_code) = true := List.forall_mem_cons.mpr ⟨zk_d_25_0, List.forall_mem_cons.mpr ⟨zk_d_25_1, fun _ h => absurd h List.not_mem_nil⟩⟩
theorem zk_d_26_0 : zl_26_0.all (zk_qok prog_13_method_48_code) = true := by decide +kernel
theorem zk_d_26 : ∀ c ∈ zl_26, c.2.all (zk_qok prog_13_method_48_code) = true := List.forall_mem_cons.mpr ⟨zk_d_26_0, fun _ h => absurd h List.not_mem_nil⟩
theorem zk_d_27_0 : zl_27_0.all (zk_qok prog_12_method_47_code) = true := by decide +kernel
theorem zk_d_27_1 : zl_27_1.all (zk_qok prog_12_method_47_code) = true := by decide +kernel
theorem zk_d_27 : ∀ c ∈ zl_27, c.2.all (zk_qok prog_12_method_47_code) = true := List.forall_mem_cons.mpr ⟨zk_d_27_0, List.forall_mem_cons.mpr ⟨zk_d_27_1, fun _ h => absurd h List.not_mem_nil⟩⟩
theorem zk_d_28_0 : zl_28_0.all (zk_qok prog_5_method_32_code) = true := by decide +kernel
theorem zk_d_28 : ∀ c ∈ zl_28, c.2.all (zk_qok prog_5_method_32_code) = true := List.forall_mem_cons.mpr ⟨zk_d_28_0, fun _ h => absurd h List.not_mem_nil⟩
theorem zk_d_29_0 : zl_29_0.all (zk_qok method_4_code) = true := by decide +kernel
theorem zk_d_29 : ∀ c ∈ zl_29, c.2.all (zk_qok method_4_code) = true := List.forall_mem_cons.mpr ⟨zk_d_29_0, fun _ h => absurd h List.not_mem_nil⟩
theorem zk_d_30_0 : zl_30_0.all (zk_qok prog_1_method_3_code) = true := by decide +kernel
theorem zk_d_30 : ∀ c ∈ zl_30, c.2.all (zk_qok prog_1_method_3_code) = true := List.forall_mem_cons.mpr ⟨zk_d_30_0, fun _ h => absurd h List.not_mem_nil⟩
theorem zk_d_31_0 : zl_31_0.all (zk_qok method_5_code) = true := by decide +kernel
theorem zk_d_31 : ∀ c ∈ zl_31, c.2.all (zk_qok method_5_code) = true := List.forall_mem_cons.mpr ⟨zk_d_31_0, fun _ h => absurd h List.not_mem_nil⟩
theorem zk_d_32_0 : zl_32_0.all (zk_qok prog_1_method_4_code) = true := by decide +kernel
theorem zk_d_32 : ∀ c ∈ zl_32, c.2.all (zk_qok prog_1_method_4_code) = true := List.forall_mem_cons.mpr ⟨zk_d_32_0, fun _ h => absurd h List.not_mem_nil⟩
theorem zk_d_33_0 : zl_33_0.all (zk_qok method_6_code) = true := by decide +kernel
theorem zk_d_33 : ∀ c ∈ zl_33, c.2.all (zk_qok method_6_code) = true := List.forall_mem_cons.mpr ⟨zk_d_33_0, fun _ h => absurd h List.not_mem_nil⟩
theorem zk_d_34_0 : zl_34_0.all (zk_qok prog_1_method_5_code) = true := by decide +kernel
theorem zk_d_34_1 : zl_34_1.all (zk_qok prog_1_method_5_code) = true := by decide +kernel
theorem zk_d_34 : ∀ c ∈ zl_34, c.2.all (zk_qok prog_1_method_5_code) = true := List.forall_mem_cons.mpr ⟨zk_d_34_0, List.forall_mem_cons.mpr ⟨zk_d_34_1, fun _ h => absurd h List.not_mem_nil⟩⟩
theorem zk_d_35_0 : zl_35_0.all (zk_qok prog_4_method_2_code) = true := by decide +kernel
theorem zk_d_35 : ∀ c ∈ zl_35, c.2.all (zk_qok prog_4_method_2_code) = true := List.forall_mem_cons.mpr ⟨zk_d_35_0, fun _ h => absurd h List.not_mem_nil⟩
theorem zk_d_36_0 : zl_36_0.all (zk_qok method_7_code) = true := by decide +kernel
theorem zk_d_36 : ∀ c ∈ zl_36, c.2.all (zk_qok method_7_code) = true := List.forall_mem_cons.mpr ⟨zk_d_36_0, fun _ h => absurd h List.not_mem_nil⟩
theorem zk_d_37_0 : zl_37_0.all (zk_qok prog_1_method_7_code) = true := by decide +kernel
theorem zk_d_37 : ∀ c ∈ zl_37, c.2.all (zk_qok prog_1_method_7_code) = true := List.forall_mem_cons.mpr ⟨zk_d_37_0, fun _ h => absurd h List.not_mem_nil⟩
theorem zk_d_38_0 : zl_38_0.all (zk_qok method_8_code) = true := by decide +kernel
theorem zk_d_38 : ∀ c ∈ zl_38, c.2.all (zk_qok method_8_code) = true := List.forall_mem_cons.mpr ⟨zk_d_38_0, fun _ h => absurd h List.not_mem_nil⟩
theorem zk_d_39_0 : zl_39_0.all (zk_qok prog_1_method_8_code) = true := by decide +kernel
theorem zk_d_39 : ∀ c ∈ zl_39, c.2.all (zk_qok prog_1_method_8_code) = true := List.forall_mem_cons.mpr ⟨zk_d_39_0, fun _ h => absurd h List.not_mem_nil⟩
theorem zk_d_40_0 : zl_40_0.all (zk_qok method_9_code) = true := by decide +kernel
theorem zk_d_40 : ∀ c ∈ zl_40, c.2.all (zk_qok method_9_code) = true := List.forall_mem_cons.mpr ⟨zk_d_40_0, fun _ h => absurd h List.not_mem_nil⟩
theorem zk_d_41_0 : zl_41_0.all (zk_qok prog_1_method_9_code) = true := by decide +kernel
theorem zk_d_41_1 : zl_41_1.all (zk_qok prog_1_method_9_code) = true := by decide +kernel
theorem zk_d_41 : ∀ c ∈ zl_41, c.2.all (zk_qok prog_1_method_9_code) = true := List.forall_mem_cons.mpr ⟨zk_d_41_0, List.forall_mem_cons.mpr ⟨zk_d_41_1, fun _ h => absurd h List.not_mem_nil⟩⟩
theorem zk_d_42_0 : zl_42_0.all (zk_qok prog_1_method_25_code) = true := by decide +kernel
theorem zk_d_42 : ∀ c ∈ zl_42, c.2.all (zk_qok prog_1_method_25_code) = true := List.forall_mem_cons.mpr ⟨zk_d_42_0, fun _ h => absurd h List.not_mem_nil⟩
theorem zk_d_43_0 : zl_43_0.all (zk_qok prog_5_method_16_code) = true := by decide +kernel
theorem zk_d_43_1 : zl_43_1.all (zk_qok prog_5_method_16_code) = true := by decide +kernel
theorem zk_d_43 : ∀ c ∈ zl_43, c.2.all (zk_qok prog_5_method_16_code) = true := List.forall_mem_cons.mpr ⟨zk_d_43_0, List.forall_mem_cons.mpr ⟨zk_d_43_1, fun _ h => absurd h List.not_mem_nil⟩⟩
theorem zk_d_44_0 : zl_44_0.all (zk_qok prog_5_method_15_code) = true := by decide +kernel
theorem zk_d_44_1 : zl_44_1.all (zk_qok prog_5_method_15_code) = true := by decide +kernel
theorem zk_d_44 : ∀ c ∈ zl_44, c.2.all (zk_qok prog_5_method_15_code) = true := List.forall_mem_cons.mpr ⟨zk_d_44_0, List.forall_mem_cons.mpr ⟨zk_d_44_1, fun _ h => absurd h List.not_mem_nil⟩⟩
theorem zk_d_45_0 : zl_45_0.all (zk_qok prog_5_method_5_code) = true := by decide +kernel
theorem zk_d_45 : ∀ c ∈ zl_45, c.2.all (zk_qok prog_5_method_5_code) = true := List.forall_mem_cons.mpr ⟨zk_d_45_0, fun _ h => absurd h List.not_mem_nil⟩
theorem zk_d_46_0 : zl_46_0.all (zk_qok prog_5_method_7_code) = true := by decide +kernel
theorem zk_d_46 : ∀ c ∈ zl_46, c.2.all (zk_qok prog_5_method_7_code) = true := List.forall_mem_cons.mpr ⟨zk_d_46_0, fun _ h => absurd h List.not_mem_nil⟩
theorem zk_d_47_0 : zl_47_0.all (zk_qok prog_5_method_6_code) = true := by decide +kernel
theorem zk_d_47 : ∀ c ∈ zl_47, c.2.all (zk_qok prog_5_method_6_code) = true := List.forall_mem_cons.mpr ⟨zk_d_47_0, fun _ h => absurd h List.not_mem_nil⟩
theorem zk_d_48_0 : zl_48_0.all (zk_qok prog_5_method_3_code) = true := by decide +kernel
theorem zk_d_48 : ∀ c ∈ zl_48, c.2.all (zk_qok prog_5_method_3_code) = true := List.forall_mem_cons.mpr ⟨zk_d_48_0, fun _ h => absurd h List.not_mem_nil⟩
theorem zk_d_49_0 : zl_49_0.all (zk_qok prog_1_method_28_code) = true := by decide +kernel
theorem zk_d_49 : ∀ c ∈ zl_49, c.2.all (zk_qok prog_1_method_28_code) = true := List.forall_mem_cons.mpr ⟨zk_d_49_0, fun _ h => absurd h List.not_mem_nil⟩
theorem zk_d_50_0 : zl_50_0.all (zk_qok prog_5_method_11_code) = true := by decide +kernel
theorem zk_d_50 : ∀ c ∈ zl_50, c.2.all (zk_qok prog_5_method_11_code) = true := List.forall_mem_cons.mpr ⟨zk_d_50_0, fun _ h => absurd h List.not_mem_nil⟩
theorem zk_d_51_0 : zl_51_0.all (zk_qok prog_5_method_12_code) = true := by decide +kernel
theorem zk_d_51 : ∀ c ∈ zl_51, c.2.all (zk_qok prog_5_method_12_code) = true := List.forall_mem_cons.mpr ⟨zk_d_51_0, fun _ h => absurd h List.not_mem_nil⟩
theorem zk_d_52_0 : zl_52_0.all (zk_qok prog_5_method_13_code) = true := by decide +kernel
theorem zk_d_52 : ∀ c ∈ zl_52, c.2.all (zk_qok prog_5_method_13_code) = true := List.forall_mem_cons.mpr ⟨zk_d_52_0, fun _ h => absurd h List.not_mem_nil⟩
theorem zk_d_53_0 : zl_53_0.all (zk_qok prog_5_method_10_code) = true := by decide +kernel
theorem zk_d_53 : ∀ c ∈ zl_53, c.2.all (zk_qok prog_5_method_10_code) = true := List.forall_mem_cons.mpr ⟨zk_d_53_0, fun _ h => absurd h List.not_mem_nil⟩
theorem zk_d_54_0 : zl_54_0.all (zk_qok method_10_code) = true := by decide +kernel
theorem zk_d_54 : ∀ c ∈ zl_54, c.2.all (zk_qok method_10_code) = true := List.forall_mem_cons.mpr ⟨zk_d_54_0, fun _ h => absurd h List.not_mem_nil⟩
theorem zk_d_55_0 : zl_55_0.all (zk_qok prog_1_method_10_code) = true := by decide +kernel
theorem zk_d_55_1 : zl_55_1.all (zk_qok prog_1_method_10_code) = true := by decide +kernel
theorem zk_d_55_2 : zl_55_2.all (zk_qok prog_1_method_10_code) = true := by decide +kernel
theorem zk_d_55_3 : zl_55_3.all (zk_qok prog_1_method_10_code) = true := by decide +kernel
theorem zk_d_55 : ∀ c ∈ zl_55, c.2.all (zk_qok prog_1_method_10_code) = true := List.forall_mem_cons.mpr ⟨zk_d_55_0, List.forall_mem_cons.mpr ⟨zk_d_55_1, List.forall_mem_cons.mpr ⟨zk_d_55_2, List.forall_mem_cons.mpr ⟨zk_d_55_3, fun _ h => absurd h List.not_mem_nil⟩⟩⟩⟩
theorem zk_d_56_0 : zl_56_0.all (zk_qok prog_5_method_14_code) = true := by decide +kernel
theorem zk_d_56 : ∀ c ∈ zl_56, c.2.all (zk_qok prog_5_method_14_code) = true := List.forall_mem_cons.mpr ⟨zk_d_56_0, fun _ h => absurd h List.not_mem_nil⟩
theorem zk_d_57_0 : zl_57_0.all (zk_qok prog_1_method_29_code) = true := by decide +kernel
theorem zk_d_57 : ∀ c ∈ zl_57, c.2.all (zk_qok prog_1_method_29_code) = true := List.forall_mem_cons.mpr ⟨zk_d_57_0, fun _ h => absurd h List.not_mem_nil⟩
theorem zk_d_58_0 : zl_58_0.all (zk_qok prog_5_method_9_code) = true := by decide +kernel
theorem zk_d_58 : ∀ c ∈ zl_58, c.2.all (zk_qok prog_5_method_9_code) = true := List.forall_mem_cons.mpr ⟨zk_d_58_0, fun _ h => absurd h List.not_mem_nil⟩
theorem zk_d_59_0 : zl_59_0.all (zk_qok prog_5_method_4_code) = true := by decide +kernel
theorem zk_d_59 : ∀ c ∈ zl_59, c.2.all (zk_qok prog_5_method_4_code) = true := List.forall_mem_cons.mpr ⟨zk_d_59_0, fun _ h => absurd h List.not_mem_nil⟩
theorem zk_d_60_0 : zl_60_0.all (zk_qok prog_2_method_2_code) = true := by decide +kernel
theorem zk_d_60 : ∀ c ∈ zl_60, c.2.all (zk_qok prog_2_method_2_code) = true := List.forall_mem_cons.mpr ⟨zk_d_60_0, fun _ h => absurd h List.not_mem_nil⟩
theorem zk_d_61_0 : zl_61_0.all (zk_qok prog_2_method_3_code) = true := by decide +kernel
theorem zk_d_61 : ∀ c ∈ zl_61, c.2.all (zk_qok prog_2_method_3_code) = true := List.forall_mem_cons.mpr ⟨zk_d_61_0, fun _ h => absurd h List.not_mem_nil⟩
theorem zk_d_62_0 : zl_62_0.all (zk_qok prog_5_method_23_code) = true := by decide +kernel
theorem zk_d_62_1 : zl_62_1.all (zk_qok prog_5_method_23_code) = true := by decide +kernel
theorem zk_d_62_2 : zl_62_2.all (zk_qok prog_5_method_23_code) = true := by decide +kernel
theorem zk_d_62 : ∀ c ∈ zl_62, c.2.all (zk_qok prog_5_method_23_code) = true := List.forall_mem_cons.mpr ⟨zk_d_62_0, List.forall_mem_cons.mpr ⟨zk_d_62_1, List.forall_mem_cons.mpr ⟨zk_d_62_2, fun _ h => absurd h List.not_mem_nil⟩⟩⟩
theorem zk_d_63_0 : zl_63_0.all (zk_qok prog_5_method_24_code) = true := by decide +kernel
theorem zk_d_63 : ∀ c ∈ zl_63, c.2.all (zk_qok prog_5_method_24_code) = true := List.forall_mem_cons.mpr ⟨zk_d_63_0, fun _ h => absurd h List.not_mem_nil⟩
theorem zk_d_64_0 : zl_64_0.all (zk_qok prog_5_method_27_code) = true := by decide +kernel
theorem zk_d_64 : ∀ c ∈ zl_64, c.2.all (zk_qok prog_5_method_27_code) = true := List.forall_mem_cons.mpr ⟨zk_d_64_0, fun _ h => absurd h List.not_mem_nil⟩
theorem zk_d_65_0 : zl_65_0.all (zk_qok prog_5_method_28_code) = true := by decide +kernel
theorem zk_d_65_1 : zl_65_1.all (zk_qok prog_5_method_28_code) = true := by decide +kernel
theorem zk_d_65_2 : zl_65_2.all (zk_qok prog_5_method_28_code) = true := by decide +kernel
theorem zk_d_65_3 : zl_65_3.all (zk_qok prog_5_method_28_code) = true := by decide +kernel
theorem zk_d_65 : ∀ c ∈ zl_65, c.2.all (zk_qok prog_5_method_28_code) = true := List.forall_mem_cons.mpr ⟨zk_d_65_0, List.forall_mem_cons.mpr ⟨zk_d_65_1, List.forall_mem_cons.mpr ⟨zk_d_65_2, List.forall_mem_cons.mpr ⟨zk_d_65_3, fun _ h => absurd h List.not_mem_nil⟩⟩⟩⟩
theorem zk_d_66_0 : zl_66_0.all (zk_qok prog_2_method_6_code) = true := by decide +kernel
theorem zk_d_66 : ∀ c ∈ zl_66, c.2.all (zk_qok prog_2_method_6_code) = true := List.forall_mem_cons.mpr ⟨zk_d_66_0, fun _ h => absurd h List.not_mem_nil⟩
theorem zk_d_67_0 : zl_67_0.all (zk_qok prog_2_method_5_code) = true := by decide +kernel
theorem zk_d_67 : ∀ c ∈ zl_67, c.2.all (zk_qok prog_2_method_5_code) = true := List.forall_mem_cons.mpr ⟨zk_d_67_0, fun _ h => absurd h List.not_mem_nil⟩
theorem zk_d_68_0 : zl_68_0.all (zk_qok prog_5_method_29_code) = true := by decide +kernel
theorem zk_d_68 : ∀ c ∈ zl_68, c.2.all (zk_qok prog_5_method_29_code) = true := List.forall_mem_cons.mpr ⟨zk_d_68_0, fun _ h => absurd h List.not_mem_nil⟩
theorem zk_d_69_0 : zl_69_0.all (zk_qok prog_5_method_30_code) = true := by decide +kernel
theorem zk_d_69_1 : zl_69_1.all (zk_qok prog_5_method_30_code) = true := by decide +kernel
theorem zk_d_69_2 : zl_69_2.all (zk_qok prog_5_method_30_code) = true := by decide +kernel
theorem zk_d_69_3 : zl_69_3.all (zk_qok prog_5_method_30_code) = true := by decide +kernel
theorem zk_d_69 : ∀ c ∈ zl_69, c.2.all (zk_qok prog_5_method_30_code) = true := List.forall_mem_cons.mpr ⟨zk_d_69_0, List.forall_mem_cons.mpr ⟨zk_d_69_1, List.forall_mem_cons.mpr ⟨zk_d_69_2, List.forall_mem_cons.mpr ⟨zk_d_69_3, fun _ h => absurd h List.not_mem_nil⟩⟩⟩⟩
theorem zk_d_70_0 : zl_70_0.all (zk_qok prog_5_method_31_code) = true := by decide +kernel
theorem zk_d_70_1 : zl_70_1.all (zk_qok prog_5_method_31_code) = true := by decide +kernel
theorem zk_d_70 : ∀ c ∈ zl_70, c.2.all (zk_qok prog_5_method_31_code) = true := List.forall_mem_cons.mpr ⟨zk_d_70_0, List.forall_mem_cons.mpr ⟨zk_d_70_1, fun _ h => absurd h List.not_mem_nil⟩⟩
theorem zk_d_71_0 : zl_71_0.all (zk_qok prog_5_method_8_code) = true := by decide +kernel
theorem zk_d_71 : ∀ c ∈ zl_71, c.2.all (zk_qok prog_5_method_8_code) = true := List.forall_mem_cons.mpr ⟨zk_d_71_0, fun _ h => absurd h List.not_mem_nil⟩
theorem zk_d_72_0 : zl_72_0.all (zk_qok prog_5_method_25_code) = true := by decide +kernel
theorem zk_d_72_1 : zl_72_1.all (zk_qok prog_5_method_25_code) = true := by decide +kernel
theorem zk_d_72_2 : zl_72_2.all (zk_qok prog_5_method_25_code) = true := by decide +kernel
theorem zk_d_72 : ∀ c ∈ zl_72, c.2.all (zk_qok prog_5_method_25_code) = true := List.forall_mem_cons.mpr ⟨zk_d_72_0, List.forall_mem_cons.mpr ⟨zk_d_72_1, List.forall_mem_cons.mpr ⟨zk_d_72_2, fun _ h => absurd h List.not_mem_nil⟩⟩⟩
theorem zk_d_73_0 : zl_73_0.all (zk_qok prog_5_method_26_code) = true := by decide +kernel
theorem zk_d_73 : ∀ c ∈ zl_73, c.2.all (zk_qok prog_5_method_26_code) = true := List.forall_mem_cons.mpr ⟨zk_d_73_0, fun _ h => absurd h List.not_mem_nil⟩
theorem zk_d_74_0 : zl_74_0.all (zk_qok prog_5_method_22_code) = true := by decide +kernel
theorem zk_d_74 : ∀ c ∈ zl_74, c.2.all (zk_qok prog_5_method_22_code) = true := List.forall_mem_cons.mpr ⟨zk_d_74_0, fun _ h => absurd h List.not_mem_nil⟩
theorem zk_d_75_0 : zl_75_0.all (zk_qok prog_5_method_35_code) = true := by decide +kernel
theorem zk_d_75_1 : zl_75_1.all (zk_qok prog_5_method_35_code) = true := by decide +kernel
theorem zk_d_75_2 : zl_75_2.all (zk_qok prog_5_method_35_code) = true := by decide +kernel
theorem zk_d_75_3 : zl_75_3.all (zk_qok prog_5_method_35_code) = true := by decide +kernel
theorem zk_d_75 : ∀ c ∈ zl_75, c.2.all (zk_qok prog_5_method_35_code) = true := List.forall_mem_cons.mpr ⟨zk_d_75_0, List.forall_mem_cons.mpr ⟨zk_d_75_1, List.forall_mem_cons.mpr ⟨zk_d_75_2, List.forall_mem_cons.mpr ⟨zk_d_75_3, fun _ h => absurd h List.not_mem_nil⟩⟩⟩⟩
theorem zk_d_76_0 : zl_76_0.all (zk_qok prog_4_method_3_code) = true := by decide +kernel
theorem zk_d_76 : ∀ c ∈ zl_76, c.2.all (zk_qok prog_4_method_3_code) = true := List.forall_mem_cons.mpr ⟨zk_d_76_0, fun _ h => absurd h List.not_mem_nil⟩
theorem zk_d_77_0 : zl_77_0.all (zk_qok prog_4_method_4_code) = true := by decide +kernel
theorem zk_d_77_1 : zl_77_1.all (zk_qok prog_4_method_4_code) = true := by decide +kernel
theorem zk_d_77 : ∀ c ∈ zl_77, c.2.all (zk_qok prog_4_method_4_code) = true := List.forall_mem_cons.mpr ⟨zk_d_77_0, List.forall_mem_cons.mpr ⟨zk_d_77_1, fun _ h => absurd h List.not_mem_nil⟩⟩
theorem zk_d_78_0 : zl_78_0.all (zk_qok prog_5_method_33_code) = true := by decide +kernel
theorem zk_d_78 : ∀ c ∈ zl_78, c.2.all (zk_qok prog_5_method_33_code) = true := List.forall_mem_cons.mpr ⟨zk_d_78_0, fun _ h => absurd h List.not_mem_nil⟩
theorem zk_d_79_0 : zl_79_0.all (zk_qok prog_2_method_7_code) = true := by decide +kernel
theorem zk_d_79 : ∀ c ∈ zl_79, c.2.all (zk_qok prog_2_method_7_code) = true := List.forall_mem_cons.mpr ⟨zk_d_79_0, fun _ h => absurd h List.not_mem_nil⟩
theorem zk_d_80_0 : zl_80_0.all (zk_qok prog_5_method_36_code) = true := by decide +kernel
theorem zk_d_80_1 : zl_80_1.all (zk_qok prog_5_method_36_code) = true := by decide +kernel
theorem zk_d_80_2 : zl_80_2.all (zk_qok prog_5_method_36_code) = true := by decide +kernel
theorem zk_d_80 : ∀ c ∈ zl_80, c.2.all (zk_qok prog_5_method_36_code) = true := List.forall_mem_cons.mpr ⟨zk_d_80_0, List.forall_mem_cons.mpr ⟨zk_d_80_1, List.forall_mem_cons.mpr ⟨zk_d_80_2, fun _ h => absurd h List.not_mem_nil⟩⟩⟩
theorem zk_d_81_0 : zl_81_0.all (zk_qok prog_14_method_66_code) = true := by decide +kernel
theorem zk_d_81 : ∀ c ∈ zl_81, c.2.all (zk_qok prog_14_method_66_code) = true := List.forall_mem_cons.mpr ⟨zk_d_81_0, fun _ h => absurd h List.not_mem_nil⟩
theorem zk_d_82_0 : zl_82_0.all (zk_qok method_11_code) = true := by decide +kernel
theorem zk_d_82 : ∀ c ∈ zl_82, c.2.all (zk_qok method_11_code) = true := List.forall_mem_cons.mpr ⟨zk_d_82_0, fun _ h => absurd h List.not_mem_nil⟩
theorem zk_d_83_0 : zl_83_0.all (zk_qok prog_1_method_11_code) = true := by decide +kernel
theorem zk_d_83_1 : zl_83_1.all (zk_qok prog_1_method_11_code) = true := by decide +kernel
theorem zk_d_83_2 : zl_83_2.all (zk_qok prog_1_method_11_code) = true := by decide +kernel
theorem zk_d_83_3 : zl_83_3.all (zk_qok prog_1_method_11_code) = true := by decide +kernel
theorem zk_d_83 : ∀ c ∈ zl_83, c.2.all (zk_qok prog_1_method_11_code) = true := List.forall_mem_cons.mpr ⟨zk_d_83_0, List.forall_mem_cons.mpr ⟨zk_d_83_1, List.forall_mem_cons.mpr ⟨zk_d_83_2, List.forall_mem_cons.mpr ⟨zk_d_83_3, fun _ h => absurd h List.not_mem_nil⟩⟩⟩⟩
theorem zk_d_84_0 : zl_84_0.all (zk_qok prog_2_method_4_code) = true := by decide +kernel
theorem zk_d_84 : ∀ c ∈ zl_84, c.2.all (zk_qok prog_2_method_4_code) = true := List.forall_mem_cons.mpr ⟨zk_d_84_0, fun _ h => absurd h List.not_mem_nil⟩
theorem zk_d_85_0 : zl_85_0.all (zk_qok method_12_code) = true := by decide +kernel
theorem zk_d_85 : ∀ c ∈ zl_85, c.2.all (zk_qok method_12_code) = true := List.forall_mem_cons.mpr ⟨zk_d_85_0, fun _ h => absurd h List.not_mem_nil⟩
theorem zk_d_86_0 : zl_86_0.all (zk_qok prog_1_method_12_code) = true := by decide +kernel
theorem zk_d_86 : ∀ c ∈ zl_86, c.2.all (zk_qok prog_1_method_12_code) = true := List.forall_mem_cons.mpr ⟨zk_d_86_0, fun _ h => absurd h List.not_mem_nil⟩
theorem zk_d_87_0 : zl_87_0.all (zk_qok method_13_code) = true := by decide +kernel
theorem zk_d_87 : ∀ c ∈ zl_87, c.2.all (zk_qok method_13_code) = true := List.forall_mem_cons.mpr ⟨zk_d_87_0, fun _ h => absurd h List.not_mem_nil⟩
theorem zk_d_88_0 : zl_88_0.all (zk_qok prog_1_method_13_code) = true := by decide +kernel
theorem zk_d_88_1 : zl_88_1.all (zk_qok prog_1_method_13_code) = true := by decide +kernel
theorem zk_d_88 : ∀ c ∈ zl_88, c.2.all (zk_qok prog_1_method_13_code) = true := List.forall_mem_cons.mpr ⟨zk_d_88_0, List.forall_mem_cons.mpr ⟨zk_d_88_1, fun _ h => absurd h List.not_mem_nil⟩⟩
theorem zk_d_89_0 : zl_89_0.all (zk_qok method_14_code) = true := by decide +kernel
theorem zk_d_89 : ∀ c ∈ zl_89, c.2.all (zk_qok method_14_code) = true := List.forall_mem_cons.mpr ⟨zk_d_89_0, fun _ h => absurd h List.not_mem_nil⟩
theorem zk_d_90_0 : zl_90_0.all (zk_qok prog_1_method_14_code) = true := by decide +kernel
theorem zk_d_90 : ∀ c ∈ zl_90, c.2.all (zk_qok prog_1_method_14_code) = true := List.forall_mem_cons.mpr ⟨zk_d_90_0, fun _ h => absurd h List.not_mem_nil⟩
theorem zk_d_91_0 : zl_91_0.all (zk_qok method_15_code) = true := by decide +kernel
theorem zk_d_91 : ∀ c ∈ zl_91, c.2.all (zk_qok method_15_code) = true := List.forall_mem_cons.mpr ⟨zk_d_91_0, fun _ h => absurd h List.not_mem_nil⟩
theorem zk_d_92_0 : zl_92_0.all (zk_qok prog_1_method_15_code) = true := by decide +kernel
theorem zk_d_92 : ∀ c ∈ zl_92, c.2.all (zk_qok prog_1_method_15_code) = true := List.forall_mem_cons.mpr ⟨zk_d_92_0, fun _ h => absurd h List.not_mem_nil⟩
theorem zk_d_93_0 : zl_93_0.all (zk_qok prog_5_method_21_code) = true := by decide +kernel
theorem zk_d_93_1 : zl_93_1.all (zk_qok prog_5_method_21_code) = true := by decide +kernel
theorem zk_d_93 : ∀ c ∈ zl_93, c.2.all (zk_qok prog_5_method_21_code) = true := List.forall_mem_cons.mpr ⟨zk_d_93_0, List.forall_mem_cons.mpr ⟨zk_d_93_1, fun _ h => absurd h List.not_mem_nil⟩⟩
theorem zk_d_94_0 : zl_94_0.all (zk_qok method_16_code) = true := by decide +kernel
theorem zk_d_94 : ∀ c ∈ zl_94, c.2.all (zk_qok method_16_code) = true := List.forall_mem_cons.mpr ⟨zk_d_94_0, fun _ h => absurd h List.not_mem_nil⟩
theorem zk_d_95_0 : zl_95_0.all (zk_qok prog_1_method_16_code) = true := by decide +kernel
theorem zk_d_95 : ∀ c ∈ zl_95, c.2.all (zk_qok prog_1_method_16_code) = true := List.forall_mem_cons.mpr ⟨zk_d_95_0, fun _ h => absurd h List.not_mem_nil⟩
theorem zk_d_96_0 : zl_96_0.all (zk_qok prog_5_method_17_code) = true := by decide +kernel
theorem zk_d_96 : ∀ c ∈ zl_96, c.2.all (zk_qok prog_5_method_17_code) = true := List.forall_mem_cons.mpr ⟨zk_d_96_0, fun _ h => absurd h List.not_mem_nil⟩
theorem zk_d_97_0 : zl_97_0.all (zk_qok method_17_code) = true := by decide +kernel
theorem zk_d_97 : ∀ c ∈ zl_97, c.2.all (zk_qok method_17_code) = true := List.forall_mem_cons.mpr ⟨zk_d_97_0, fun _ h => absurd h List.not_mem_nil⟩
theorem zk_d_98_0 : zl_98_0.all (zk_qok prog_1_method_17_code) = true := by decide +kernel
theorem zk_d_98 : ∀ c ∈ zl_98, c.2.all (zk_qok prog_1_method_17_code) = true := List.forall_mem_cons.mpr ⟨zk_d_98_0, fun _ h => absurd h List.not_mem_nil⟩
theorem zk_d_99_0 : zl_99_0.all (zk_qok prog_5_method_18_code) = true := by decide +kernel
theorem zk_d_99_1 : zl_99_1.all (zk_qok prog_5_method_18_code) = true := by decide +kernel
theorem zk_d_99 : ∀ c ∈ zl_99, c.2.all (zk_qok prog_5_method_18_code) = true := List.forall_mem_cons.mpr ⟨zk_d_99_0, List.forall_mem_cons.mpr ⟨zk_d_99_1, fun _ h => absurd h List.not_mem_nil⟩⟩
theorem zk_d_100_0 : zl_100_0.all (zk_qok method_18_code) = true := by decide +kernel
theorem zk_d_100 : ∀ c ∈ zl_100, c.2.all (zk_qok method_18_code) = true := List.forall_mem_cons.mpr ⟨zk_d_100_0, fun _ h => absurd h List.not_mem_nil⟩
theorem zk_d_101_0 : zl_101_0.all (zk_qok prog_1_method_18_code) = true := by decide +kernel
theorem zk_d_101 : ∀ c ∈ zl_101, c.2.all (zk_qok prog_1_method_18_code) = true := List.forall_mem_cons.mpr ⟨zk_d_101_0, fun _ h => absurd h List.not_mem_nil⟩
theorem zk_d_102_0 : zl_102_0.all (zk_qok prog_1_method_26_code) = true := by decide +kernel
theorem zk_d_102 : ∀ c ∈ zl_102, c.2.all (zk_qok prog_1_method_26_code) = true := List.forall_mem_cons.mpr ⟨zk_d_102_0, fun _ h => absurd h List.not_mem_nil⟩
theorem zk_d_103_0 : zl_103_0.all (zk_qok prog_1_method_27_code) = true := by decide +kernel
theorem zk_d_103 : ∀ c ∈ zl_103, c.2.all (zk_qok prog_1_method_27_code) = true := List.forall_mem_cons.mpr ⟨zk_d_103_0, fun _ h => absurd h List.not_mem_nil⟩
theorem zk_d_104_0 : zl_104_0.all (zk_qok prog_5_method_19_code) = true := by decide +kernel
theorem zk_d_104_1 : zl_104_1.all (zk_qok prog_5_method_19_code) = true := by decide +kernel
theorem zk_d_104 : ∀ c ∈ zl_104, c.2.all (zk_qok prog_5_method_19_code) = true := List.forall_mem_cons.mpr ⟨zk_d_104_0, List.forall_mem_cons.mpr ⟨zk_d_104_1, fun _ h => absurd h List.not_mem_nil⟩⟩
theorem zk_d_105_0 : zl_105_0.all (zk_qok method_19_code) = true := by decide +kernel
theorem zk_d_105 : ∀ c ∈ zl_105, c.2.all (zk_qok method_19_code) = true := List.forall_mem_cons.mpr ⟨zk_d_105_0, fun _ h => absurd h List.not_mem_nil⟩
theorem zk_d_106_0 : zl_106_0.all (zk_qok prog_1_method_19_code) = true := by decide +kernel
theorem zk_d_106 : ∀ c ∈ zl_106, c.2.all (zk_qok prog_1_method_19_code) = true := List.forall_mem_cons.mpr ⟨zk_d_106_0, fun _ h => absurd h List.not_mem_nil⟩
theorem zk_d_107_0 : zl_107_0.all (zk_qok prog_5_method_20_code) = true := by decide +kernel
theorem zk_d_107_1 : zl_107_1.all (zk_qok prog_5_method_20_code) = true := by decide +kernel
theorem zk_d_107 : ∀ c ∈ zl_107, c.2.all (zk_qok prog_5_method_20_code) = true := List.forall_mem_cons.mpr ⟨zk_d_107_0, List.forall_mem_cons.mpr ⟨zk_d_107_1, fun _ h => absurd h List.not_mem_nil⟩⟩
theorem zk_d_108_0 : zl_108_0.all (zk_qok method_20_code) = true := by decide +kernel
theorem zk_d_108 : ∀ c ∈ zl_108, c.2.all (zk_qok method_20_code) = true := List.forall_mem_cons.mpr ⟨zk_d_108_0, fun _ h => absurd h List.not_mem_nil⟩
theorem zk_d_109_0 : zl_109_0.all (zk_qok prog_1_method_20_code) = true := by decide +kernel
theorem zk_d_109 : ∀ c ∈ zl_109, c.2.all (zk_qok prog_1_method_20_code) = true := List.forall_mem_cons.mpr ⟨zk_d_109_0, fun _ h => absurd h List.not_mem_nil⟩
theorem zk_d_110_0 : zl_110_0.all (zk_qok method_21_code) = true := by decide +kernel
theorem zk_d_110 : ∀ c ∈ zl_110, c.2.all (zk_qok method_21_code) = true := List.forall_mem_cons.mpr ⟨zk_d_110_0, fun _ h => absurd h List.not_mem_nil⟩
theorem zk_d_111_0 : zl_111_0.all (zk_qok prog_1_method_21_code) = true := by decide +kernel
theorem zk_d_111 : ∀ c ∈ zl_111, c.2.all (zk_qok prog_1_method_21_code) = true := List.forall_mem_cons.mpr ⟨zk_d_111_0, fun _ h => absurd h List.not_mem_nil⟩
theorem zk_d_112_0 : zl_112_0.all (zk_qok prog_3_method_6_code) = true := by decide +kernel
theorem zk_d_112 : ∀ c ∈ zl_112, c.2.all (zk_qok prog_3_method_6_code) = true := List.forall_mem_cons.mpr ⟨zk_d_112_0, fun _ h => absurd h List.not_mem_nil⟩
theorem zk_d_113_0 : zl_113_0.all (zk_qok prog_7_method_1_code) = true := by decide +kernel
theorem zk_d_113_1 : zl_113_1.all (zk_qok prog_7_method_1_code) = true := by decide +kernel
theorem zk_d_113_2 : zl_113_2.all (zk_qok prog_7_method_1_code) = true := by decide +kernel
theorem zk_d_113 : ∀ c ∈ zl_113, c.2.all (zk_qok prog_7_method_1_code) = true := List.forall_mem_cons.mpr ⟨zk_d_113_0, List.forall_mem_cons.mpr ⟨zk_d_113_1, List.forall_mem_cons.mpr ⟨zk_d_113_2, fun _ h => absurd h List.not_mem_nil⟩⟩⟩
theorem zk_d_114_0 : zl_114_0.all (zk_qok prog_7_method_2_code) = true := by decide +kernel
theorem zk_d_114 : ∀ c ∈ zl_114, c.2.all (zk_qok prog_7_method_2_code) = true := List.forall_mem_cons.mpr ⟨zk_d_114_0, fun _ h => absurd h List.not_mem_nil⟩
theorem zk_d_115_0 : zl_115_0.all (zk_qok prog_7_method_13_code) = true := by decide +kernel
theorem zk_d_115_1 : zl_115_1.all (zk_qok prog_7_method_13_code) = true := by decide +kernel
theorem zk_d_115 : ∀ c ∈ zl_115, c.2.all (zk_qok prog_7_method_13_code) = true := List.forall_mem_cons.mpr ⟨zk_d_115_0, List.forall_mem_cons.mpr ⟨zk_d_115_1, fun _ h => absurd h List.not_mem_nil⟩⟩
theorem zk_d_116_0 : zl_116_0.all (zk_qok prog_7_method_5_code) = true := by decide +kernel
theorem zk_d_116 : ∀ c ∈ zl_116, c.2.all (zk_qok prog_7_method_5_code) = true := List.forall_mem_cons.mpr ⟨zk_d_116_0, fun _ h => absurd h List.not_mem_nil⟩
theorem zk_d_117_0 : zl_117_0.all (zk_qok prog_7_method_3_code) = true := by decide +kernel
theorem zk_d_117 : ∀ c ∈ zl_117, c.2.all (zk_qok prog_7_method_3_code) = true := List.forall_mem_cons.mpr ⟨zk_d_117_0, fun _ h => absurd h List.not_mem_nil⟩
theorem zk_d_118_0 : zl_118_0.all (zk_qok prog_7_method_6_code) = true := by decide +kernel
theorem zk_d_118 : ∀ c ∈ zl_118, c.2.all (zk_qok prog_7_method_6_code) = true := List.forall_mem_cons.mpr ⟨zk_d_118_0, fun _ h => absurd h List.not_mem_nil⟩
theorem zk_d_119_0 : zl_119_0.all (zk_qok prog_7_method_4_code) = true := by decide +kernel
theorem zk_d_119 : ∀ c ∈ zl_119, c.2.all (zk_qok prog_7_method_4_code) = true := List.forall_mem_cons.mpr ⟨zk_d_119_0, fun _ h => absurd h List.not_mem_nil⟩
theorem zk_d_120_0 : zl_120_0.all (zk_qok prog_7_method_12_code) = true := by decide +kernel
theorem zk_d_120_1 : zl_120_1.all (zk_qok prog_7_method_12_code) = true := by decide +kernel
theorem zk_d_120 : ∀ c ∈ zl_120, c.2.all (zk_qok prog_7_method_12_code) = true := List.forall_mem_cons.mpr ⟨zk_d_120_0, List.forall_mem_cons.mpr ⟨zk_d_120_1, fun _ h => absurd h List.not_mem_nil⟩⟩
theorem zk_d_121_0 : zl_121_0.all (zk_qok prog_7_method_22_code) = true := by decide +kernel
theorem zk_d_121_1 : zl_121_1.all (zk_qok prog_7_method_22_code) = true := by decide +kernel
theorem zk_d_121_2 : zl_121_2.all (zk_qok prog_7_method_22_code) = true := by decide +kernel
theorem zk_d_121_3 : zl_121_3.all (zk_qok prog_7_method_22_code) = true := by decide +kernel
theorem zk_d_121 : ∀ c ∈ zl_121, c.2.all (zk_qok prog_7_method_22_code) = true := List.forall_mem_cons.mpr ⟨zk_d_121_0, List.forall_mem_cons.mpr ⟨zk_d_121_1, List.forall_mem_cons.mpr ⟨zk_d_121_2, List.forall_mem_cons.mpr ⟨zk_d_121_3, fun _ h => absurd h List.not_mem_nil⟩⟩⟩⟩
theorem zk_d_122_0 : zl_122_0.all (zk_qok prog_7_method_14_code) = true := by decide +kernel
theorem zk_d_122_1 : zl_122_1.all (zk_qok prog_7_method_14_code) = true := by decide +kernel
theorem zk_d_122 : ∀ c ∈ zl_122, c.2.all (zk_qok prog_7_method_14_code) = true := List.forall_mem_cons.mpr ⟨zk_d_122_0, List.forall_mem_cons.mpr ⟨zk_d_122_1, fun _ h => absurd h List.not_mem_nil⟩⟩
theorem zk_d_123_0 : zl_123_0.all (zk_qok prog_7_method_15_code) = true := by decide +kernel
theorem zk_d_123_1 : zl_123_1.all (zk_qok prog_7_method_15_code) = true := by decide +kernel
theorem zk_d_123 : ∀ c ∈ zl_123, c.2.all (zk_qok prog_7_method_15_code) = true := List.forall_mem_cons.mpr ⟨zk_d_123_0, List.forall_mem_cons.mpr ⟨zk_d_123_1, fun _ h => absurd h List.not_mem_nil⟩⟩
theorem zk_d_124_0 : zl_124_0.all (zk_qok prog_7_method_16_code) = true := by decide +kernel
theorem zk_d_124_1 : zl_124_1.all (zk_qok prog_7_method_16_code) = true := by decide +kernel
theorem zk_d_124_2 : zl_124_2.all (zk_qok prog_7_method_16_code) = true := by decide +kernel
theorem zk_d_124_3 : zl_124_3.all (zk_qok prog_7_method_16_code) = true := by decide +kernel
theorem zk_d_124 : ∀ c ∈ zl_124, c.2.all (zk_qok prog_7_method_16_code) = true := List.forall_mem_cons.mpr ⟨zk_d_124_0, List.forall_mem_cons.mpr ⟨zk_d_124_1, List.forall_mem_cons.mpr ⟨zk_d_124_2, List.forall_mem_cons.mpr ⟨zk_d_124_3, fun _ h => absurd h List.not_mem_nil⟩⟩⟩⟩
theorem zk_d_125_0 : zl_125_0.all (zk_qok prog_7_method_17_code) = true := by decide +kernel
theorem zk_d_125 : ∀ c ∈ zl_125, c.2.all (zk_qok prog_7_method_17_code) = true := List.forall_mem_cons.mpr ⟨zk_d_125_0, fun _ h => absurd h List.not_mem_nil⟩
theorem zk_d_126_0 : zl_126_0.all (zk_qok prog_7_method_18_code) = true := by decide +kernel
theorem zk_d_126 : ∀ c ∈ zl_126, c.2.all (zk_qok prog_7_method_18_code) = true := List.forall_mem_cons.mpr ⟨zk_d_126_0, fun _ h => absurd h List.not_mem_nil⟩
theorem zk_d_127_0 : zl_127_0.all (zk_qok prog_7_method_19_code) = true := by decide +kernel
theorem zk_d_127_1 : zl_127_1.all (zk_qok prog_7_method_19_code) = true := by decide +kernel
theorem zk_d_127 : ∀ c ∈ zl_127, c.2.all (zk_qok prog_7_method_19_code) = true := List.forall_mem_cons.mpr ⟨zk_d_127_0, List.forall_mem_cons.mpr ⟨zk_d_127_1, fun _ h => absurd h List.not_mem_nil⟩⟩
theorem zk_d_128_0 : zl_128_0.all (zk_qok prog_7_method_35_code) = true := by decide +kernel
theorem zk_d_128_1 : zl_128_1.all (zk_qok prog_7_method_35_code) = true := by decide +kernel
theorem zk_d_128_2 : zl_128_2.all (zk_qok prog_7_method_35_code) = true := by decide +kernel
theorem zk_d_128_3 : zl_128_3.all (zk_qok prog_7_method_35_code) = true := by decide +kernel
theorem zk_d_128_4 : zl_128_4.all (zk_qok prog_7_method_35_code) = true := by decide +kernel
theorem zk_d_128 : ∀ c ∈ zl_128, c.2.all (zk_qok prog_7_method_35_code) = true := List.forall_mem_cons.mpr ⟨zk_d_128_0, List.forall_mem_cons.mpr ⟨zk_d_128_1, List.forall_mem_cons.mpr ⟨zk_d_128_2, List.forall_mem_cons.mpr ⟨zk_d_128_3, List.forall_mem_cons.mpr ⟨zk_d_128_4, fun _ h => absurd h List.not_mem_nil⟩⟩⟩⟩⟩
theorem zk_d_129_0 : zl_129_0.all (zk_qok prog_7_method_7_code) = true := by decide +kernel
theorem zk_d_129 : ∀ c ∈ zl_129, c.2.all (zk_qok prog_7_method_7_code) = true := List.forall_mem_cons.mpr ⟨zk_d_129_0, fun _ h => absurd h List.not_mem_nil⟩
theorem zk_d_130_0 : zl_130_0.all (zk_qok prog_7_method_25_code) = true := by decide +kernel
theorem zk_d_130 : ∀ c ∈ zl_130, c.2.all (zk_qok prog_7_method_25_code) = true := List.forall_mem_cons.mpr ⟨zk_d_130_0, fun _ h => absurd h List.not_mem_nil⟩
theorem zk_d_131_0 : zl_131_0.all (zk_qok prog_7_method_34_code) = true := by decide +kernel
theorem zk_d_131 : ∀ c ∈ zl_131, c.2.all (zk_qok prog_7_method_34_code) = true := List.forall_mem_cons.mpr ⟨zk_d_131_0, fun _ h => absurd h List.not_mem_nil⟩
theorem zk_d_132_0 : zl_132_0.all (zk_qok prog_7_method_33_code) = true := by decide +kernel
theorem zk_d_132_1 : zl_132_1.all (zk_qok prog_7_method_33_code) = true := by decide +kernel
theorem zk_d_132_2 : zl_132_2.all (zk_qok prog_7_method_33_code) = true := by decide +kernel
theorem zk_d_132_3 : zl_132_3.all (zk_qok prog_7_method_33_code) = true := by decide +kernel
theorem zk_d_132 : ∀ c ∈ zl_132, c.2.all (zk_qok prog_7_method_33_code) = true := List.forall_mem_cons.mpr ⟨zk_d_132_0, List.forall_mem_cons.mpr ⟨zk_d_132_1, List.forall_mem_cons.mpr ⟨zk_d_132_2, List.forall_mem_cons.mpr ⟨zk_d_132_3, fun _ h => absurd h List.not_mem_nil⟩⟩⟩⟩
theorem zk_d_133_0 : zl_133_0.all (zk_qok prog_7_method_32_code) = true := by decide +kernel
theorem zk_d_133_1 : zl_133_1.all (zk_qok prog_7_method_32_code) = true := by decide +kernel
theorem zk_d_133_2 : zl_133_2.all (zk_qok prog_7_method_32_code) = true := by decide +kernel
theorem zk_d_133_3 : zl_133_3.all (zk_qok prog_7_method_32_code) = true := by decide +kernel
theorem zk_d_133_4 : zl_133_4.all (zk_qok prog_7_method_32_code) = true := by decide +kernel
theorem zk_d_133_5 : zl_133_5.all (zk_qok prog_7_method_32_code) = true := by decide +kernel
theorem zk_d_133 : ∀ c ∈ zl_133, c.2.all (zk_qok prog_7_method_32_code) = true := List.forall_mem_cons.mpr ⟨zk_d_133_0, List.forall_mem_cons.mpr ⟨zk_d_133_1, List.forall_mem_cons.mpr ⟨zk_d_133_2, List.forall_mem_cons.mpr ⟨zk_d_133_3, List.forall_mem_cons.mpr ⟨zk_d_133_4, List.forall_mem_cons.mpr ⟨zk_d_133_5, fun _ h => absurd h List.not_mem_nil⟩⟩⟩⟩⟩⟩
theorem zk_d_134_0 : zl_134_0.all (zk_qok prog_7_method_11_code) = true := by decide +kernel
theorem zk_d_134 : ∀ c ∈ zl_134, c.2.all (zk_qok prog_7_method_11_code) = true := List.forall_mem_cons.mpr ⟨zk_d_134_0, fun _ h => absurd h List.not_mem_nil⟩
theorem zk_d_135_0 : zl_135_0.all (zk_qok prog_7_method_10_code) = true := by decide +kernel
theorem zk_d_135_1 : zl_135_1.all (zk_qok prog_7_method_10_code) = true := by decide +kernel
theorem zk_d_135_2 : zl_135_2.all (zk_qok prog_7_method_10_code) = true := by decide +kernel
theorem zk_d_135 : ∀ c ∈ zl_135, c.2.all (zk_qok prog_7_method_10_code) = true := List.forall_mem_cons.mpr ⟨zk_d_135_0, List.forall_mem_cons.mpr ⟨zk_d_135_1, List.forall_mem_cons.mpr ⟨zk_d_135_2, fun _ h => absurd h List.not_mem_nil⟩⟩⟩
theorem zk_d_136_0 : zl_136_0.all (zk_qok prog_7_method_30_code) = true := by decide +kernel
theorem zk_d_136 : ∀ c ∈ zl_136, c.2.all (zk_qok prog_7_method_30_code) = true := List.forall_mem_cons.mpr ⟨zk_d_136_0, fun _ h => absurd h List.not_mem_nil⟩
theorem zk_d_137_0 : zl_137_0.all (zk_qok prog_7_method_20_code) = true := by decide +kernel
theorem zk_d_137_1 : zl_137_1.all (zk_qok prog_7_method_20_code) = true := by decide +kernel
theorem zk_d_137 : ∀ c ∈ zl_137, c.2.all (zk_qok prog_7_method_20_code) = true := List.forall_mem_cons.mpr ⟨zk_d_137_0, List.forall_mem_cons.mpr ⟨zk_d_137_1, fun _ h => absurd h List.not_mem_nil⟩⟩
theorem zk_d_138_0 : zl_138_0.all (zk_qok prog_7_method_9_code) = true := by decide +kernel
theorem zk_d_138_1 : zl_138_1.all (zk_qok prog_7_method_9_code) = true := by decide +kernel
theorem zk_d_138 : ∀ c ∈ zl_138, c.2.all (zk_qok prog_7_method_9_code) = true := List.forall_mem_cons.mpr ⟨zk_d_138_0, List.forall_mem_cons.mpr ⟨zk_d_138_1, fun _ h => absurd h List.not_mem_nil⟩⟩
theorem zk_d_139_0 : zl_139_0.all (zk_qok prog_7_method_29_code) = true := by decide +kernel
theorem zk_d_139_1 : zl_139_1.all (zk_qok prog_7_method_29_code) = true := by decide +kernel
theorem zk_d_139_2 : zl_139_2.all (zk_qok prog_7_method_29_code) = true := by decide +kernel
theorem zk_d_139_3 : zl_139_3.all (zk_qok prog_7_method_29_code) = true := by decide +kernel
theorem zk_d_139_4 : zl_139_4.all (zk_qok prog_7_method_29_code) = true := by decide +kernel
theorem zk_d_139_5 : zl_139_5.all (zk_qok prog_7_method_29_code) = true := by decide +kernel
theorem zk_d_139_6 : zl_139_6.all (zk_qok prog_7_method_29_code) = true := by decide +kernel
theorem zk_d_139_7 : zl_139_7.all (zk_qok prog_7_method_29_code) = true := by decide +kernel
theorem zk_d_139_8 : zl_139_8.all (zk_qok prog_7_method_29_code) = true := by decide +kernel
theorem zk_d_139 : ∀ c ∈ zl_139, c.2.all (zk_qok prog_7_method_29_code) = true := List.forall_mem_cons.mpr ⟨zk_d_139_0, List.forall_mem_cons.mpr ⟨zk_d_139_1, List.forall_mem_cons.mpr ⟨zk_d_139_2, List.forall_mem_cons.mpr ⟨zk_d_139_3, List.forall_mem_cons.mpr ⟨zk_d_139_4, List.forall_mem_cons.mpr ⟨zk_d_139_5, List.forall_mem_cons.mpr ⟨zk_d_139_6, List.forall_mem_cons.mpr ⟨zk_d_139_7, List.forall_mem_cons.mpr ⟨zk_d_139_8, fun _ h => absurd h List.not_mem_nil⟩⟩⟩⟩⟩⟩⟩⟩⟩
theorem zk_d_140_0 : zl_140_0.all (zk_qok prog_7_method_26_code) = true := by decide +kernel
theorem zk_d_140_1 : zl_140_1.all (zk_qok prog_7_method_26_code) = true := by decide +kernel
theorem zk_d_140_2 : zl_140_2.all (zk_qok prog_7_method_26_code) = true := by decide +kernel
theorem zk_d_140 : ∀ c ∈ zl_140, c.2.all (zk_qok prog_7_method_26_code) = true := List.forall_mem_cons.mpr ⟨zk_d_140_0, List.forall_mem_cons.mpr ⟨zk_d_140_1, List.forall_mem_cons.mpr ⟨zk_d_140_2, fun _ h => absurd h List.not_mem_nil⟩⟩⟩
theorem zk_d_141_0 : zl_141_0.all (zk_qok prog_7_method_23_code) = true := by decide +kernel
theorem zk_d_141 : ∀ c ∈ zl_141, c.2.all (zk_qok prog_7_method_23_code) = true := List.forall_mem_cons.mpr ⟨zk_d_141_0, fun _ h => absurd h List.not_mem_nil⟩
theorem zk_d_142_0 : zl_142_0.all (zk_qok prog_7_method_27_code) = true := by decide +kernel
theorem zk_d_142 : ∀ c ∈ zl_142, c.2.all (zk_qok prog_7_method_27_code) = true := List.forall_mem_cons.mpr ⟨zk_d_142_0, fun _ h => absurd h List.not_mem_nil⟩
theorem zk_d_143_0 : zl_143_0.all (zk_qok prog_7_method_28_code) = true := by decide +kernel
theorem zk_d_143_1 : zl_143_1.all (zk_qok prog_7_method_28_code) = true := by decide +kernel
theorem zk_d_143_2 : zl_143_2.all (zk_qok prog_7_method_28_code) = true := by decide +kernel
theorem zk_d_143_3 : zl_143_3.all (zk_qok prog_7_method_28_code) = true := by decide +kernel
theorem zk_d_143_4 : zl_143_4.all (zk_qok prog_7_method_28_code) = true := by decide +kernel
theorem zk_d_143 : ∀ c ∈ zl_143, c.2.all (zk_qok prog_7_method_28_code) = true := List.forall_mem_cons.mpr ⟨zk_d_143_0, List.forall_mem_cons.mpr ⟨zk_d_143_1, List.forall_mem_cons.mpr ⟨zk_d_143_2, List.forall_mem_cons.mpr ⟨zk_d_143_3, List.forall_mem_cons.mpr ⟨zk_d_143_4, fun _ h => absurd h List.not_mem_nil⟩⟩⟩⟩⟩
theorem zk_d_144_0 : zl_144_0.all (zk_qok prog_7_method_24_code) = true := by decide +kernel
theorem zk_d_144 : ∀ c ∈ zl_144, c.2.all (zk_qok prog_7_method_24_code) = true := List.forall_mem_cons.mpr ⟨zk_d_144_0, fun _ h => absurd h List.not_mem_nil⟩
theorem zk_d_145_0 : zl_145_0.all (zk_qok prog_7_method_31_code) = true := by decide +kernel
theorem zk_d_145_1 : zl_145_1.all (zk_qok prog_7_method_31_code) = true := by decide +kernel
theorem zk_d_145 : ∀ c ∈ zl_145, c.2.all (zk_qok prog_7_method_31_code) = true := List.forall_mem_cons.mpr ⟨zk_d_145_0, List.forall_mem_cons.mpr ⟨zk_d_145_1, fun _ h => absurd h List.not_mem_nil⟩⟩
theorem zk_d_146_0 : zl_146_0.all (zk_qok prog_7_method_36_code) = true := by decide +kernel
theorem zk_d_146_1 : zl_146_1.all (zk_qok prog_7_method_36_code) = true := by decide +kernel
theorem zk_d_146_2 : zl_146_2.all (zk_qok prog_7_method_36_code) = true := by decide +kernel
theorem zk_d_146 : ∀ c ∈ zl_146, c.2.all (zk_qok prog_7_method_36_code) = true := List.forall_mem_cons.mpr ⟨zk_d_146_0, List.forall_mem_cons.mpr ⟨zk_d_146_1, List.forall_mem_cons.mpr ⟨zk_d_146_2, fun _ h => absurd h List.not_mem_nil⟩⟩⟩
theorem zk_d_147_0 : zl_147_0.all (zk_qok prog_7_method_21_code) = true := by decide +kernel
theorem zk_d_147_1 : zl_147_1.all (zk_qok prog_7_method_21_code) = true := by decide +kernel
theorem zk_d_147 : ∀ c ∈ zl_147, c.2.all (zk_qok prog_7_method_21_code) = true := List.forall_mem_cons.mpr ⟨zk_d_147_0, List.forall_mem_cons.mpr ⟨zk_d_147_1, fun _ h => absurd h List.not_mem_nil⟩⟩
theorem zk_d_148_0 : zl_148_0.all (zk_qok prog_7_method_8_code) = true := by decide +kernel
theorem zk_d_148 : ∀ c ∈ zl_148, c.2.all (zk_qok prog_7_method_8_code) = true := List.forall_mem_cons.mpr ⟨zk_d_148_0, fun _ h => absurd h List.not_mem_nil⟩
theorem zk_d_149_0 : zl_149_0.all (zk_qok prog_7_method_37_code) = true := by decide +kernel
theorem zk_d_149_1 : zl_149_1.all (zk_qok prog_7_method_37_code) = true := by decide +kernel
theorem zk_d_149_2 : zl_149_2.all (zk_qok prog_7_method_37_code) = true := by decide +kernel
theorem zk_d_149_3 : zl_149_3.all (zk_qok prog_7_method_37_code) = true := by decide +kernel
theorem zk_d_149_4 : zl_149_4.all (zk_qok prog_7_method_37_code) = true := by decide +kernel
theorem zk_d_149 : ∀ c ∈ zl_149, c.2.all (zk_qok prog_7_method_37_code) = true := List.forall_mem_cons.mpr ⟨zk_d_149_0, List.forall_mem_cons.mpr ⟨zk_d_149_1, List.forall_mem_cons.mpr ⟨zk_d_149_2, List.forall_mem_cons.mpr ⟨zk_d_149_3, List.forall_mem_cons.mpr ⟨zk_d_149_4, fun _ h => absurd h List.not_mem_nil⟩⟩⟩⟩⟩
theorem zk_d_150_0 : zl_150_0.all (zk_qok prog_7_method_38_code) = true := by decide +kernel
theorem zk_d_150_1 : zl_150_1.all (zk_qok prog_7_method_38_code) = true := by decide +kernel
theorem zk_d_150_2 : zl_150_2.all (zk_qok prog_7_method_38_code) = true := by decide +kernel
theorem zk_d_150 : ∀ c ∈ zl_150, c.2.all (zk_qok prog_7_method_38_code) = true := List.forall_mem_cons.mpr ⟨zk_d_150_0, List.forall_mem_cons.mpr ⟨zk_d_150_1, List.forall_mem_cons.mpr ⟨zk_d_150_2, fun _ h => absurd h List.not_mem_nil⟩⟩⟩
theorem zk_d_151_0 : zl_151_0.all (zk_qok prog_7_method_39_code) = true := by decide +kernel
theorem zk_d_151_1 : zl_151_1.all (zk_qok prog_7_method_39_code) = true := by decide +kernel
theorem zk_d_151 : ∀ c ∈ zl_151, c.2.all (zk_qok prog_7_method_39_code) = true := List.forall_mem_cons.mpr ⟨zk_d_151_0, List.forall_mem_cons.mpr ⟨zk_d_151_1, fun _ h => absurd h List.not_mem_nil⟩⟩
theorem zk_d_152_0 : zl_152_0.all (zk_qok prog_7_method_40_code) = true := by decide +kernel
theorem zk_d_152_1 : zl_152_1.all (zk_qok prog_7_method_40_code) = true := by decide +kernel
theorem zk_d_152 : ∀ c ∈ zl_152, c.2.all (zk_qok prog_7_method_40_code) = true := List.forall_mem_cons.mpr ⟨zk_d_152_0, List.forall_mem_cons.mpr ⟨zk_d_152_1, fun _ h => absurd h List.not_mem_nil⟩⟩
theorem zk_d_153_0 : zl_153_0.all (zk_qok prog_7_method_41_code) = true := by decide +kernel
theorem zk_d_153_1 : zl_153_1.all (zk_qok prog_7_method_41_code) = true := by decide +kernel
theorem zk_d_153 : ∀ c ∈ zl_153, c.2.all (zk_qok prog_7_method_41_code) = true := List.forall_mem_cons.mpr ⟨zk_d_153_0, List.forall_mem_cons.mpr ⟨zk_d_153_1, fun _ h => absurd h List.not_mem_nil⟩⟩
theorem zk_d_154_0 : zl_154_0.all (zk_qok prog_7_method_43_code) = true := by decide +kernel
theorem zk_d_154 : ∀ c ∈ zl_154, c.2.all (zk_qok prog_7_method_43_code) = true := List.forall_mem_cons.mpr ⟨zk_d_154_0, fun _ h => absurd h List.not_mem_nil⟩
theorem zk_d_155_0 : zl_155_0.all (zk_qok prog_7_method_42_code) = true := by decide +kernel
theorem zk_d_155 : ∀ c ∈ zl_155, c.2.all (zk_qok prog_7_method_42_code) = true := List.forall_mem_cons.mpr ⟨zk_d_155_0, fun _ h => absurd h List.not_mem_nil⟩
theorem zk_d_156_0 : zl_156_0.all (zk_qok prog_7_method_45_code) = true := by decide +kernel
theorem zk_d_156_1 : zl_156_1.all (zk_qok prog_7_method_45_code) = true := by decide +kernel
theorem zk_d_156_2 : zl_156_2.all (zk_qok prog_7_method_45_code) = true := by decide +kernel
theorem zk_d_156_3 : zl_156_3.all (zk_qok prog_7_method_45_code) = true := by decide +kernel
theorem zk_d_156_4 : zl_156_4.all (zk_qok prog_7_method_45_code) = true := by decide +kernel
theorem zk_d_156 : ∀ c ∈ zl_156, c.2.all (zk_qok prog_7_method_45_code) = true := List.forall_mem_cons.mpr ⟨zk_d_156_0, List.forall_mem_cons.mpr ⟨zk_d_156_1, List.forall_mem_cons.mpr ⟨zk_d_156_2, List.forall_mem_cons.mpr ⟨zk_d_156_3, List.forall_mem_cons.mpr ⟨zk_d_156_4, fun _ h => absurd h List.not_mem_nil⟩⟩⟩⟩⟩
theorem zk_d_157_0 : zl_157_0.all (zk_qok prog_7_method_44_code) = true := by decide +kernel
theorem zk_d_157_1 : zl_157_1.all (zk_qok prog_7_method_44_code) = true := by decide +kernel
theorem zk_d_157_2 : zl_157_2.all (zk_qok prog_7_method_44_code) = true := by decide +kernel
theorem zk_d_157 : ∀ c ∈ zl_157, c.2.all (zk_qok prog_7_method_44_code) = true := List.forall_mem_cons.mpr ⟨zk_d_157_0, List.forall_mem_cons.mpr ⟨zk_d_157_1, List.forall_mem_cons.mpr ⟨zk_d_157_2, fun _ h => absurd h List.not_mem_nil⟩⟩⟩
theorem zk_d_158_0 : zl_158_0.all (zk_qok prog_7_method_46_code) = true := by decide +kernel
theorem zk_d_158_1 : zl_158_1.all (zk_qok prog_7_method_46_code) = true := by decide +kernel
theorem zk_d_158_2 : zl_158_2.all (zk_qok prog_7_method_46_code) = true := by decide +kernel
theorem zk_d_158 : ∀ c ∈ zl_158, c.2.all (zk_qok prog_7_method_46_code) = true := List.forall_mem_cons.mpr ⟨zk_d_158_0, List.forall_mem_cons.mpr ⟨zk_d_158_1, List.forall_mem_cons.mpr ⟨zk_d_158_2, fun _ h => absurd h List.not_mem_nil⟩⟩⟩
theorem zk_d_159_0 : zl_159_0.all (zk_qok prog_7_method_47_code) = true := by decide +kernel
theorem zk_d_159_1 : zl_159_1.all (zk_qok prog_7_method_47_code) = true := by decide +kernel
theorem zk_d_159_2 : zl_159_2.all (zk_qok prog_7_method_47_code) = true := by decide +kernel
theorem zk_d_159_3 : zl_159_3.all (zk_qok prog_7_method_47_code) = true := by decide +kernel
theorem zk_d_159 : ∀ c ∈ zl_159, c.2.all (zk_qok prog_7_method_47_code) = true := List.forall_mem_cons.mpr ⟨zk_d_159_0, List.forall_mem_cons.mpr ⟨zk_d_159_1, List.forall_mem_cons.mpr ⟨zk_d_159_2, List.forall_mem_cons.mpr ⟨zk_d_159_3, fun _ h => absurd h List.not_mem_nil⟩⟩⟩⟩
theorem zk_d_160_0 : zl_160_0.all (zk_qok prog_7_method_48_code) = true := by decide +kernel
theorem zk_d_160_1 : zl_160_1.all (zk_qok prog_7_method_48_code) = true := by decide +kernel
theorem zk_d_160 : ∀ c ∈ zl_160, c.2.all (zk_qok prog_7_method_48_code) = true := List.forall_mem_cons.mpr ⟨zk_d_160_0, List.forall_mem_cons.mpr ⟨zk_d_160_1, fun _ h => absurd h List.not_mem_nil⟩⟩
theorem zk_d_161_0 : zl_161_0.all (zk_qok prog_7_method_49_code) = true := by decide +kernel
theorem zk_d_161 : ∀ c ∈ zl_161, c.2.all (zk_qok prog_7_method_49_code) = true := List.forall_mem_cons.mpr ⟨zk_d_161_0, fun _ h => absurd h List.not_mem_nil⟩
theorem zk_d_162_0 : zl_162_0.all (zk_qok code) = true := by decide +kernel
theorem zk_d_162_1 : zl_162_1.all (zk_qok code) = true := by decide +kernel
theorem zk_d_162_2 : zl_162_2.all (zk_qok code) = true := by decide +kernel
theorem zk_d_162_3 : zl_162_3.all (zk_qok code) = true := by decide +kernel
theorem zk_d_162_4 : zl_162_4.all (zk_qok code) = true := by decide +kernel
theorem zk_d_162_5 : zl_162_5.all (zk_qok code) = true := by decide +kernel
theorem zk_d_162_6 : zl_162_6.all (zk_qok code) = true := by decide +kernel
theorem zk_d_162_7 : zl_162_7.all (zk_qok code) = true := by decide +kernel
theorem zk_d_162_8 : zl_162_8.all (zk_qok code) = true := by decide +kernel
theorem zk_d_162_9 : zl_162_9.all (zk_qok code) = true := by decide +kernel
theorem zk_d_162_10 : zl_162_10.all (zk_qok code) = true := by decide +kernel
theorem zk_d_162_11 : zl_162_11.all (zk_qok code) = true := by decide +kernel
theorem zk_d_162_12 : zl_162_12.all (zk_qok code) = true := by decide +kernel
theorem zk_d_162_13 : zl_162_13.all (zk_qok code) = true := by decide +kernel
theorem zk_d_162_14 : zl_162_14.all (zk_qok code) = true := by decide +kernel
theorem zk_d_162_15 : zl_162_15.all (zk_qok code) = true := by decide +kernel
theorem zk_d_162_16 : zl_162_16.all (zk_qok code) = true := by decide +kernel
theorem zk_d_162_17 : zl_162_17.all (zk_qok code) = true := by decide +kernel
theorem zk_d_162_18 : zl_162_18.all (zk_qok code) = true := by decide +kernel
theorem zk_d_162_19 : zl_162_19.all (zk_qok code) = true := by decide +kernel
theorem zk_d_162_20 : zl_162_20.all (zk_qok code) = true := by decide +kernel
theorem zk_d_162_21 : zl_162_21.all (zk_qok code) = true := by decide +kernel
theorem zk_d_162_22 : zl_162_22.all (zk_qok code) = true := by decide +kernel
theorem zk_d_162_23 : zl_162_23.all (zk_qok code) = true := by decide +kernel
theorem zk_d_162_24 : zl_162_24.all (zk_qok code) = true := by decide +kernel
theorem zk_d_162_25 : zl_162_25.all (zk_qok code) = true := by decide +kernel
theorem zk_d_162_26 : zl_162_26.all (zk_qok code) = true := by decide +kernel
theorem zk_d_162_27 : zl_162_27.all (zk_qok code) = true := by decide +kernel
theorem zk_d_162_28 : zl_162_28.all (zk_qok code) = true := by decide +kernel
theorem zk_d_162_29 : zl_162_29.all (zk_qok code) = true := by decide +kernel
theorem zk_d_162_30 : zl_162_30.all (zk_qok code) = true := by decide +kernel
theorem zk_d_162_31 : zl_162_31.all (zk_qok code) = true := by decide +kernel
theorem zk_d_162_32 : zl_162_32.all (zk_qok code) = true := by decide +kernel
theorem zk_d_162_33 : zl_162_33.all (zk_qok code) = true := by decide +kernel
theorem zk_d_162_34 : zl_162_34.all (zk_qok code) = true := by decide +kernel
theorem zk_d_162_35 : zl_162_35.all (zk_qok code) = true := by decide +kernel
theorem zk_d_162_36 : zl_162_36.all (zk_qok code) = true := by decide +kernel
theorem zk_d_162_37 : zl_162_37.all (zk_qok code) = true := by decide +kernel
theorem zk_d_162_38 : zl_162_38.all (zk_qok code) = true := by decide +kernel
theorem zk_d_162_39 : zl_162_39.all (zk_qok code) = true := by decide +kernel
theorem zk_d_162_40 : zl_162_40.all (zk_qok code) = true := by decide +kernel
theorem zk_d_162_41 : zl_162_41.all (zk_qok code) = true := by decide +kernel
theorem zk_d_162_42 : zl_162_42.all (zk_qok code) = true := by decide +kernel
theorem zk_d_162 : ∀ c ∈ zl_162, c.2.all (zk_qok code) = true := List.forall_mem_cons.mpr ⟨zk_d_162_0, List.forall_mem_cons.mpr ⟨zk_d_162_1, List.forall_mem_cons.mpr ⟨zk_d_162_2, List.forall_mem_cons.mpr ⟨zk_d_162_3, List.forall_mem_cons.mpr ⟨zk_d_162_4, List.forall_mem_cons.mpr ⟨zk_d_162_5, List.forall_mem_cons.mpr ⟨zk_d_162_6, List.forall_mem_cons.mpr ⟨zk_d_162_7, List.forall_mem_cons.mpr ⟨zk_d_162_8, List.forall_mem_cons.mpr ⟨zk_d_162_9, List.forall_mem_cons.mpr ⟨zk_d_162_10, List.forall_mem_cons.mpr ⟨zk_d_162_11, List.forall_mem_cons.mpr ⟨zk_d_162_12, List.forall_mem_cons.mpr ⟨zk_d_162_13, List.forall_mem_cons.mpr ⟨zk_d_162_14, List.forall_mem_cons.mpr ⟨zk_d_162_15, List.forall_mem_cons.mpr ⟨zk_d_162_16, List.forall_mem_cons.mpr ⟨zk_d_162_17, List.forall_mem_cons.mpr ⟨zk_d_162_18, List.forall_mem_cons.mpr ⟨zk_d_162_19, List.forall_mem_cons.mpr ⟨zk_d_162_20, List.forall_mem_cons.mpr ⟨zk_d_162_21, List.forall_mem_cons.mpr ⟨zk_d_162_22, List.forall_mem_cons.mpr ⟨zk_d_162_23, List.forall_mem_cons.mpr ⟨zk_d_162_24, List.forall_mem_cons.mpr ⟨zk_d_162_25, List.forall_mem_cons.mpr ⟨zk_d_162_26, List.forall_mem_cons.mpr ⟨zk_d_162_27, List.forall_mem_cons.mpr ⟨zk_d_162_28, List.forall_mem_cons.mpr ⟨zk_d_162_29, List.forall_mem_cons.mpr ⟨zk_d_162_30, List.forall_mem_cons.mpr ⟨zk_d_162_31, List.forall_mem_cons.mpr ⟨zk_d_162_32, List.forall_mem_cons.mpr ⟨zk_d_162_33, List.forall_mem_cons.mpr ⟨zk_d_162_34, List.forall_mem_cons.mpr ⟨zk_d_162_35, List.forall_mem_cons.mpr ⟨zk_d_162_36, List.forall_mem_cons.mpr ⟨zk_d_162_37, List.forall_mem_cons.mpr ⟨zk_d_162_38, List.forall_mem_cons.mpr ⟨zk_d_162_39, List.forall_mem_cons.mpr ⟨zk_d_162_40, List.forall_mem_cons.mpr ⟨zk_d_162_41, List.forall_mem_cons.mpr ⟨zk_d_162_42, fun _ h => absurd h List.not_mem_nil⟩⟩⟩⟩⟩⟩⟩⟩⟩⟩⟩⟩⟩⟩⟩⟩⟩⟩⟩⟩⟩⟩⟩⟩⟩⟩⟩⟩⟩⟩⟩⟩⟩⟩⟩⟩⟩⟩⟩⟩⟩⟩⟩
def zk_dP (M : Nat) : Prop := match zk_nth zk_codes M with
  | some c => ∀ q ∈ c, q.2.all (zk_qok (zk_by M)) = true
  | none => True
theorem zk_d_all : zk_AllP zk_dP 163 := ⟨⟨⟨⟨⟨⟨⟨⟨⟨⟨⟨⟨⟨⟨⟨⟨⟨⟨⟨⟨⟨⟨⟨⟨⟨⟨⟨⟨⟨⟨⟨⟨⟨⟨⟨⟨⟨⟨⟨⟨⟨⟨⟨⟨⟨⟨⟨⟨⟨⟨⟨⟨⟨⟨⟨⟨⟨⟨⟨⟨⟨⟨⟨⟨⟨⟨⟨⟨⟨⟨⟨⟨⟨⟨⟨⟨⟨⟨⟨⟨⟨⟨⟨⟨⟨⟨⟨⟨⟨⟨⟨⟨⟨⟨⟨⟨⟨⟨⟨⟨⟨⟨⟨⟨⟨⟨⟨⟨⟨⟨⟨⟨⟨⟨⟨⟨⟨⟨⟨⟨⟨⟨⟨⟨⟨⟨⟨⟨⟨⟨⟨⟨⟨⟨⟨⟨⟨⟨⟨⟨⟨⟨⟨⟨⟨⟨⟨⟨⟨⟨⟨⟨⟨⟨⟨⟨⟨⟨⟨⟨⟨⟨⟨trivial, zk_d_0⟩, zk_d_1⟩, zk_d_2⟩, zk_d_3⟩, zk_d_4⟩, zk_d_5⟩, zk_d_6⟩, zk_d_7⟩, zk_d_8⟩, zk_d_9⟩, zk_d_10⟩, zk_d_11⟩, zk_d_12⟩, zk_d_13⟩, zk_d_14⟩, zk_d_15⟩, zk_d_16⟩, zk_d_17⟩, zk_d_18⟩, zk_d_19⟩, zk_d_20⟩, zk_d_21⟩, zk_d_22⟩, zk_d_23⟩, zk_d_24⟩, zk_d_25⟩, zk_d_26⟩, zk_d_27⟩, zk_d_28⟩, zk_d_29⟩, zk_d_30⟩, zk_d_31⟩, zk_d_32⟩, zk_d_33⟩, zk_d_34⟩, zk_d_35⟩, zk_d_36⟩, zk_d_37⟩, zk_d_38⟩, zk_d_39⟩, zk_d_40⟩, zk_d_41⟩, zk_d_42⟩, zk_d_43⟩, zk_d_44⟩, zk_d_45⟩, zk_d_46⟩, zk_d_47⟩, zk_d_48⟩, zk_d_49⟩, zk_d_50⟩, zk_d_51⟩, zk_d_52⟩, zk_d_53⟩, zk_d_54⟩, zk_d_55⟩, zk_d_56⟩, zk_d_57⟩, zk_d_58⟩, zk_d_59⟩, zk_d_60⟩, zk_d_61⟩, zk_d_62⟩, zk_d_63⟩, zk_d_64⟩, zk_d_65⟩, zk_d_66⟩, zk_d_67⟩, zk_d_68⟩, zk_d_69⟩, zk_d_70⟩, zk_d_71⟩, zk_d_72⟩, zk_d_73⟩, zk_d_74⟩, zk_d_75⟩, zk_d_76⟩, zk_d_77⟩, zk_d_78⟩, zk_d_79⟩, zk_d_80⟩, zk_d_81⟩, zk_d_82⟩, zk_d_83⟩, zk_d_84⟩, zk_d_85⟩, zk_d_86⟩, zk_d_87⟩, zk_d_88⟩, zk_d_89⟩, zk_d_90⟩, zk_d_91⟩, zk_d_92⟩, zk_d_93⟩, zk_d_94⟩, zk_d_95⟩, zk_d_96⟩, zk_d_97⟩, zk_d_98⟩, zk_d_99⟩, zk_d_100⟩, zk_d_101⟩, zk_d_102⟩, zk_d_103⟩, zk_d_104⟩, zk_d_105⟩, zk_d_106⟩, zk_d_107⟩, zk_d_108⟩, zk_d_109⟩, zk_d_110⟩, zk_d_111⟩, zk_d_112⟩, zk_d_113⟩, zk_d_114⟩, zk_d_115⟩, zk_d_116⟩, zk_d_117⟩, zk_d_118⟩, zk_d_119⟩, zk_d_120⟩, zk_d_121⟩, zk_d_122⟩, zk_d_123⟩, zk_d_124⟩, zk_d_125⟩, zk_d_126⟩, zk_d_127⟩, zk_d_128⟩, zk_d_129⟩, zk_d_130⟩, zk_d_131⟩, zk_d_132⟩, zk_d_133⟩, zk_d_134⟩, zk_d_135⟩, zk_d_136⟩, zk_d_137⟩, zk_d_138⟩, zk_d_139⟩, zk_d_140⟩, zk_d_141⟩, zk_d_142⟩, zk_d_143⟩, zk_d_144⟩, zk_d_145⟩, zk_d_146⟩, zk_d_147⟩, zk_d_148⟩, zk_d_149⟩, zk_d_150⟩, zk_d_151⟩, zk_d_152⟩, zk_d_153⟩, zk_d_154⟩, zk_d_155⟩, zk_d_156⟩, zk_d_157⟩, zk_d_158⟩, zk_d_159⟩, zk_d_160⟩, zk_d_161⟩, zk_d_162⟩
theorem zk_at_mem {pc : Nat} {l : List (Nat × Instr × Nat × Nat)} {e : Instr × Nat × Nat} (h : zk_at pc l = some e) : (pc, e) ∈ l := by
  induction l with
  | nil => cases h
  | cons q r ih =>
    unfold zk_at at h
    cases hq : Nat.beq q.1 pc with
    | true =>
      rw [hq] at h
      have e1 : q.1 = pc := Nat.eq_of_beq_eq_true hq
      have e2 : q.2 = e := Option.some.inj h
      rw [← e1, ← e2]
      exact List.mem_cons_self
    | false =>
      rw [hq] at h
      exact List.mem_cons_of_mem _ (ih h)
theorem zk_at2_mem {pc : Nat} {l : List (Nat × List (Nat × Instr × Nat × Nat))} {e : Instr × Nat × Nat} (h : zk_at2 pc l = some e) : ∃ c ∈ l, (pc, e) ∈ c.2 := by
  induction l with
  | nil => cases h
  | cons q r ih =>
    unfold zk_at2 at h
    cases hq : Nat.blt pc q.1 with
    | true =>
      rw [hq] at h
      exact ⟨q, List.mem_cons_self, zk_at_mem h⟩
    | false =>
      rw [hq] at h
      obtain ⟨c, h1, h2⟩ := ih h
      exact ⟨c, List.mem_cons_of_mem _ h1, h2⟩
theorem zk_f_ins {M pc nx tg : Nat} {i : Instr} (h : zk_ins M pc = some (i, nx, tg)) : M < 163 ∧ decode (zk_by M) pc = .ok (i, zk_il i pc nx) ∧ nx = pc + zk_il i pc nx ∧ zk_tgb i pc tg = true := by
  unfold zk_ins at h
  split at h
  · rename_i c hc
    have hM : M < 163 := by
      rcases Nat.lt_or_ge M 163 with q | q
      · exact q
      · rw [zk_nth_none q] at hc; cases hc
    have h1 := zk_AllP_at zk_d_all M hM
    unfold zk_dP at h1
    simp only [hc] at h1
    obtain ⟨q, h2, h3⟩ := zk_at2_mem h
    have h4 := List.all_eq_true.mp (h1 q h2) _ h3
    unfold zk_qok at h4
    simp only [Bool.and_eq_true, decide_eq_true_eq] at h4
    exact ⟨hM, h4.1.1, h4.1.2, h4.2⟩
  · cases h

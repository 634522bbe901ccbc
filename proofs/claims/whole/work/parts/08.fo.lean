def y_Fo_nodeBits : MethodName := ⟨"MergeGraphs$FormFinder", "nodeBits", "()I"⟩
abbrev M_Fo_nodeBits : zM := (nR2, prog_2_method_3_code, 1, (some .int), 3)
set_option maxRecDepth 100000 in
theorem zk_Fo_nodeBits : Cond.code y_Fo_nodeBits (M_Fo_nodeBits).2.1 (M_Fo_nodeBits).2.2.1 (M_Fo_nodeBits).2.2.2.1 ∈ zTg := zmem 491 rfl rfl
theorem zy_Fo_nodeBits : (y_Fo_nodeBits).cls ≠ "java/lang/invoke/MethodHandle" ∧ (y_Fo_nodeBits).cls ≠ "java/lang/invoke/VarHandle" ∧ (parseMethodDescriptor (y_Fo_nodeBits).desc).map (fun d => d.parameters.length) = some 0 := by decide +kernel
theorem d_Fo_nodeBits_0 : decode prog_2_method_3_code 0 = .ok (.aload_n 0, 1) := by decide +kernel
theorem d_Fo_nodeBits_1 : decode prog_2_method_3_code 1 = .ok (.getfield 12, 3) := by decide +kernel
theorem d_Fo_nodeBits_4 : decode prog_2_method_3_code 4 = .ok (.invokevirtual 57, 3) := by decide +kernel
theorem d_Fo_nodeBits_7 : decode prog_2_method_3_code 7 = .ok (.bipush 40, 2) := by decide +kernel
theorem d_Fo_nodeBits_9 : decode prog_2_method_3_code 9 = .ok (.lshr, 1) := by decide +kernel
theorem d_Fo_nodeBits_10 : decode prog_2_method_3_code 10 = .ok (.l2i, 1) := by decide +kernel
theorem d_Fo_nodeBits_11 : decode prog_2_method_3_code 11 = .ok (.ireturn, 1) := by decide +kernel
theorem zf_Fo_12 : Cond.fieldLink nR2 12 (nT2 0).1 (nT2 0).2.1 (nT2 0).2.2.1 ∈ zTg := zmem 126 (by decide +kernel) (by decide +kernel)
theorem zt_492 : (Cond.methodLink "MergeGraphs$FormFinder" (57 : Nat) (⟨"MergeGraphs$Graph", "nodes", "()J"⟩ : MethodName)) ∈ zTg := zmem 492 (by decide +kernel) (by decide +kernel)
def y_Fo_writeRow : MethodName := ⟨"MergeGraphs$FormFinder", "writeRow", "()V"⟩
abbrev M_Fo_writeRow : zM := (nR2, prog_2_method_7_code, 4, none, 2)
set_option maxRecDepth 100000 in
theorem zk_Fo_writeRow : Cond.code y_Fo_writeRow (M_Fo_writeRow).2.1 (M_Fo_writeRow).2.2.1 (M_Fo_writeRow).2.2.2.1 ∈ zTg := zmem 501 rfl rfl
theorem zy_Fo_writeRow : (y_Fo_writeRow).cls ≠ "java/lang/invoke/MethodHandle" ∧ (y_Fo_writeRow).cls ≠ "java/lang/invoke/VarHandle" ∧ (parseMethodDescriptor (y_Fo_writeRow).desc).map (fun d => d.parameters.length) = some 0 := by decide +kernel
theorem d_Fo_writeRow_0 : decode prog_2_method_7_code 0 = .ok (.iconst 0, 1) := by decide +kernel
theorem d_Fo_writeRow_1 : decode prog_2_method_7_code 1 = .ok (.istore_n 1, 1) := by decide +kernel
theorem d_Fo_writeRow_2 : decode prog_2_method_7_code 2 = .ok (.iload_n 1, 1) := by decide +kernel
theorem d_Fo_writeRow_3 : decode prog_2_method_7_code 3 = .ok (.aload_n 0, 1) := by decide +kernel
theorem d_Fo_writeRow_4 : decode prog_2_method_7_code 4 = .ok (.getfield 12, 3) := by decide +kernel
theorem d_Fo_writeRow_7 : decode prog_2_method_7_code 7 = .ok (.invokevirtual 54, 3) := by decide +kernel
theorem d_Fo_writeRow_10 : decode prog_2_method_7_code 10 = .ok (.if_icmp .ge 70, 3) := by decide +kernel
theorem d_Fo_writeRow_13 : decode prog_2_method_7_code 13 = .ok (.aload_n 0, 1) := by decide +kernel
theorem d_Fo_writeRow_14 : decode prog_2_method_7_code 14 = .ok (.getfield 12, 3) := by decide +kernel
theorem d_Fo_writeRow_17 : decode prog_2_method_7_code 17 = .ok (.iload_n 1, 1) := by decide +kernel
theorem d_Fo_writeRow_18 : decode prog_2_method_7_code 18 = .ok (.invokevirtual 83, 3) := by decide +kernel
theorem d_Fo_writeRow_21 : decode prog_2_method_7_code 21 = .ok (.aload_n 0, 1) := by decide +kernel
theorem d_Fo_writeRow_22 : decode prog_2_method_7_code 22 = .ok (.getfield 18, 3) := by decide +kernel
theorem d_Fo_writeRow_25 : decode prog_2_method_7_code 25 = .ok (.invokestatic 87, 3) := by decide +kernel
theorem d_Fo_writeRow_28 : decode prog_2_method_7_code 28 = .ok (.istore_n 2, 1) := by decide +kernel
theorem d_Fo_writeRow_29 : decode prog_2_method_7_code 29 = .ok (.iload_n 1, 1) := by decide +kernel
theorem d_Fo_writeRow_30 : decode prog_2_method_7_code 30 = .ok (.istore_n 3, 1) := by decide +kernel
theorem d_Fo_writeRow_31 : decode prog_2_method_7_code 31 = .ok (.iload_n 3, 1) := by decide +kernel
theorem d_Fo_writeRow_32 : decode prog_2_method_7_code 32 = .ok (.ifCond .le 35, 3) := by decide +kernel
theorem d_Fo_writeRow_35 : decode prog_2_method_7_code 35 = .ok (.aload_n 0, 1) := by decide +kernel
theorem d_Fo_writeRow_36 : decode prog_2_method_7_code 36 = .ok (.getfield 22, 3) := by decide +kernel
theorem d_Fo_writeRow_39 : decode prog_2_method_7_code 39 = .ok (.iload_n 3, 1) := by decide +kernel
theorem d_Fo_writeRow_40 : decode prog_2_method_7_code 40 = .ok (.iconst 1, 1) := by decide +kernel
theorem d_Fo_writeRow_41 : decode prog_2_method_7_code 41 = .ok (.isub, 1) := by decide +kernel
theorem d_Fo_writeRow_42 : decode prog_2_method_7_code 42 = .ok (.iaload, 1) := by decide +kernel
theorem d_Fo_writeRow_43 : decode prog_2_method_7_code 43 = .ok (.iload_n 2, 1) := by decide +kernel
theorem d_Fo_writeRow_44 : decode prog_2_method_7_code 44 = .ok (.if_icmp .le 23, 3) := by decide +kernel
theorem d_Fo_writeRow_47 : decode prog_2_method_7_code 47 = .ok (.aload_n 0, 1) := by decide +kernel
theorem d_Fo_writeRow_48 : decode prog_2_method_7_code 48 = .ok (.getfield 22, 3) := by decide +kernel
theorem d_Fo_writeRow_51 : decode prog_2_method_7_code 51 = .ok (.iload_n 3, 1) := by decide +kernel
theorem d_Fo_writeRow_52 : decode prog_2_method_7_code 52 = .ok (.aload_n 0, 1) := by decide +kernel
theorem d_Fo_writeRow_53 : decode prog_2_method_7_code 53 = .ok (.getfield 22, 3) := by decide +kernel
theorem d_Fo_writeRow_56 : decode prog_2_method_7_code 56 = .ok (.iload_n 3, 1) := by decide +kernel
theorem d_Fo_writeRow_57 : decode prog_2_method_7_code 57 = .ok (.iconst 1, 1) := by decide +kernel
theorem d_Fo_writeRow_58 : decode prog_2_method_7_code 58 = .ok (.isub, 1) := by decide +kernel
theorem d_Fo_writeRow_59 : decode prog_2_method_7_code 59 = .ok (.iaload, 1) := by decide +kernel
theorem d_Fo_writeRow_60 : decode prog_2_method_7_code 60 = .ok (.iastore, 1) := by decide +kernel
theorem d_Fo_writeRow_61 : decode prog_2_method_7_code 61 = .ok (.iinc 3 (-1), 3) := by decide +kernel
theorem d_Fo_writeRow_64 : decode prog_2_method_7_code 64 = .ok (.goto (-33), 3) := by decide +kernel
theorem d_Fo_writeRow_67 : decode prog_2_method_7_code 67 = .ok (.aload_n 0, 1) := by decide +kernel
theorem d_Fo_writeRow_68 : decode prog_2_method_7_code 68 = .ok (.getfield 22, 3) := by decide +kernel
theorem d_Fo_writeRow_71 : decode prog_2_method_7_code 71 = .ok (.iload_n 3, 1) := by decide +kernel
theorem d_Fo_writeRow_72 : decode prog_2_method_7_code 72 = .ok (.iload_n 2, 1) := by decide +kernel
theorem d_Fo_writeRow_73 : decode prog_2_method_7_code 73 = .ok (.iastore, 1) := by decide +kernel
theorem d_Fo_writeRow_74 : decode prog_2_method_7_code 74 = .ok (.iinc 1 1, 3) := by decide +kernel
theorem d_Fo_writeRow_77 : decode prog_2_method_7_code 77 = .ok (.goto (-75), 3) := by decide +kernel
theorem d_Fo_writeRow_80 : decode prog_2_method_7_code 80 = .ok (.return_, 1) := by decide +kernel
theorem zf_Fo_18 : Cond.fieldLink nR2 18 (nT2 1).1 (nT2 1).2.1 (nT2 1).2.2.1 ∈ zTg := zmem 127 (by decide +kernel) (by decide +kernel)
theorem zf_Fo_22 : Cond.fieldLink nR2 22 (nT2 2).1 (nT2 2).2.1 (nT2 2).2.2.1 ∈ zTg := zmem 128 (by decide +kernel) (by decide +kernel)
theorem zt_502 : (Cond.methodLink "MergeGraphs$FormFinder" (54 : Nat) (⟨"MergeGraphs$Graph", "count", "()I"⟩ : MethodName)) ∈ zTg := zmem 502 (by decide +kernel) (by decide +kernel)
theorem zt_503 : (Cond.methodLink "MergeGraphs$FormFinder" (83 : Nat) (⟨"MergeGraphs$Graph", "at", "(I)I"⟩ : MethodName)) ∈ zTg := zmem 503 (by decide +kernel) (by decide +kernel)
def y_Fo_keepRow : MethodName := ⟨"MergeGraphs$FormFinder", "keepRow", "()V"⟩
abbrev M_Fo_keepRow : zM := (nR2, prog_2_method_8_code, 2, none, 1)
set_option maxRecDepth 100000 in
theorem zk_Fo_keepRow : Cond.code y_Fo_keepRow (M_Fo_keepRow).2.1 (M_Fo_keepRow).2.2.1 (M_Fo_keepRow).2.2.2.1 ∈ zTg := zmem 524 rfl rfl
theorem zy_Fo_keepRow : (y_Fo_keepRow).cls ≠ "java/lang/invoke/MethodHandle" ∧ (y_Fo_keepRow).cls ≠ "java/lang/invoke/VarHandle" ∧ (parseMethodDescriptor (y_Fo_keepRow).desc).map (fun d => d.parameters.length) = some 0 := by decide +kernel
theorem d_Fo_keepRow_0 : decode prog_2_method_8_code 0 = .ok (.aload_n 0, 1) := by decide +kernel
theorem d_Fo_keepRow_1 : decode prog_2_method_8_code 1 = .ok (.iconst 1, 1) := by decide +kernel
theorem d_Fo_keepRow_2 : decode prog_2_method_8_code 2 = .ok (.putfield 28, 3) := by decide +kernel
theorem d_Fo_keepRow_5 : decode prog_2_method_8_code 5 = .ok (.iconst 0, 1) := by decide +kernel
theorem d_Fo_keepRow_6 : decode prog_2_method_8_code 6 = .ok (.istore_n 1, 1) := by decide +kernel
theorem d_Fo_keepRow_7 : decode prog_2_method_8_code 7 = .ok (.iload_n 1, 1) := by decide +kernel
theorem d_Fo_keepRow_8 : decode prog_2_method_8_code 8 = .ok (.aload_n 0, 1) := by decide +kernel
theorem d_Fo_keepRow_9 : decode prog_2_method_8_code 9 = .ok (.getfield 12, 3) := by decide +kernel
theorem d_Fo_keepRow_12 : decode prog_2_method_8_code 12 = .ok (.invokevirtual 54, 3) := by decide +kernel
theorem d_Fo_keepRow_15 : decode prog_2_method_8_code 15 = .ok (.if_icmp .ge 21, 3) := by decide +kernel
theorem d_Fo_keepRow_18 : decode prog_2_method_8_code 18 = .ok (.aload_n 0, 1) := by decide +kernel
theorem d_Fo_keepRow_19 : decode prog_2_method_8_code 19 = .ok (.getfield 25, 3) := by decide +kernel
theorem d_Fo_keepRow_22 : decode prog_2_method_8_code 22 = .ok (.iload_n 1, 1) := by decide +kernel
theorem d_Fo_keepRow_23 : decode prog_2_method_8_code 23 = .ok (.aload_n 0, 1) := by decide +kernel
theorem d_Fo_keepRow_24 : decode prog_2_method_8_code 24 = .ok (.getfield 22, 3) := by decide +kernel
theorem d_Fo_keepRow_27 : decode prog_2_method_8_code 27 = .ok (.iload_n 1, 1) := by decide +kernel
theorem d_Fo_keepRow_28 : decode prog_2_method_8_code 28 = .ok (.iaload, 1) := by decide +kernel
theorem d_Fo_keepRow_29 : decode prog_2_method_8_code 29 = .ok (.iastore, 1) := by decide +kernel
theorem d_Fo_keepRow_30 : decode prog_2_method_8_code 30 = .ok (.iinc 1 1, 3) := by decide +kernel
theorem d_Fo_keepRow_33 : decode prog_2_method_8_code 33 = .ok (.goto (-26), 3) := by decide +kernel
theorem d_Fo_keepRow_36 : decode prog_2_method_8_code 36 = .ok (.return_, 1) := by decide +kernel
theorem zf_Fo_25 : Cond.fieldLink nR2 25 (nT2 3).1 (nT2 3).2.1 (nT2 3).2.2.1 ∈ zTg := zmem 129 (by decide +kernel) (by decide +kernel)
theorem zf_Fo_28 : Cond.fieldLink nR2 28 (nT2 4).1 (nT2 4).2.1 (nT2 4).2.2.1 ∈ zTg := zmem 130 (by decide +kernel) (by decide +kernel)
def y_Fo_canSwap : MethodName := ⟨"MergeGraphs$FormFinder", "canSwap", "(II)Z"⟩
abbrev M_Fo_canSwap : zM := (nR2, prog_2_method_5_code, 4, (some .boolean), 3)
set_option maxRecDepth 100000 in
theorem zk_Fo_canSwap : Cond.code y_Fo_canSwap (M_Fo_canSwap).2.1 (M_Fo_canSwap).2.2.1 (M_Fo_canSwap).2.2.2.1 ∈ zTg := zmem 497 rfl rfl
theorem zy_Fo_canSwap : (y_Fo_canSwap).cls ≠ "java/lang/invoke/MethodHandle" ∧ (y_Fo_canSwap).cls ≠ "java/lang/invoke/VarHandle" ∧ (parseMethodDescriptor (y_Fo_canSwap).desc).map (fun d => d.parameters.length) = some 2 := by decide +kernel
theorem d_Fo_canSwap_0 : decode prog_2_method_5_code 0 = .ok (.iconst 0, 1) := by decide +kernel
theorem d_Fo_canSwap_1 : decode prog_2_method_5_code 1 = .ok (.istore_n 3, 1) := by decide +kernel
theorem d_Fo_canSwap_2 : decode prog_2_method_5_code 2 = .ok (.iload_n 3, 1) := by decide +kernel
theorem d_Fo_canSwap_3 : decode prog_2_method_5_code 3 = .ok (.bipush 6, 2) := by decide +kernel
theorem d_Fo_canSwap_5 : decode prog_2_method_5_code 5 = .ok (.if_icmp .ge 19, 3) := by decide +kernel
theorem d_Fo_canSwap_8 : decode prog_2_method_5_code 8 = .ok (.aload_n 0, 1) := by decide +kernel
theorem d_Fo_canSwap_9 : decode prog_2_method_5_code 9 = .ok (.getfield 18, 3) := by decide +kernel
theorem d_Fo_canSwap_12 : decode prog_2_method_5_code 12 = .ok (.iload_n 3, 1) := by decide +kernel
theorem d_Fo_canSwap_13 : decode prog_2_method_5_code 13 = .ok (.bipush 40, 2) := by decide +kernel
theorem d_Fo_canSwap_15 : decode prog_2_method_5_code 15 = .ok (.iload_n 3, 1) := by decide +kernel
theorem d_Fo_canSwap_16 : decode prog_2_method_5_code 16 = .ok (.iadd, 1) := by decide +kernel
theorem d_Fo_canSwap_17 : decode prog_2_method_5_code 17 = .ok (.iastore, 1) := by decide +kernel
theorem d_Fo_canSwap_18 : decode prog_2_method_5_code 18 = .ok (.iinc 3 1, 3) := by decide +kernel
theorem d_Fo_canSwap_21 : decode prog_2_method_5_code 21 = .ok (.goto (-19), 3) := by decide +kernel
theorem d_Fo_canSwap_24 : decode prog_2_method_5_code 24 = .ok (.aload_n 0, 1) := by decide +kernel
theorem d_Fo_canSwap_25 : decode prog_2_method_5_code 25 = .ok (.getfield 18, 3) := by decide +kernel
theorem d_Fo_canSwap_28 : decode prog_2_method_5_code 28 = .ok (.iload_n 1, 1) := by decide +kernel
theorem d_Fo_canSwap_29 : decode prog_2_method_5_code 29 = .ok (.bipush 40, 2) := by decide +kernel
theorem d_Fo_canSwap_31 : decode prog_2_method_5_code 31 = .ok (.iload_n 2, 1) := by decide +kernel
theorem d_Fo_canSwap_32 : decode prog_2_method_5_code 32 = .ok (.iadd, 1) := by decide +kernel
theorem d_Fo_canSwap_33 : decode prog_2_method_5_code 33 = .ok (.iastore, 1) := by decide +kernel
theorem d_Fo_canSwap_34 : decode prog_2_method_5_code 34 = .ok (.aload_n 0, 1) := by decide +kernel
theorem d_Fo_canSwap_35 : decode prog_2_method_5_code 35 = .ok (.getfield 18, 3) := by decide +kernel
theorem d_Fo_canSwap_38 : decode prog_2_method_5_code 38 = .ok (.iload_n 2, 1) := by decide +kernel
theorem d_Fo_canSwap_39 : decode prog_2_method_5_code 39 = .ok (.bipush 40, 2) := by decide +kernel
theorem d_Fo_canSwap_41 : decode prog_2_method_5_code 41 = .ok (.iload_n 1, 1) := by decide +kernel
theorem d_Fo_canSwap_42 : decode prog_2_method_5_code 42 = .ok (.iadd, 1) := by decide +kernel
theorem d_Fo_canSwap_43 : decode prog_2_method_5_code 43 = .ok (.iastore, 1) := by decide +kernel
theorem d_Fo_canSwap_44 : decode prog_2_method_5_code 44 = .ok (.aload_n 0, 1) := by decide +kernel
theorem d_Fo_canSwap_45 : decode prog_2_method_5_code 45 = .ok (.invokevirtual 69, 3) := by decide +kernel
theorem d_Fo_canSwap_48 : decode prog_2_method_5_code 48 = .ok (.aload_n 0, 1) := by decide +kernel
theorem d_Fo_canSwap_49 : decode prog_2_method_5_code 49 = .ok (.getfield 12, 3) := by decide +kernel
theorem d_Fo_canSwap_52 : decode prog_2_method_5_code 52 = .ok (.aload_n 0, 1) := by decide +kernel
theorem d_Fo_canSwap_53 : decode prog_2_method_5_code 53 = .ok (.getfield 22, 3) := by decide +kernel
theorem d_Fo_canSwap_56 : decode prog_2_method_5_code 56 = .ok (.invokevirtual 72, 3) := by decide +kernel
theorem d_Fo_canSwap_59 : decode prog_2_method_5_code 59 = .ok (.ireturn, 1) := by decide +kernel
theorem zt_18 : (Cond.selects "MergeGraphs$FormFinder" (⟨"MergeGraphs$FormFinder", "writeRow", "()V"⟩ : MethodName) (⟨"MergeGraphs$FormFinder", "writeRow", "()V"⟩ : MethodName)) ∈ zTg := zmem 18 (by decide +kernel) (by decide +kernel)
theorem zt_51 : (Cond.initialized "MergeGraphs$FormFinder") ∈ zTg := zmem 51 (by decide +kernel) (by decide +kernel)
theorem zt_498 : (Cond.methodLink "MergeGraphs$FormFinder" (69 : Nat) (⟨"MergeGraphs$FormFinder", "writeRow", "()V"⟩ : MethodName)) ∈ zTg := zmem 498 (by decide +kernel) (by decide +kernel)
theorem zt_500 : (Cond.instanceMethod (⟨"MergeGraphs$FormFinder", "writeRow", "()V"⟩ : MethodName)) ∈ zTg := zmem 500 (by decide +kernel) (by decide +kernel)
theorem zt_513 : (Cond.methodLink "MergeGraphs$FormFinder" (72 : Nat) (⟨"MergeGraphs$Graph", "isSameRow", "([I)Z"⟩ : MethodName)) ∈ zTg := zmem 513 (by decide +kernel) (by decide +kernel)
def y_Fo_findTwins : MethodName := ⟨"MergeGraphs$FormFinder", "findTwins", "()V"⟩
abbrev M_Fo_findTwins : zM := (nR2, prog_2_method_4_code, 4, none, 4)
set_option maxRecDepth 100000 in
theorem zk_Fo_findTwins : Cond.code y_Fo_findTwins (M_Fo_findTwins).2.1 (M_Fo_findTwins).2.2.1 (M_Fo_findTwins).2.2.2.1 ∈ zTg := zmem 487 rfl rfl
theorem zy_Fo_findTwins : (y_Fo_findTwins).cls ≠ "java/lang/invoke/MethodHandle" ∧ (y_Fo_findTwins).cls ≠ "java/lang/invoke/VarHandle" ∧ (parseMethodDescriptor (y_Fo_findTwins).desc).map (fun d => d.parameters.length) = some 0 := by decide +kernel
theorem d_Fo_findTwins_0 : decode prog_2_method_4_code 0 = .ok (.aload_n 0, 1) := by decide +kernel
theorem d_Fo_findTwins_1 : decode prog_2_method_4_code 1 = .ok (.invokevirtual 46, 3) := by decide +kernel
theorem d_Fo_findTwins_4 : decode prog_2_method_4_code 4 = .ok (.istore_n 1, 1) := by decide +kernel
theorem d_Fo_findTwins_5 : decode prog_2_method_4_code 5 = .ok (.iconst 0, 1) := by decide +kernel
theorem d_Fo_findTwins_6 : decode prog_2_method_4_code 6 = .ok (.istore_n 2, 1) := by decide +kernel
theorem d_Fo_findTwins_7 : decode prog_2_method_4_code 7 = .ok (.iload_n 2, 1) := by decide +kernel
theorem d_Fo_findTwins_8 : decode prog_2_method_4_code 8 = .ok (.bipush 6, 2) := by decide +kernel
theorem d_Fo_findTwins_10 : decode prog_2_method_4_code 10 = .ok (.if_icmp .ge 68, 3) := by decide +kernel
theorem d_Fo_findTwins_13 : decode prog_2_method_4_code 13 = .ok (.aload_n 0, 1) := by decide +kernel
theorem d_Fo_findTwins_14 : decode prog_2_method_4_code 14 = .ok (.getfield 32, 3) := by decide +kernel
theorem d_Fo_findTwins_17 : decode prog_2_method_4_code 17 = .ok (.iload_n 2, 1) := by decide +kernel
theorem d_Fo_findTwins_18 : decode prog_2_method_4_code 18 = .ok (.iconst 0, 1) := by decide +kernel
theorem d_Fo_findTwins_19 : decode prog_2_method_4_code 19 = .ok (.iastore, 1) := by decide +kernel
theorem d_Fo_findTwins_20 : decode prog_2_method_4_code 20 = .ok (.iconst 0, 1) := by decide +kernel
theorem d_Fo_findTwins_21 : decode prog_2_method_4_code 21 = .ok (.istore_n 3, 1) := by decide +kernel
theorem d_Fo_findTwins_22 : decode prog_2_method_4_code 22 = .ok (.iload_n 3, 1) := by decide +kernel
theorem d_Fo_findTwins_23 : decode prog_2_method_4_code 23 = .ok (.iload_n 2, 1) := by decide +kernel
theorem d_Fo_findTwins_24 : decode prog_2_method_4_code 24 = .ok (.if_icmp .ge 48, 3) := by decide +kernel
theorem d_Fo_findTwins_27 : decode prog_2_method_4_code 27 = .ok (.iload_n 1, 1) := by decide +kernel
theorem d_Fo_findTwins_28 : decode prog_2_method_4_code 28 = .ok (.i2l, 1) := by decide +kernel
theorem d_Fo_findTwins_29 : decode prog_2_method_4_code 29 = .ok (.iload_n 2, 1) := by decide +kernel
theorem d_Fo_findTwins_30 : decode prog_2_method_4_code 30 = .ok (.invokestatic 61, 3) := by decide +kernel
theorem d_Fo_findTwins_33 : decode prog_2_method_4_code 33 = .ok (.ifCond .eq 33, 3) := by decide +kernel
theorem d_Fo_findTwins_36 : decode prog_2_method_4_code 36 = .ok (.iload_n 1, 1) := by decide +kernel
theorem d_Fo_findTwins_37 : decode prog_2_method_4_code 37 = .ok (.i2l, 1) := by decide +kernel
theorem d_Fo_findTwins_38 : decode prog_2_method_4_code 38 = .ok (.iload_n 3, 1) := by decide +kernel
theorem d_Fo_findTwins_39 : decode prog_2_method_4_code 39 = .ok (.invokestatic 61, 3) := by decide +kernel
theorem d_Fo_findTwins_42 : decode prog_2_method_4_code 42 = .ok (.ifCond .eq 24, 3) := by decide +kernel
theorem d_Fo_findTwins_45 : decode prog_2_method_4_code 45 = .ok (.aload_n 0, 1) := by decide +kernel
theorem d_Fo_findTwins_46 : decode prog_2_method_4_code 46 = .ok (.iload_n 2, 1) := by decide +kernel
theorem d_Fo_findTwins_47 : decode prog_2_method_4_code 47 = .ok (.iload_n 3, 1) := by decide +kernel
theorem d_Fo_findTwins_48 : decode prog_2_method_4_code 48 = .ok (.invokevirtual 65, 3) := by decide +kernel
theorem d_Fo_findTwins_51 : decode prog_2_method_4_code 51 = .ok (.ifCond .eq 15, 3) := by decide +kernel
theorem d_Fo_findTwins_54 : decode prog_2_method_4_code 54 = .ok (.aload_n 0, 1) := by decide +kernel
theorem d_Fo_findTwins_55 : decode prog_2_method_4_code 55 = .ok (.getfield 32, 3) := by decide +kernel
theorem d_Fo_findTwins_58 : decode prog_2_method_4_code 58 = .ok (.iload_n 2, 1) := by decide +kernel
theorem d_Fo_findTwins_59 : decode prog_2_method_4_code 59 = .ok (.dup2, 1) := by decide +kernel
theorem d_Fo_findTwins_60 : decode prog_2_method_4_code 60 = .ok (.iaload, 1) := by decide +kernel
theorem d_Fo_findTwins_61 : decode prog_2_method_4_code 61 = .ok (.iconst 1, 1) := by decide +kernel
theorem d_Fo_findTwins_62 : decode prog_2_method_4_code 62 = .ok (.iload_n 3, 1) := by decide +kernel
theorem d_Fo_findTwins_63 : decode prog_2_method_4_code 63 = .ok (.ishl, 1) := by decide +kernel
theorem d_Fo_findTwins_64 : decode prog_2_method_4_code 64 = .ok (.ior, 1) := by decide +kernel
theorem d_Fo_findTwins_65 : decode prog_2_method_4_code 65 = .ok (.iastore, 1) := by decide +kernel
theorem d_Fo_findTwins_66 : decode prog_2_method_4_code 66 = .ok (.iinc 3 1, 3) := by decide +kernel
theorem d_Fo_findTwins_69 : decode prog_2_method_4_code 69 = .ok (.goto (-47), 3) := by decide +kernel
theorem d_Fo_findTwins_72 : decode prog_2_method_4_code 72 = .ok (.iinc 2 1, 3) := by decide +kernel
theorem d_Fo_findTwins_75 : decode prog_2_method_4_code 75 = .ok (.goto (-68), 3) := by decide +kernel
theorem d_Fo_findTwins_78 : decode prog_2_method_4_code 78 = .ok (.return_, 1) := by decide +kernel
theorem zf_Fo_32 : Cond.fieldLink nR2 32 (nT2 5).1 (nT2 5).2.1 (nT2 5).2.2.1 ∈ zTg := zmem 131 (by decide +kernel) (by decide +kernel)
theorem zt_16 : (Cond.selects "MergeGraphs$FormFinder" (⟨"MergeGraphs$FormFinder", "nodeBits", "()I"⟩ : MethodName) (⟨"MergeGraphs$FormFinder", "nodeBits", "()I"⟩ : MethodName)) ∈ zTg := zmem 16 (by decide +kernel) (by decide +kernel)
theorem zt_17 : (Cond.selects "MergeGraphs$FormFinder" (⟨"MergeGraphs$FormFinder", "canSwap", "(II)Z"⟩ : MethodName) (⟨"MergeGraphs$FormFinder", "canSwap", "(II)Z"⟩ : MethodName)) ∈ zTg := zmem 17 (by decide +kernel) (by decide +kernel)
theorem zt_488 : (Cond.methodLink "MergeGraphs$FormFinder" (46 : Nat) (⟨"MergeGraphs$FormFinder", "nodeBits", "()I"⟩ : MethodName)) ∈ zTg := zmem 488 (by decide +kernel) (by decide +kernel)
theorem zt_490 : (Cond.instanceMethod (⟨"MergeGraphs$FormFinder", "nodeBits", "()I"⟩ : MethodName)) ∈ zTg := zmem 490 (by decide +kernel) (by decide +kernel)
theorem zt_494 : (Cond.methodLink "MergeGraphs$FormFinder" (65 : Nat) (⟨"MergeGraphs$FormFinder", "canSwap", "(II)Z"⟩ : MethodName)) ∈ zTg := zmem 494 (by decide +kernel) (by decide +kernel)
theorem zt_496 : (Cond.instanceMethod (⟨"MergeGraphs$FormFinder", "canSwap", "(II)Z"⟩ : MethodName)) ∈ zTg := zmem 496 (by decide +kernel) (by decide +kernel)
def y_Fo_giveLabel : MethodName := ⟨"MergeGraphs$FormFinder", "giveLabel", "(II)V"⟩
abbrev M_Fo_giveLabel (D : Nat) : zM := (nR2, prog_2_method_6_code, 5, none, 3 + D)
set_option maxRecDepth 100000 in
theorem zk_Fo_giveLabel (D : Nat) : Cond.code y_Fo_giveLabel (M_Fo_giveLabel D).2.1 (M_Fo_giveLabel D).2.2.1 (M_Fo_giveLabel D).2.2.2.1 ∈ zTg := zmem 517 rfl rfl
theorem zy_Fo_giveLabel : (y_Fo_giveLabel).cls ≠ "java/lang/invoke/MethodHandle" ∧ (y_Fo_giveLabel).cls ≠ "java/lang/invoke/VarHandle" ∧ (parseMethodDescriptor (y_Fo_giveLabel).desc).map (fun d => d.parameters.length) = some 2 := by decide +kernel
theorem d_Fo_giveLabel_0 : decode prog_2_method_6_code 0 = .ok (.bipush 40, 2) := by decide +kernel
theorem d_Fo_giveLabel_2 : decode prog_2_method_6_code 2 = .ok (.iload_n 1, 1) := by decide +kernel
theorem d_Fo_giveLabel_3 : decode prog_2_method_6_code 3 = .ok (.iadd, 1) := by decide +kernel
theorem d_Fo_giveLabel_4 : decode prog_2_method_6_code 4 = .ok (.istore_n 3, 1) := by decide +kernel
theorem d_Fo_giveLabel_5 : decode prog_2_method_6_code 5 = .ok (.iconst 0, 1) := by decide +kernel
theorem d_Fo_giveLabel_6 : decode prog_2_method_6_code 6 = .ok (.istore 4, 2) := by decide +kernel
theorem d_Fo_giveLabel_8 : decode prog_2_method_6_code 8 = .ok (.iload 4, 2) := by decide +kernel
theorem d_Fo_giveLabel_10 : decode prog_2_method_6_code 10 = .ok (.bipush 6, 2) := by decide +kernel
theorem d_Fo_giveLabel_12 : decode prog_2_method_6_code 12 = .ok (.if_icmp .ge 27, 3) := by decide +kernel
theorem d_Fo_giveLabel_15 : decode prog_2_method_6_code 15 = .ok (.iload_n 2, 1) := by decide +kernel
theorem d_Fo_giveLabel_16 : decode prog_2_method_6_code 16 = .ok (.i2l, 1) := by decide +kernel
theorem d_Fo_giveLabel_17 : decode prog_2_method_6_code 17 = .ok (.iload 4, 2) := by decide +kernel
theorem d_Fo_giveLabel_19 : decode prog_2_method_6_code 19 = .ok (.invokestatic 61, 3) := by decide +kernel
theorem d_Fo_giveLabel_22 : decode prog_2_method_6_code 22 = .ok (.ifCond .eq 11, 3) := by decide +kernel
theorem d_Fo_giveLabel_25 : decode prog_2_method_6_code 25 = .ok (.aload_n 0, 1) := by decide +kernel
theorem d_Fo_giveLabel_26 : decode prog_2_method_6_code 26 = .ok (.getfield 18, 3) := by decide +kernel
theorem d_Fo_giveLabel_29 : decode prog_2_method_6_code 29 = .ok (.iload 4, 2) := by decide +kernel
theorem d_Fo_giveLabel_31 : decode prog_2_method_6_code 31 = .ok (.iload_n 3, 1) := by decide +kernel
theorem d_Fo_giveLabel_32 : decode prog_2_method_6_code 32 = .ok (.iastore, 1) := by decide +kernel
theorem d_Fo_giveLabel_33 : decode prog_2_method_6_code 33 = .ok (.iinc 4 1, 3) := by decide +kernel
theorem d_Fo_giveLabel_36 : decode prog_2_method_6_code 36 = .ok (.goto (-28), 3) := by decide +kernel
theorem d_Fo_giveLabel_39 : decode prog_2_method_6_code 39 = .ok (.aload_n 0, 1) := by decide +kernel
theorem d_Fo_giveLabel_40 : decode prog_2_method_6_code 40 = .ok (.invokevirtual 69, 3) := by decide +kernel
theorem d_Fo_giveLabel_43 : decode prog_2_method_6_code 43 = .ok (.aload_n 0, 1) := by decide +kernel
theorem d_Fo_giveLabel_44 : decode prog_2_method_6_code 44 = .ok (.getfield 28, 3) := by decide +kernel
theorem d_Fo_giveLabel_47 : decode prog_2_method_6_code 47 = .ok (.ifCond .eq 25, 3) := by decide +kernel
theorem d_Fo_giveLabel_50 : decode prog_2_method_6_code 50 = .ok (.aload_n 0, 1) := by decide +kernel
theorem d_Fo_giveLabel_51 : decode prog_2_method_6_code 51 = .ok (.getfield 22, 3) := by decide +kernel
theorem d_Fo_giveLabel_54 : decode prog_2_method_6_code 54 = .ok (.aload_n 0, 1) := by decide +kernel
theorem d_Fo_giveLabel_55 : decode prog_2_method_6_code 55 = .ok (.getfield 25, 3) := by decide +kernel
theorem d_Fo_giveLabel_58 : decode prog_2_method_6_code 58 = .ok (.aload_n 0, 1) := by decide +kernel
theorem d_Fo_giveLabel_59 : decode prog_2_method_6_code 59 = .ok (.getfield 12, 3) := by decide +kernel
theorem d_Fo_giveLabel_62 : decode prog_2_method_6_code 62 = .ok (.invokevirtual 54, 3) := by decide +kernel
theorem d_Fo_giveLabel_65 : decode prog_2_method_6_code 65 = .ok (.invokestatic 76, 3) := by decide +kernel
theorem d_Fo_giveLabel_68 : decode prog_2_method_6_code 68 = .ok (.ifCond .ne 4, 3) := by decide +kernel
theorem d_Fo_giveLabel_71 : decode prog_2_method_6_code 71 = .ok (.return_, 1) := by decide +kernel
theorem d_Fo_giveLabel_72 : decode prog_2_method_6_code 72 = .ok (.iload_n 2, 1) := by decide +kernel
theorem d_Fo_giveLabel_73 : decode prog_2_method_6_code 73 = .ok (.iload_n 2, 1) := by decide +kernel
theorem d_Fo_giveLabel_74 : decode prog_2_method_6_code 74 = .ok (.iconst 1, 1) := by decide +kernel
theorem d_Fo_giveLabel_75 : decode prog_2_method_6_code 75 = .ok (.isub, 1) := by decide +kernel
theorem d_Fo_giveLabel_76 : decode prog_2_method_6_code 76 = .ok (.iand, 1) := by decide +kernel
theorem d_Fo_giveLabel_77 : decode prog_2_method_6_code 77 = .ok (.ifCond .eq 9, 3) := by decide +kernel
theorem d_Fo_giveLabel_80 : decode prog_2_method_6_code 80 = .ok (.iload_n 1, 1) := by decide +kernel
theorem d_Fo_giveLabel_81 : decode prog_2_method_6_code 81 = .ok (.bipush 6, 2) := by decide +kernel
theorem d_Fo_giveLabel_83 : decode prog_2_method_6_code 83 = .ok (.if_icmp .lt 8, 3) := by decide +kernel
theorem d_Fo_giveLabel_86 : decode prog_2_method_6_code 86 = .ok (.aload_n 0, 1) := by decide +kernel
theorem d_Fo_giveLabel_87 : decode prog_2_method_6_code 87 = .ok (.invokevirtual 80, 3) := by decide +kernel
theorem d_Fo_giveLabel_90 : decode prog_2_method_6_code 90 = .ok (.return_, 1) := by decide +kernel
theorem d_Fo_giveLabel_91 : decode prog_2_method_6_code 91 = .ok (.iconst 0, 1) := by decide +kernel
theorem d_Fo_giveLabel_92 : decode prog_2_method_6_code 92 = .ok (.istore 4, 2) := by decide +kernel
theorem d_Fo_giveLabel_94 : decode prog_2_method_6_code 94 = .ok (.iload 4, 2) := by decide +kernel
theorem d_Fo_giveLabel_96 : decode prog_2_method_6_code 96 = .ok (.bipush 6, 2) := by decide +kernel
theorem d_Fo_giveLabel_98 : decode prog_2_method_6_code 98 = .ok (.if_icmp .ge 54, 3) := by decide +kernel
theorem d_Fo_giveLabel_101 : decode prog_2_method_6_code 101 = .ok (.iload_n 2, 1) := by decide +kernel
theorem d_Fo_giveLabel_102 : decode prog_2_method_6_code 102 = .ok (.i2l, 1) := by decide +kernel
theorem d_Fo_giveLabel_103 : decode prog_2_method_6_code 103 = .ok (.iload 4, 2) := by decide +kernel
theorem d_Fo_giveLabel_105 : decode prog_2_method_6_code 105 = .ok (.invokestatic 61, 3) := by decide +kernel
theorem d_Fo_giveLabel_108 : decode prog_2_method_6_code 108 = .ok (.ifCond .eq 38, 3) := by decide +kernel
theorem d_Fo_giveLabel_111 : decode prog_2_method_6_code 111 = .ok (.aload_n 0, 1) := by decide +kernel
theorem d_Fo_giveLabel_112 : decode prog_2_method_6_code 112 = .ok (.getfield 32, 3) := by decide +kernel
theorem d_Fo_giveLabel_115 : decode prog_2_method_6_code 115 = .ok (.iload 4, 2) := by decide +kernel
theorem d_Fo_giveLabel_117 : decode prog_2_method_6_code 117 = .ok (.iaload, 1) := by decide +kernel
theorem d_Fo_giveLabel_118 : decode prog_2_method_6_code 118 = .ok (.iload_n 2, 1) := by decide +kernel
theorem d_Fo_giveLabel_119 : decode prog_2_method_6_code 119 = .ok (.iand, 1) := by decide +kernel
theorem d_Fo_giveLabel_120 : decode prog_2_method_6_code 120 = .ok (.ifCond .ne 26, 3) := by decide +kernel
theorem d_Fo_giveLabel_123 : decode prog_2_method_6_code 123 = .ok (.aload_n 0, 1) := by decide +kernel
theorem d_Fo_giveLabel_124 : decode prog_2_method_6_code 124 = .ok (.getfield 18, 3) := by decide +kernel
theorem d_Fo_giveLabel_127 : decode prog_2_method_6_code 127 = .ok (.iload 4, 2) := by decide +kernel
theorem d_Fo_giveLabel_129 : decode prog_2_method_6_code 129 = .ok (.iload_n 3, 1) := by decide +kernel
theorem d_Fo_giveLabel_130 : decode prog_2_method_6_code 130 = .ok (.iastore, 1) := by decide +kernel
theorem d_Fo_giveLabel_131 : decode prog_2_method_6_code 131 = .ok (.aload_n 0, 1) := by decide +kernel
theorem d_Fo_giveLabel_132 : decode prog_2_method_6_code 132 = .ok (.iload_n 1, 1) := by decide +kernel
theorem d_Fo_giveLabel_133 : decode prog_2_method_6_code 133 = .ok (.iconst 1, 1) := by decide +kernel
theorem d_Fo_giveLabel_134 : decode prog_2_method_6_code 134 = .ok (.iadd, 1) := by decide +kernel
theorem d_Fo_giveLabel_135 : decode prog_2_method_6_code 135 = .ok (.iload_n 2, 1) := by decide +kernel
theorem d_Fo_giveLabel_136 : decode prog_2_method_6_code 136 = .ok (.iconst 1, 1) := by decide +kernel
theorem d_Fo_giveLabel_137 : decode prog_2_method_6_code 137 = .ok (.iload 4, 2) := by decide +kernel
theorem d_Fo_giveLabel_139 : decode prog_2_method_6_code 139 = .ok (.ishl, 1) := by decide +kernel
theorem d_Fo_giveLabel_140 : decode prog_2_method_6_code 140 = .ok (.iconst (-1), 1) := by decide +kernel
theorem d_Fo_giveLabel_141 : decode prog_2_method_6_code 141 = .ok (.ixor, 1) := by decide +kernel
theorem d_Fo_giveLabel_142 : decode prog_2_method_6_code 142 = .ok (.iand, 1) := by decide +kernel
theorem d_Fo_giveLabel_143 : decode prog_2_method_6_code 143 = .ok (.invokevirtual 50, 3) := by decide +kernel
theorem d_Fo_giveLabel_146 : decode prog_2_method_6_code 146 = .ok (.iinc 4 1, 3) := by decide +kernel
theorem d_Fo_giveLabel_149 : decode prog_2_method_6_code 149 = .ok (.goto (-55), 3) := by decide +kernel
theorem d_Fo_giveLabel_152 : decode prog_2_method_6_code 152 = .ok (.return_, 1) := by decide +kernel
theorem zt_19 : (Cond.selects "MergeGraphs$FormFinder" (⟨"MergeGraphs$FormFinder", "giveLabel", "(II)V"⟩ : MethodName) (⟨"MergeGraphs$FormFinder", "giveLabel", "(II)V"⟩ : MethodName)) ∈ zTg := zmem 19 (by decide +kernel) (by decide +kernel)
theorem zt_20 : (Cond.selects "MergeGraphs$FormFinder" (⟨"MergeGraphs$FormFinder", "keepRow", "()V"⟩ : MethodName) (⟨"MergeGraphs$FormFinder", "keepRow", "()V"⟩ : MethodName)) ∈ zTg := zmem 20 (by decide +kernel) (by decide +kernel)
theorem zt_514 : (Cond.methodLink "MergeGraphs$FormFinder" (50 : Nat) (⟨"MergeGraphs$FormFinder", "giveLabel", "(II)V"⟩ : MethodName)) ∈ zTg := zmem 514 (by decide +kernel) (by decide +kernel)
theorem zt_516 : (Cond.instanceMethod (⟨"MergeGraphs$FormFinder", "giveLabel", "(II)V"⟩ : MethodName)) ∈ zTg := zmem 516 (by decide +kernel) (by decide +kernel)
theorem zt_521 : (Cond.methodLink "MergeGraphs$FormFinder" (80 : Nat) (⟨"MergeGraphs$FormFinder", "keepRow", "()V"⟩ : MethodName)) ∈ zTg := zmem 521 (by decide +kernel) (by decide +kernel)
theorem zt_523 : (Cond.instanceMethod (⟨"MergeGraphs$FormFinder", "keepRow", "()V"⟩ : MethodName)) ∈ zTg := zmem 523 (by decide +kernel) (by decide +kernel)
def y_Fo_numberAt : MethodName := ⟨"MergeGraphs$FormFinder", "numberAt", "(LMergeGraphs$Graph;I)I"⟩
abbrev M_Fo_numberAt : zM := (nR2, prog_2_method_2_code, 3, (some .int), 12)
set_option maxRecDepth 100000 in
theorem zk_Fo_numberAt : Cond.code y_Fo_numberAt (M_Fo_numberAt).2.1 (M_Fo_numberAt).2.2.1 (M_Fo_numberAt).2.2.2.1 ∈ zTg := zmem 474 rfl rfl
theorem zy_Fo_numberAt : (y_Fo_numberAt).cls ≠ "java/lang/invoke/MethodHandle" ∧ (y_Fo_numberAt).cls ≠ "java/lang/invoke/VarHandle" ∧ (parseMethodDescriptor (y_Fo_numberAt).desc).map (fun d => d.parameters.length) = some 2 := by decide +kernel
theorem d_Fo_numberAt_0 : decode prog_2_method_2_code 0 = .ok (.aload_n 0, 1) := by decide +kernel
theorem d_Fo_numberAt_1 : decode prog_2_method_2_code 1 = .ok (.getfield 12, 3) := by decide +kernel
theorem d_Fo_numberAt_4 : decode prog_2_method_2_code 4 = .ok (.aload_n 1, 1) := by decide +kernel
theorem d_Fo_numberAt_5 : decode prog_2_method_2_code 5 = .ok (.invokevirtual 35, 3) := by decide +kernel
theorem d_Fo_numberAt_8 : decode prog_2_method_2_code 8 = .ok (.ifCond .ne 29, 3) := by decide +kernel
theorem d_Fo_numberAt_11 : decode prog_2_method_2_code 11 = .ok (.aload_n 0, 1) := by decide +kernel
theorem d_Fo_numberAt_12 : decode prog_2_method_2_code 12 = .ok (.getfield 12, 3) := by decide +kernel
theorem d_Fo_numberAt_15 : decode prog_2_method_2_code 15 = .ok (.aload_n 1, 1) := by decide +kernel
theorem d_Fo_numberAt_16 : decode prog_2_method_2_code 16 = .ok (.invokevirtual 39, 3) := by decide +kernel
theorem d_Fo_numberAt_19 : decode prog_2_method_2_code 19 = .ok (.aload_n 0, 1) := by decide +kernel
theorem d_Fo_numberAt_20 : decode prog_2_method_2_code 20 = .ok (.iconst 0, 1) := by decide +kernel
theorem d_Fo_numberAt_21 : decode prog_2_method_2_code 21 = .ok (.putfield 28, 3) := by decide +kernel
theorem d_Fo_numberAt_24 : decode prog_2_method_2_code 24 = .ok (.aload_n 0, 1) := by decide +kernel
theorem d_Fo_numberAt_25 : decode prog_2_method_2_code 25 = .ok (.invokevirtual 43, 3) := by decide +kernel
theorem d_Fo_numberAt_28 : decode prog_2_method_2_code 28 = .ok (.aload_n 0, 1) := by decide +kernel
theorem d_Fo_numberAt_29 : decode prog_2_method_2_code 29 = .ok (.iconst 0, 1) := by decide +kernel
theorem d_Fo_numberAt_30 : decode prog_2_method_2_code 30 = .ok (.aload_n 0, 1) := by decide +kernel
theorem d_Fo_numberAt_31 : decode prog_2_method_2_code 31 = .ok (.invokevirtual 46, 3) := by decide +kernel
theorem d_Fo_numberAt_34 : decode prog_2_method_2_code 34 = .ok (.invokevirtual 50, 3) := by decide +kernel
theorem d_Fo_numberAt_37 : decode prog_2_method_2_code 37 = .ok (.iload_n 2, 1) := by decide +kernel
theorem d_Fo_numberAt_38 : decode prog_2_method_2_code 38 = .ok (.ifCond .lt 23, 3) := by decide +kernel
theorem d_Fo_numberAt_41 : decode prog_2_method_2_code 41 = .ok (.iload_n 2, 1) := by decide +kernel
theorem d_Fo_numberAt_42 : decode prog_2_method_2_code 42 = .ok (.aload_n 0, 1) := by decide +kernel
theorem d_Fo_numberAt_43 : decode prog_2_method_2_code 43 = .ok (.getfield 12, 3) := by decide +kernel
theorem d_Fo_numberAt_46 : decode prog_2_method_2_code 46 = .ok (.invokevirtual 54, 3) := by decide +kernel
theorem d_Fo_numberAt_49 : decode prog_2_method_2_code 49 = .ok (.if_icmp .ge 12, 3) := by decide +kernel
theorem d_Fo_numberAt_52 : decode prog_2_method_2_code 52 = .ok (.aload_n 0, 1) := by decide +kernel
theorem d_Fo_numberAt_53 : decode prog_2_method_2_code 53 = .ok (.getfield 25, 3) := by decide +kernel
theorem d_Fo_numberAt_56 : decode prog_2_method_2_code 56 = .ok (.iload_n 2, 1) := by decide +kernel
theorem d_Fo_numberAt_57 : decode prog_2_method_2_code 57 = .ok (.iaload, 1) := by decide +kernel
theorem d_Fo_numberAt_58 : decode prog_2_method_2_code 58 = .ok (.goto 4, 3) := by decide +kernel
theorem d_Fo_numberAt_61 : decode prog_2_method_2_code 61 = .ok (.iconst (-1), 1) := by decide +kernel
theorem d_Fo_numberAt_62 : decode prog_2_method_2_code 62 = .ok (.ireturn, 1) := by decide +kernel
theorem zt_15 : (Cond.selects "MergeGraphs$FormFinder" (⟨"MergeGraphs$FormFinder", "findTwins", "()V"⟩ : MethodName) (⟨"MergeGraphs$FormFinder", "findTwins", "()V"⟩ : MethodName)) ∈ zTg := zmem 15 (by decide +kernel) (by decide +kernel)
theorem zt_475 : (Cond.methodLink "MergeGraphs$FormFinder" (35 : Nat) (⟨"MergeGraphs$Graph", "isSame", "(LMergeGraphs$Graph;)Z"⟩ : MethodName)) ∈ zTg := zmem 475 (by decide +kernel) (by decide +kernel)
theorem zt_476 : (Cond.instanceMethod (⟨"MergeGraphs$Graph", "isSame", "(LMergeGraphs$Graph;)Z"⟩ : MethodName)) ∈ zTg := zmem 476 (by decide +kernel) (by decide +kernel)
theorem zt_477 : (Cond.selects "MergeGraphs$Graph" (⟨"MergeGraphs$Graph", "isSame", "(LMergeGraphs$Graph;)Z"⟩ : MethodName) (⟨"MergeGraphs$Graph", "isSame", "(LMergeGraphs$Graph;)Z"⟩ : MethodName)) ∈ zTg := zmem 477 (by decide +kernel) (by decide +kernel)
theorem zt_483 : (Cond.methodLink "MergeGraphs$FormFinder" (39 : Nat) (⟨"MergeGraphs$Graph", "become", "(LMergeGraphs$Graph;)V"⟩ : MethodName)) ∈ zTg := zmem 483 (by decide +kernel) (by decide +kernel)
theorem zt_484 : (Cond.methodLink "MergeGraphs$FormFinder" (43 : Nat) (⟨"MergeGraphs$FormFinder", "findTwins", "()V"⟩ : MethodName)) ∈ zTg := zmem 484 (by decide +kernel) (by decide +kernel)
theorem zt_486 : (Cond.instanceMethod (⟨"MergeGraphs$FormFinder", "findTwins", "()V"⟩ : MethodName)) ∈ zTg := zmem 486 (by decide +kernel) (by decide +kernel)
def f_Fo_nodeBits (G : Nat) (x0 : Nat) (h : pH) : Option pR := (gR h x0 2 0).bind fun v1 => cJ (oC h v1 0) (f_Gr_nodes G v1 h) fun v5 h2 => some (some (.int ((v5 >>> (((40 : Int32)).toInt64 &&& 63))).toInt32), h2)
theorem f_Fo_nodeBits_eq (G : Nat) (x0 : Nat) (h : pH) : f_Fo_nodeBits G x0 h = ((gR h x0 2 0).bind fun v1 => cJ (oC h v1 0) (f_Gr_nodes G v1 h) fun v5 h2 => some (some (.int ((v5 >>> (((40 : Int32)).toInt64 &&& 63))).toInt32), h2)) := rfl
set_option maxRecDepth 100000 in
set_option maxHeartbeats 4000000 in
theorem w_Fo_nodeBits_b0 {X : zX} {r : pR} {G : Nat} (hQ : zQ X r) : ∀ (x0 : Nat) (h : pH), f_Fo_nodeBits G x0 h = some r → Z X M_Fo_nodeBits 0 0 h 0 [(0, .ref x0)] [] := by
  intro x0 h E
  rw [f_Fo_nodeBits_eq] at E
  refine z_aload_n 0 d_Fo_nodeBits_0 rfl rfl ?_
  refine z_getR (ci := 2) (j := 0) rfl (by decide) zf_Fo_12 d_Fo_nodeBits_1 E (fun v1 _ E => ?_)
  obtain ⟨g3, v5, h2, e4, E⟩ := cJ_some E
  refine z_invV (ci := 0) (y := y_Gr_nodes) (Mc := M_Gr_nodes) (av := []) (rest := []) rfl rfl ⟨zt_492, zt_322, zt_323, zt_49⟩ zk_Gr_nodes zy_Gr_nodes (by decide) (Nat.le_of_ble_eq_true rfl) z00 rfl (Nat.le_of_ble_eq_true rfl) d_Fo_nodeBits_4 g3 (m_Gr_nodes e4) ?_
  show Z X M_Fo_nodeBits 0 0 h2 7 [(0, .ref x0)] [.long v5]
  refine z_bipush (v := (40 : Int32)) d_Fo_nodeBits_7 (by decide) ?_
  refine z_lshr d_Fo_nodeBits_9 ?_
  refine z_l2i d_Fo_nodeBits_10 ?_
  exact z_ireturn hQ rfl z00 d_Fo_nodeBits_11 E
theorem m_Fo_nodeBits {l : Launch} {G : Nat} {x0 : Nat} {h : pH} {r : pR} (E : f_Fo_nodeBits G x0 h = some r) : zMet l y_Fo_nodeBits M_Fo_nodeBits 0 0 [.ref x0] h r :=
  zMet_of (by decide) rfl (Nat.le_of_ble_eq_true rfl) (fun p e s m args below meth c D0 cT => w_Fo_nodeBits_b0 (X := (p, l, e, s, m, args, below, meth, c, D0, cT, h, _, 0, 0)) rfl x0 h E)
def f_Fo_writeRow_b67 (G : Nat) (k2 : Nat → Int32 → pH → Option pR) (x0 : Nat) (x1 : Int32) (x2 : Int32) (x3 : Int32) (h : pH) : Option pR := (gR h x0 2 2).bind fun v22 => (sI h v22 x3 x2).bind fun h23 => k2 x0 (x1 + 1) h23
theorem f_Fo_writeRow_b67_eq (G : Nat) (k2 : Nat → Int32 → pH → Option pR) (x0 : Nat) (x1 : Int32) (x2 : Int32) (x3 : Int32) (h : pH) : f_Fo_writeRow_b67 G k2 x0 x1 x2 x3 h = ((gR h x0 2 2).bind fun v22 => (sI h v22 x3 x2).bind fun h23 => k2 x0 (x1 + 1) h23) := rfl
def f_Fo_writeRow_b31 (G : Nat) (k2 : Nat → Int32 → pH → Option pR) : Nat → Nat → Int32 → Int32 → Int32 → pH → Option pR
  | 0 => fun _ _ _ _ _ => none
  | F + 1 => fun x0 x1 x2 x3 h => if x3 ≤ 0 then ((f_Fo_writeRow_b67 G k2) x0 x1 x2 x3 h) else ((gR h x0 2 2).bind fun v16 => (aI h v16 (x3 - (1 : Int32))).bind fun v17 => if v17 ≤ x2 then ((f_Fo_writeRow_b67 G k2) x0 x1 x2 x3 h) else ((gR h x0 2 2).bind fun v18 => (gR h x0 2 2).bind fun v19 => (aI h v19 (x3 - (1 : Int32))).bind fun v20 => (sI h v18 x3 v20).bind fun h21 => (f_Fo_writeRow_b31 G k2 F) x0 x1 x2 (x3 + (-1)) h21))
theorem f_Fo_writeRow_b31_eq (G : Nat) (k2 : Nat → Int32 → pH → Option pR) (F : Nat) (x0 : Nat) (x1 : Int32) (x2 : Int32) (x3 : Int32) (h : pH) : f_Fo_writeRow_b31 G k2 (F + 1) x0 x1 x2 x3 h = (if x3 ≤ 0 then ((f_Fo_writeRow_b67 G k2) x0 x1 x2 x3 h) else ((gR h x0 2 2).bind fun v16 => (aI h v16 (x3 - (1 : Int32))).bind fun v17 => if v17 ≤ x2 then ((f_Fo_writeRow_b67 G k2) x0 x1 x2 x3 h) else ((gR h x0 2 2).bind fun v18 => (gR h x0 2 2).bind fun v19 => (aI h v19 (x3 - (1 : Int32))).bind fun v20 => (sI h v18 x3 v20).bind fun h21 => (f_Fo_writeRow_b31 G k2 F) x0 x1 x2 (x3 + (-1)) h21))) := rfl
def f_Fo_writeRow_b2 (G : Nat) : Nat → Nat → Int32 → pH → Option pR
  | 0 => fun _ _ _ => none
  | F + 1 => fun x0 x1 h => (gR h x0 2 0).bind fun v1 => cI (oC h v1 0) (f_Gr_count G v1 h) fun v5 h2 => if v5 ≤ x1 then (some (none, h2)) else ((gR h2 x0 2 0).bind fun v6 => cI (oC h2 v6 0) (f_Gr_at G v6 x1 h2) fun v10 h7 => (gR h7 x0 2 1).bind fun v11 => cI true (f_Mg_renamed G v10 v11 h7) fun v15 h12 => (f_Fo_writeRow_b31 G (f_Fo_writeRow_b2 G F) G) x0 x1 v15 x1 h12)
theorem f_Fo_writeRow_b2_eq (G : Nat) (F : Nat) (x0 : Nat) (x1 : Int32) (h : pH) : f_Fo_writeRow_b2 G (F + 1) x0 x1 h = ((gR h x0 2 0).bind fun v1 => cI (oC h v1 0) (f_Gr_count G v1 h) fun v5 h2 => if v5 ≤ x1 then (some (none, h2)) else ((gR h2 x0 2 0).bind fun v6 => cI (oC h2 v6 0) (f_Gr_at G v6 x1 h2) fun v10 h7 => (gR h7 x0 2 1).bind fun v11 => cI true (f_Mg_renamed G v10 v11 h7) fun v15 h12 => (f_Fo_writeRow_b31 G (f_Fo_writeRow_b2 G F) G) x0 x1 v15 x1 h12)) := rfl
def f_Fo_writeRow (G : Nat) (x0 : Nat) (h : pH) : Option pR := (f_Fo_writeRow_b2 G G) x0 (0 : Int32) h
theorem f_Fo_writeRow_eq (G : Nat) (x0 : Nat) (h : pH) : f_Fo_writeRow G x0 h = ((f_Fo_writeRow_b2 G G) x0 (0 : Int32) h) := rfl
set_option maxRecDepth 100000 in
set_option maxHeartbeats 4000000 in
theorem w_Fo_writeRow_b67 {X : zX} {r : pR} {G : Nat} {k2 : Nat → Int32 → pH → Option pR} (hQ : zQ X r) (hk2 : ∀ (x0 : Nat) (x1 : Int32) (h : pH), k2 x0 x1 h = some r → Z X M_Fo_writeRow 0 0 h 2 [(0, .ref x0), (1, .int x1)] []) : ∀ (x0 : Nat) (x1 : Int32) (x2 : Int32) (x3 : Int32) (h : pH), f_Fo_writeRow_b67 G k2 x0 x1 x2 x3 h = some r → Z X M_Fo_writeRow 0 0 h 67 [(0, .ref x0), (1, .int x1), (2, .int x2), (3, .int x3)] [] := by
  intro x0 x1 x2 x3 h E
  rw [f_Fo_writeRow_b67_eq] at E
  refine z_aload_n 0 d_Fo_writeRow_67 rfl rfl ?_
  refine z_getR (ci := 2) (j := 2) rfl (by decide) zf_Fo_22 d_Fo_writeRow_68 E (fun v22 _ E => ?_)
  refine z_iload_n 3 d_Fo_writeRow_71 rfl rfl ?_
  refine z_iload_n 2 d_Fo_writeRow_72 rfl rfl ?_
  refine z_iastore d_Fo_writeRow_73 E (fun h23 _ E => ?_)
  refine z_iinc (v := (x1 + 1)) (lv2 := [(1, .int (x1 + 1)), (0, .ref x0), (2, .int x2), (3, .int x3)]) 1 d_Fo_writeRow_74 rfl rfl (Nat.le_of_ble_eq_true rfl) rfl ?_
  refine z_goto (tgt := 2) d_Fo_writeRow_77 (by decide) ?_
  refine z_lv [1, 0] rfl ?_
  exact hk2 x0 (x1 + 1) h23 E
set_option maxRecDepth 100000 in
set_option maxHeartbeats 4000000 in
theorem w_Fo_writeRow_b31 {X : zX} {r : pR} {G : Nat} {k2 : Nat → Int32 → pH → Option pR} (hQ : zQ X r) (hk2 : ∀ (x0 : Nat) (x1 : Int32) (h : pH), k2 x0 x1 h = some r → Z X M_Fo_writeRow 0 0 h 2 [(0, .ref x0), (1, .int x1)] []) : ∀ (F : Nat) (x0 : Nat) (x1 : Int32) (x2 : Int32) (x3 : Int32) (h : pH), f_Fo_writeRow_b31 G k2 F x0 x1 x2 x3 h = some r → Z X M_Fo_writeRow 0 0 h 31 [(0, .ref x0), (1, .int x1), (2, .int x2), (3, .int x3)] [] := by
  intro F
  induction F with
  | zero => intro x0 x1 x2 x3 h E; exact nomatch (show (none : Option pR) = some _ from E)
  | succ F ih =>
    intro x0 x1 x2 x3 h E
    rw [f_Fo_writeRow_b31_eq] at E
    refine z_iload_n 3 d_Fo_writeRow_31 rfl rfl ?_
    refine z_if_le (y := 0) (tgt := 67) d_Fo_writeRow_32 (by decide) E (fun E => ?_) (fun E => ?_)
    · exact (w_Fo_writeRow_b67 hQ hk2) x0 x1 x2 x3 h E
    · refine z_aload_n 0 d_Fo_writeRow_35 rfl rfl ?_
      refine z_getR (ci := 2) (j := 2) rfl (by decide) zf_Fo_22 d_Fo_writeRow_36 E (fun v16 _ E => ?_)
      refine z_iload_n 3 d_Fo_writeRow_39 rfl rfl ?_
      refine z_iconst (v := (1 : Int32)) d_Fo_writeRow_40 (by decide) ?_
      refine z_isub d_Fo_writeRow_41 ?_
      refine z_iaload d_Fo_writeRow_42 E (fun v17 _ E => ?_)
      refine z_iload_n 2 d_Fo_writeRow_43 rfl rfl ?_
      refine z_ic_le (tgt := 67) d_Fo_writeRow_44 (by decide) E (fun E => ?_) (fun E => ?_)
      · exact (w_Fo_writeRow_b67 hQ hk2) x0 x1 x2 x3 h E
      · refine z_aload_n 0 d_Fo_writeRow_47 rfl rfl ?_
        refine z_getR (ci := 2) (j := 2) rfl (by decide) zf_Fo_22 d_Fo_writeRow_48 E (fun v18 _ E => ?_)
        refine z_iload_n 3 d_Fo_writeRow_51 rfl rfl ?_
        refine z_aload_n 0 d_Fo_writeRow_52 rfl rfl ?_
        refine z_getR (ci := 2) (j := 2) rfl (by decide) zf_Fo_22 d_Fo_writeRow_53 E (fun v19 _ E => ?_)
        refine z_iload_n 3 d_Fo_writeRow_56 rfl rfl ?_
        refine z_iconst (v := (1 : Int32)) d_Fo_writeRow_57 (by decide) ?_
        refine z_isub d_Fo_writeRow_58 ?_
        refine z_iaload d_Fo_writeRow_59 E (fun v20 _ E => ?_)
        refine z_iastore d_Fo_writeRow_60 E (fun h21 _ E => ?_)
        refine z_iinc (v := (x3 + (-1))) (lv2 := [(3, .int (x3 + (-1))), (0, .ref x0), (1, .int x1), (2, .int x2)]) 3 d_Fo_writeRow_61 rfl rfl (Nat.le_of_ble_eq_true rfl) rfl ?_
        refine z_goto (tgt := 31) d_Fo_writeRow_64 (by decide) ?_
        refine z_lv [1, 2, 3, 0] rfl ?_
        exact ih x0 x1 x2 (x3 + (-1)) h21 E
set_option maxRecDepth 100000 in
set_option maxHeartbeats 4000000 in
theorem w_Fo_writeRow_b2 {X : zX} {r : pR} {G : Nat} (hQ : zQ X r) : ∀ (F : Nat) (x0 : Nat) (x1 : Int32) (h : pH), f_Fo_writeRow_b2 G F x0 x1 h = some r → Z X M_Fo_writeRow 0 0 h 2 [(0, .ref x0), (1, .int x1)] [] := by
  intro F
  induction F with
  | zero => intro x0 x1 h E; exact nomatch (show (none : Option pR) = some _ from E)
  | succ F ih =>
    intro x0 x1 h E
    rw [f_Fo_writeRow_b2_eq] at E
    refine z_iload_n 1 d_Fo_writeRow_2 rfl rfl ?_
    refine z_aload_n 0 d_Fo_writeRow_3 rfl rfl ?_
    refine z_getR (ci := 2) (j := 0) rfl (by decide) zf_Fo_12 d_Fo_writeRow_4 E (fun v1 _ E => ?_)
    obtain ⟨g3, v5, h2, e4, E⟩ := cI_some E
    refine z_invV (ci := 0) (y := y_Gr_count) (Mc := M_Gr_count) (av := []) (rest := [.int x1]) rfl rfl ⟨zt_502, zt_311, zt_312, zt_49⟩ zk_Gr_count zy_Gr_count (by decide) (Nat.le_of_ble_eq_true rfl) z00 rfl (Nat.le_of_ble_eq_true rfl) d_Fo_writeRow_7 g3 (m_Gr_count e4) ?_
    show Z X M_Fo_writeRow 0 0 h2 10 [(0, .ref x0), (1, .int x1)] [.int v5, .int x1]
    refine z_ic_ge (tgt := 80) d_Fo_writeRow_10 (by decide) E (fun E => ?_) (fun E => ?_)
    · exact z_return hQ rfl z00 d_Fo_writeRow_80 E
    · refine z_aload_n 0 d_Fo_writeRow_13 rfl rfl ?_
      refine z_getR (ci := 2) (j := 0) rfl (by decide) zf_Fo_12 d_Fo_writeRow_14 E (fun v6 _ E => ?_)
      refine z_iload_n 1 d_Fo_writeRow_17 rfl rfl ?_
      obtain ⟨g8, v10, h7, e9, E⟩ := cI_some E
      refine z_invV (ci := 0) (y := y_Gr_at) (Mc := M_Gr_at) (av := [.int x1]) (rest := []) rfl rfl ⟨zt_503, zt_285, zt_286, zt_49⟩ zk_Gr_at zy_Gr_at (by decide) (Nat.le_of_ble_eq_true rfl) z00 rfl (Nat.le_of_ble_eq_true rfl) d_Fo_writeRow_18 g8 (m_Gr_at e9) ?_
      show Z X M_Fo_writeRow 0 0 h7 21 [(0, .ref x0), (1, .int x1)] [.int v10]
      refine z_aload_n 0 d_Fo_writeRow_21 rfl rfl ?_
      refine z_getR (ci := 2) (j := 1) rfl (by decide) zf_Fo_18 d_Fo_writeRow_22 E (fun v11 _ E => ?_)
      obtain ⟨g13, v15, h12, e14, E⟩ := cI_some E
      refine z_invSN (y := y_Mg_renamed) (Mc := M_Mg_renamed) (av := [.int v10, .ref v11]) (rest := []) ⟨(List.mem_of_getElem? (i := 14) rfl), zt_505, zt_48⟩ zk_Mg_renamed zy_Mg_renamed (by decide) (Nat.le_of_ble_eq_true rfl) z00 rfl (Nat.le_of_ble_eq_true rfl) d_Fo_writeRow_25 (m_Mg_renamed e14) ?_
      show Z X M_Fo_writeRow 0 0 h12 28 [(0, .ref x0), (1, .int x1)] [.int v15]
      refine z_istore_n (lv2 := [(2, .int v15), (0, .ref x0), (1, .int x1)]) d_Fo_writeRow_28 rfl (Nat.le_of_ble_eq_true rfl) rfl ?_
      refine z_iload_n 2 d_Fo_writeRow_29 rfl rfl ?_
      refine z_istore_n (lv2 := [(3, .int x1), (2, .int v15), (0, .ref x0), (1, .int x1)]) d_Fo_writeRow_30 rfl (Nat.le_of_ble_eq_true rfl) rfl ?_
      refine z_lv [2, 3, 1, 0] rfl ?_
      exact (w_Fo_writeRow_b31 hQ ih G) x0 x1 v15 x1 h12 E
set_option maxRecDepth 100000 in
set_option maxHeartbeats 4000000 in
theorem w_Fo_writeRow_b0 {X : zX} {r : pR} {G : Nat} (hQ : zQ X r) : ∀ (x0 : Nat) (h : pH), f_Fo_writeRow G x0 h = some r → Z X M_Fo_writeRow 0 0 h 0 [(0, .ref x0)] [] := by
  intro x0 h E
  rw [f_Fo_writeRow_eq] at E
  refine z_iconst (v := (0 : Int32)) d_Fo_writeRow_0 (by decide) ?_
  refine z_istore_n (lv2 := [(1, .int (0 : Int32)), (0, .ref x0)]) d_Fo_writeRow_1 rfl (Nat.le_of_ble_eq_true rfl) rfl ?_
  refine z_lv [1, 0] rfl ?_
  exact (w_Fo_writeRow_b2 hQ G) x0 (0 : Int32) h E
theorem m_Fo_writeRow {l : Launch} {G : Nat} {x0 : Nat} {h : pH} {r : pR} (E : f_Fo_writeRow G x0 h = some r) : zMet l y_Fo_writeRow M_Fo_writeRow 0 0 [.ref x0] h r :=
  zMet_of (by decide) rfl (Nat.le_of_ble_eq_true rfl) (fun p e s m args below meth c D0 cT => w_Fo_writeRow_b0 (X := (p, l, e, s, m, args, below, meth, c, D0, cT, h, _, 0, 0)) rfl x0 h E)
def f_Fo_keepRow_b7 (G : Nat) : Nat → Nat → Int32 → pH → Option pR
  | 0 => fun _ _ _ => none
  | F + 1 => fun x0 x1 h => (gR h x0 2 0).bind fun v2 => cI (oC h v2 0) (f_Gr_count G v2 h) fun v6 h3 => if v6 ≤ x1 then (some (none, h3)) else ((gR h3 x0 2 3).bind fun v7 => (gR h3 x0 2 2).bind fun v8 => (aI h3 v8 x1).bind fun v9 => (sI h3 v7 x1 v9).bind fun h10 => (f_Fo_keepRow_b7 G F) x0 (x1 + 1) h10)
theorem f_Fo_keepRow_b7_eq (G : Nat) (F : Nat) (x0 : Nat) (x1 : Int32) (h : pH) : f_Fo_keepRow_b7 G (F + 1) x0 x1 h = ((gR h x0 2 0).bind fun v2 => cI (oC h v2 0) (f_Gr_count G v2 h) fun v6 h3 => if v6 ≤ x1 then (some (none, h3)) else ((gR h3 x0 2 3).bind fun v7 => (gR h3 x0 2 2).bind fun v8 => (aI h3 v8 x1).bind fun v9 => (sI h3 v7 x1 v9).bind fun h10 => (f_Fo_keepRow_b7 G F) x0 (x1 + 1) h10)) := rfl
def f_Fo_keepRow (G : Nat) (x0 : Nat) (h : pH) : Option pR := (oZ h x0 2 4 (1 : Int32)).bind fun h1 => (f_Fo_keepRow_b7 G G) x0 (0 : Int32) h1
theorem f_Fo_keepRow_eq (G : Nat) (x0 : Nat) (h : pH) : f_Fo_keepRow G x0 h = ((oZ h x0 2 4 (1 : Int32)).bind fun h1 => (f_Fo_keepRow_b7 G G) x0 (0 : Int32) h1) := rfl
set_option maxRecDepth 100000 in
set_option maxHeartbeats 4000000 in
theorem w_Fo_keepRow_b7 {X : zX} {r : pR} {G : Nat} (hQ : zQ X r) : ∀ (F : Nat) (x0 : Nat) (x1 : Int32) (h : pH), f_Fo_keepRow_b7 G F x0 x1 h = some r → Z X M_Fo_keepRow 0 0 h 7 [(0, .ref x0), (1, .int x1)] [] := by
  intro F
  induction F with
  | zero => intro x0 x1 h E; exact nomatch (show (none : Option pR) = some _ from E)
  | succ F ih =>
    intro x0 x1 h E
    rw [f_Fo_keepRow_b7_eq] at E
    refine z_iload_n 1 d_Fo_keepRow_7 rfl rfl ?_
    refine z_aload_n 0 d_Fo_keepRow_8 rfl rfl ?_
    refine z_getR (ci := 2) (j := 0) rfl (by decide) zf_Fo_12 d_Fo_keepRow_9 E (fun v2 _ E => ?_)
    obtain ⟨g4, v6, h3, e5, E⟩ := cI_some E
    refine z_invV (ci := 0) (y := y_Gr_count) (Mc := M_Gr_count) (av := []) (rest := [.int x1]) rfl rfl ⟨zt_502, zt_311, zt_312, zt_49⟩ zk_Gr_count zy_Gr_count (by decide) (Nat.le_of_ble_eq_true rfl) z00 rfl (Nat.le_of_ble_eq_true rfl) d_Fo_keepRow_12 g4 (m_Gr_count e5) ?_
    show Z X M_Fo_keepRow 0 0 h3 15 [(0, .ref x0), (1, .int x1)] [.int v6, .int x1]
    refine z_ic_ge (tgt := 36) d_Fo_keepRow_15 (by decide) E (fun E => ?_) (fun E => ?_)
    · exact z_return hQ rfl z00 d_Fo_keepRow_36 E
    · refine z_aload_n 0 d_Fo_keepRow_18 rfl rfl ?_
      refine z_getR (ci := 2) (j := 3) rfl (by decide) zf_Fo_25 d_Fo_keepRow_19 E (fun v7 _ E => ?_)
      refine z_iload_n 1 d_Fo_keepRow_22 rfl rfl ?_
      refine z_aload_n 0 d_Fo_keepRow_23 rfl rfl ?_
      refine z_getR (ci := 2) (j := 2) rfl (by decide) zf_Fo_22 d_Fo_keepRow_24 E (fun v8 _ E => ?_)
      refine z_iload_n 1 d_Fo_keepRow_27 rfl rfl ?_
      refine z_iaload d_Fo_keepRow_28 E (fun v9 _ E => ?_)
      refine z_iastore d_Fo_keepRow_29 E (fun h10 _ E => ?_)
      refine z_iinc (v := (x1 + 1)) (lv2 := [(1, .int (x1 + 1)), (0, .ref x0)]) 1 d_Fo_keepRow_30 rfl rfl (Nat.le_of_ble_eq_true rfl) rfl ?_
      refine z_goto (tgt := 7) d_Fo_keepRow_33 (by decide) ?_
      refine z_lv [1, 0] rfl ?_
      exact ih x0 (x1 + 1) h10 E
set_option maxRecDepth 100000 in
set_option maxHeartbeats 4000000 in
theorem w_Fo_keepRow_b0 {X : zX} {r : pR} {G : Nat} (hQ : zQ X r) : ∀ (x0 : Nat) (h : pH), f_Fo_keepRow G x0 h = some r → Z X M_Fo_keepRow 0 0 h 0 [(0, .ref x0)] [] := by
  intro x0 h E
  rw [f_Fo_keepRow_eq] at E
  refine z_aload_n 0 d_Fo_keepRow_0 rfl rfl ?_
  refine z_iconst (v := (1 : Int32)) d_Fo_keepRow_1 (by decide) ?_
  refine z_putZ (ci := 2) (j := 4) rfl (by decide) zf_Fo_28 rfl rfl d_Fo_keepRow_2 E (fun h1 _ E => ?_)
  refine z_iconst (v := (0 : Int32)) d_Fo_keepRow_5 (by decide) ?_
  refine z_istore_n (lv2 := [(1, .int (0 : Int32)), (0, .ref x0)]) d_Fo_keepRow_6 rfl (Nat.le_of_ble_eq_true rfl) rfl ?_
  refine z_lv [1, 0] rfl ?_
  exact (w_Fo_keepRow_b7 hQ G) x0 (0 : Int32) h1 E
theorem m_Fo_keepRow {l : Launch} {G : Nat} {x0 : Nat} {h : pH} {r : pR} (E : f_Fo_keepRow G x0 h = some r) : zMet l y_Fo_keepRow M_Fo_keepRow 0 0 [.ref x0] h r :=
  zMet_of (by decide) rfl (Nat.le_of_ble_eq_true rfl) (fun p e s m args below meth c D0 cT => w_Fo_keepRow_b0 (X := (p, l, e, s, m, args, below, meth, c, D0, cT, h, _, 0, 0)) rfl x0 h E)
def f_Fo_canSwap_b2 (G : Nat) : Nat → Nat → Int32 → Int32 → Int32 → pH → Option pR
  | 0 => fun _ _ _ _ _ => none
  | F + 1 => fun x0 x1 x2 x3 h => if (6 : Int32) ≤ x3 then ((gR h x0 2 1).bind fun v1 => (sI h v1 x1 ((40 : Int32) + x2)).bind fun h2 => (gR h2 x0 2 1).bind fun v3 => (sI h2 v3 x2 ((40 : Int32) + x1)).bind fun h4 => cV (oC h4 x0 2) (f_Fo_writeRow G x0 h4) fun h5 => (gR h5 x0 2 0).bind fun v8 => (gR h5 x0 2 2).bind fun v9 => cI (oC h5 v8 0) (f_Gr_isSameRow G v8 v9 h5) fun v13 h10 => (if isZ v13 = true then some (some (.int v13), h10) else none)) else ((gR h x0 2 1).bind fun v14 => (sI h v14 x3 ((40 : Int32) + x3)).bind fun h15 => (f_Fo_canSwap_b2 G F) x0 x1 x2 (x3 + 1) h15)
theorem f_Fo_canSwap_b2_eq (G : Nat) (F : Nat) (x0 : Nat) (x1 : Int32) (x2 : Int32) (x3 : Int32) (h : pH) : f_Fo_canSwap_b2 G (F + 1) x0 x1 x2 x3 h = (if (6 : Int32) ≤ x3 then ((gR h x0 2 1).bind fun v1 => (sI h v1 x1 ((40 : Int32) + x2)).bind fun h2 => (gR h2 x0 2 1).bind fun v3 => (sI h2 v3 x2 ((40 : Int32) + x1)).bind fun h4 => cV (oC h4 x0 2) (f_Fo_writeRow G x0 h4) fun h5 => (gR h5 x0 2 0).bind fun v8 => (gR h5 x0 2 2).bind fun v9 => cI (oC h5 v8 0) (f_Gr_isSameRow G v8 v9 h5) fun v13 h10 => (if isZ v13 = true then some (some (.int v13), h10) else none)) else ((gR h x0 2 1).bind fun v14 => (sI h v14 x3 ((40 : Int32) + x3)).bind fun h15 => (f_Fo_canSwap_b2 G F) x0 x1 x2 (x3 + 1) h15)) := rfl
def f_Fo_canSwap (G : Nat) (x0 : Nat) (x1 : Int32) (x2 : Int32) (h : pH) : Option pR := (f_Fo_canSwap_b2 G G) x0 x1 x2 (0 : Int32) h
theorem f_Fo_canSwap_eq (G : Nat) (x0 : Nat) (x1 : Int32) (x2 : Int32) (h : pH) : f_Fo_canSwap G x0 x1 x2 h = ((f_Fo_canSwap_b2 G G) x0 x1 x2 (0 : Int32) h) := rfl
set_option maxRecDepth 100000 in
set_option maxHeartbeats 4000000 in
theorem w_Fo_canSwap_b2 {X : zX} {r : pR} {G : Nat} (hQ : zQ X r) : ∀ (F : Nat) (x0 : Nat) (x1 : Int32) (x2 : Int32) (x3 : Int32) (h : pH), f_Fo_canSwap_b2 G F x0 x1 x2 x3 h = some r → Z X M_Fo_canSwap 0 0 h 2 [(0, .ref x0), (1, .int x1), (2, .int x2), (3, .int x3)] [] := by
  intro F
  induction F with
  | zero => intro x0 x1 x2 x3 h E; exact nomatch (show (none : Option pR) = some _ from E)
  | succ F ih =>
    intro x0 x1 x2 x3 h E
    rw [f_Fo_canSwap_b2_eq] at E
    refine z_iload_n 3 d_Fo_canSwap_2 rfl rfl ?_
    refine z_bipush (v := (6 : Int32)) d_Fo_canSwap_3 (by decide) ?_
    refine z_ic_ge (tgt := 24) d_Fo_canSwap_5 (by decide) E (fun E => ?_) (fun E => ?_)
    · refine z_aload_n 0 d_Fo_canSwap_24 rfl rfl ?_
      refine z_getR (ci := 2) (j := 1) rfl (by decide) zf_Fo_18 d_Fo_canSwap_25 E (fun v1 _ E => ?_)
      refine z_iload_n 1 d_Fo_canSwap_28 rfl rfl ?_
      refine z_bipush (v := (40 : Int32)) d_Fo_canSwap_29 (by decide) ?_
      refine z_iload_n 2 d_Fo_canSwap_31 rfl rfl ?_
      refine z_iadd d_Fo_canSwap_32 ?_
      refine z_iastore d_Fo_canSwap_33 E (fun h2 _ E => ?_)
      refine z_aload_n 0 d_Fo_canSwap_34 rfl rfl ?_
      refine z_getR (ci := 2) (j := 1) rfl (by decide) zf_Fo_18 d_Fo_canSwap_35 E (fun v3 _ E => ?_)
      refine z_iload_n 2 d_Fo_canSwap_38 rfl rfl ?_
      refine z_bipush (v := (40 : Int32)) d_Fo_canSwap_39 (by decide) ?_
      refine z_iload_n 1 d_Fo_canSwap_41 rfl rfl ?_
      refine z_iadd d_Fo_canSwap_42 ?_
      refine z_iastore d_Fo_canSwap_43 E (fun h4 _ E => ?_)
      refine z_aload_n 0 d_Fo_canSwap_44 rfl rfl ?_
      obtain ⟨g6, h5, e7, E⟩ := cV_some E
      refine z_invV (ci := 2) (y := y_Fo_writeRow) (Mc := M_Fo_writeRow) (av := []) (rest := []) rfl rfl ⟨zt_498, zt_500, zt_18, zt_51⟩ zk_Fo_writeRow zy_Fo_writeRow (by decide) (Nat.le_of_ble_eq_true rfl) z00 rfl (Nat.le_of_ble_eq_true rfl) d_Fo_canSwap_45 g6 (m_Fo_writeRow e7) ?_
      show Z X M_Fo_canSwap 0 0 h5 48 [(0, .ref x0), (1, .int x1), (2, .int x2), (3, .int x3)] []
      refine z_aload_n 0 d_Fo_canSwap_48 rfl rfl ?_
      refine z_getR (ci := 2) (j := 0) rfl (by decide) zf_Fo_12 d_Fo_canSwap_49 E (fun v8 _ E => ?_)
      refine z_aload_n 0 d_Fo_canSwap_52 rfl rfl ?_
      refine z_getR (ci := 2) (j := 2) rfl (by decide) zf_Fo_22 d_Fo_canSwap_53 E (fun v9 _ E => ?_)
      obtain ⟨g11, v13, h10, e12, E⟩ := cI_some E
      refine z_invV (ci := 0) (y := y_Gr_isSameRow) (Mc := M_Gr_isSameRow) (av := [.ref v9]) (rest := []) rfl rfl ⟨zt_513, zt_480, zt_481, zt_49⟩ zk_Gr_isSameRow zy_Gr_isSameRow (by decide) (Nat.le_of_ble_eq_true rfl) z00 rfl (Nat.le_of_ble_eq_true rfl) d_Fo_canSwap_56 g11 (m_Gr_isSameRow e12) ?_
      show Z X M_Fo_canSwap 0 0 h10 59 [(0, .ref x0), (1, .int x1), (2, .int x2), (3, .int x3)] [.int v13]
      exact z_zreturn hQ rfl z00 d_Fo_canSwap_59 E
    · refine z_aload_n 0 d_Fo_canSwap_8 rfl rfl ?_
      refine z_getR (ci := 2) (j := 1) rfl (by decide) zf_Fo_18 d_Fo_canSwap_9 E (fun v14 _ E => ?_)
      refine z_iload_n 3 d_Fo_canSwap_12 rfl rfl ?_
      refine z_bipush (v := (40 : Int32)) d_Fo_canSwap_13 (by decide) ?_
      refine z_iload_n 3 d_Fo_canSwap_15 rfl rfl ?_
      refine z_iadd d_Fo_canSwap_16 ?_
      refine z_iastore d_Fo_canSwap_17 E (fun h15 _ E => ?_)
      refine z_iinc (v := (x3 + 1)) (lv2 := [(3, .int (x3 + 1)), (0, .ref x0), (1, .int x1), (2, .int x2)]) 3 d_Fo_canSwap_18 rfl rfl (Nat.le_of_ble_eq_true rfl) rfl ?_
      refine z_goto (tgt := 2) d_Fo_canSwap_21 (by decide) ?_
      refine z_lv [1, 2, 3, 0] rfl ?_
      exact ih x0 x1 x2 (x3 + 1) h15 E
set_option maxRecDepth 100000 in
set_option maxHeartbeats 4000000 in
theorem w_Fo_canSwap_b0 {X : zX} {r : pR} {G : Nat} (hQ : zQ X r) : ∀ (x0 : Nat) (x1 : Int32) (x2 : Int32) (h : pH), f_Fo_canSwap G x0 x1 x2 h = some r → Z X M_Fo_canSwap 0 0 h 0 [(0, .ref x0), (1, .int x1), (2, .int x2)] [] := by
  intro x0 x1 x2 h E
  rw [f_Fo_canSwap_eq] at E
  refine z_iconst (v := (0 : Int32)) d_Fo_canSwap_0 (by decide) ?_
  refine z_istore_n (lv2 := [(3, .int (0 : Int32)), (0, .ref x0), (1, .int x1), (2, .int x2)]) d_Fo_canSwap_1 rfl (Nat.le_of_ble_eq_true rfl) rfl ?_
  refine z_lv [1, 2, 3, 0] rfl ?_
  exact (w_Fo_canSwap_b2 hQ G) x0 x1 x2 (0 : Int32) h E
theorem m_Fo_canSwap {l : Launch} {G : Nat} {x0 : Nat} {x1 : Int32} {x2 : Int32} {h : pH} {r : pR} (E : f_Fo_canSwap G x0 x1 x2 h = some r) : zMet l y_Fo_canSwap M_Fo_canSwap 0 0 [.ref x0, .int x1, .int x2] h r :=
  zMet_of (by decide) rfl (Nat.le_of_ble_eq_true rfl) (fun p e s m args below meth c D0 cT => w_Fo_canSwap_b0 (X := (p, l, e, s, m, args, below, meth, c, D0, cT, h, _, 0, 0)) rfl x0 x1 x2 h E)
def f_Fo_findTwins_b66 (G : Nat) (k22 : Nat → Int32 → Int32 → Int32 → pH → Option pR) (x0 : Nat) (x1 : Int32) (x2 : Int32) (x3 : Int32) (h : pH) : Option pR := k22 x0 x1 x2 (x3 + 1) h
theorem f_Fo_findTwins_b66_eq (G : Nat) (k22 : Nat → Int32 → Int32 → Int32 → pH → Option pR) (x0 : Nat) (x1 : Int32) (x2 : Int32) (x3 : Int32) (h : pH) : f_Fo_findTwins_b66 G k22 x0 x1 x2 x3 h = (k22 x0 x1 x2 (x3 + 1) h) := rfl
def f_Fo_findTwins_b22 (G : Nat) (k7 : Nat → Int32 → Int32 → pH → Option pR) : Nat → Nat → Int32 → Int32 → Int32 → pH → Option pR
  | 0 => fun _ _ _ _ _ => none
  | F + 1 => fun x0 x1 x2 x3 h => if x2 ≤ x3 then (k7 x0 x1 (x2 + 1) h) else (cI true (f_Mg_isIn G (x1).toInt64 x2 h) fun v10 h7 => if v10 = 0 then ((f_Fo_findTwins_b66 G (f_Fo_findTwins_b22 G k7 F)) x0 x1 x2 x3 h7) else (cI true (f_Mg_isIn G (x1).toInt64 x3 h7) fun v14 h11 => if v14 = 0 then ((f_Fo_findTwins_b66 G (f_Fo_findTwins_b22 G k7 F)) x0 x1 x2 x3 h11) else (cI (oC h11 x0 2) (f_Fo_canSwap G x0 x2 x3 h11) fun v18 h15 => if v18 = 0 then ((f_Fo_findTwins_b66 G (f_Fo_findTwins_b22 G k7 F)) x0 x1 x2 x3 h15) else ((gR h15 x0 2 5).bind fun v19 => (aI h15 v19 x2).bind fun v20 => (sI h15 v19 x2 (v20 ||| ((1 : Int32) <<< (x3 &&& 31)))).bind fun h21 => (f_Fo_findTwins_b66 G (f_Fo_findTwins_b22 G k7 F)) x0 x1 x2 x3 h21))))
theorem f_Fo_findTwins_b22_eq (G : Nat) (k7 : Nat → Int32 → Int32 → pH → Option pR) (F : Nat) (x0 : Nat) (x1 : Int32) (x2 : Int32) (x3 : Int32) (h : pH) : f_Fo_findTwins_b22 G k7 (F + 1) x0 x1 x2 x3 h = (if x2 ≤ x3 then (k7 x0 x1 (x2 + 1) h) else (cI true (f_Mg_isIn G (x1).toInt64 x2 h) fun v10 h7 => if v10 = 0 then ((f_Fo_findTwins_b66 G (f_Fo_findTwins_b22 G k7 F)) x0 x1 x2 x3 h7) else (cI true (f_Mg_isIn G (x1).toInt64 x3 h7) fun v14 h11 => if v14 = 0 then ((f_Fo_findTwins_b66 G (f_Fo_findTwins_b22 G k7 F)) x0 x1 x2 x3 h11) else (cI (oC h11 x0 2) (f_Fo_canSwap G x0 x2 x3 h11) fun v18 h15 => if v18 = 0 then ((f_Fo_findTwins_b66 G (f_Fo_findTwins_b22 G k7 F)) x0 x1 x2 x3 h15) else ((gR h15 x0 2 5).bind fun v19 => (aI h15 v19 x2).bind fun v20 => (sI h15 v19 x2 (v20 ||| ((1 : Int32) <<< (x3 &&& 31)))).bind fun h21 => (f_Fo_findTwins_b66 G (f_Fo_findTwins_b22 G k7 F)) x0 x1 x2 x3 h21))))) := rfl
def f_Fo_findTwins_b7 (G : Nat) : Nat → Nat → Int32 → Int32 → pH → Option pR
  | 0 => fun _ _ _ _ => none
  | F + 1 => fun x0 x1 x2 h => if (6 : Int32) ≤ x2 then (some (none, h)) else ((gR h x0 2 5).bind fun v5 => (sI h v5 x2 (0 : Int32)).bind fun h6 => (f_Fo_findTwins_b22 G (f_Fo_findTwins_b7 G F) G) x0 x1 x2 (0 : Int32) h6)
theorem f_Fo_findTwins_b7_eq (G : Nat) (F : Nat) (x0 : Nat) (x1 : Int32) (x2 : Int32) (h : pH) : f_Fo_findTwins_b7 G (F + 1) x0 x1 x2 h = (if (6 : Int32) ≤ x2 then (some (none, h)) else ((gR h x0 2 5).bind fun v5 => (sI h v5 x2 (0 : Int32)).bind fun h6 => (f_Fo_findTwins_b22 G (f_Fo_findTwins_b7 G F) G) x0 x1 x2 (0 : Int32) h6)) := rfl
def f_Fo_findTwins (G : Nat) (x0 : Nat) (h : pH) : Option pR := cI (oC h x0 2) (f_Fo_nodeBits G x0 h) fun v4 h1 => (f_Fo_findTwins_b7 G G) x0 v4 (0 : Int32) h1
theorem f_Fo_findTwins_eq (G : Nat) (x0 : Nat) (h : pH) : f_Fo_findTwins G x0 h = (cI (oC h x0 2) (f_Fo_nodeBits G x0 h) fun v4 h1 => (f_Fo_findTwins_b7 G G) x0 v4 (0 : Int32) h1) := rfl
set_option maxRecDepth 100000 in
set_option maxHeartbeats 4000000 in
theorem w_Fo_findTwins_b66 {X : zX} {r : pR} {G : Nat} {k22 : Nat → Int32 → Int32 → Int32 → pH → Option pR} (hQ : zQ X r) (hk22 : ∀ (x0 : Nat) (x1 : Int32) (x2 : Int32) (x3 : Int32) (h : pH), k22 x0 x1 x2 x3 h = some r → Z X M_Fo_findTwins 0 0 h 22 [(0, .ref x0), (1, .int x1), (2, .int x2), (3, .int x3)] []) : ∀ (x0 : Nat) (x1 : Int32) (x2 : Int32) (x3 : Int32) (h : pH), f_Fo_findTwins_b66 G k22 x0 x1 x2 x3 h = some r → Z X M_Fo_findTwins 0 0 h 66 [(0, .ref x0), (1, .int x1), (2, .int x2), (3, .int x3)] [] := by
  intro x0 x1 x2 x3 h E
  rw [f_Fo_findTwins_b66_eq] at E
  refine z_iinc (v := (x3 + 1)) (lv2 := [(3, .int (x3 + 1)), (0, .ref x0), (1, .int x1), (2, .int x2)]) 3 d_Fo_findTwins_66 rfl rfl (Nat.le_of_ble_eq_true rfl) rfl ?_
  refine z_goto (tgt := 22) d_Fo_findTwins_69 (by decide) ?_
  refine z_lv [1, 2, 3, 0] rfl ?_
  exact hk22 x0 x1 x2 (x3 + 1) h E
set_option maxRecDepth 100000 in
set_option maxHeartbeats 4000000 in
theorem w_Fo_findTwins_b22 {X : zX} {r : pR} {G : Nat} {k7 : Nat → Int32 → Int32 → pH → Option pR} (hQ : zQ X r) (hk7 : ∀ (x0 : Nat) (x1 : Int32) (x2 : Int32) (h : pH), k7 x0 x1 x2 h = some r → Z X M_Fo_findTwins 0 0 h 7 [(0, .ref x0), (1, .int x1), (2, .int x2)] []) : ∀ (F : Nat) (x0 : Nat) (x1 : Int32) (x2 : Int32) (x3 : Int32) (h : pH), f_Fo_findTwins_b22 G k7 F x0 x1 x2 x3 h = some r → Z X M_Fo_findTwins 0 0 h 22 [(0, .ref x0), (1, .int x1), (2, .int x2), (3, .int x3)] [] := by
  intro F
  induction F with
  | zero => intro x0 x1 x2 x3 h E; exact nomatch (show (none : Option pR) = some _ from E)
  | succ F ih =>
    intro x0 x1 x2 x3 h E
    rw [f_Fo_findTwins_b22_eq] at E
    refine z_iload_n 3 d_Fo_findTwins_22 rfl rfl ?_
    refine z_iload_n 2 d_Fo_findTwins_23 rfl rfl ?_
    refine z_ic_ge (tgt := 72) d_Fo_findTwins_24 (by decide) E (fun E => ?_) (fun E => ?_)
    · refine z_iinc (v := (x2 + 1)) (lv2 := [(2, .int (x2 + 1)), (0, .ref x0), (1, .int x1), (3, .int x3)]) 2 d_Fo_findTwins_72 rfl rfl (Nat.le_of_ble_eq_true rfl) rfl ?_
      refine z_goto (tgt := 7) d_Fo_findTwins_75 (by decide) ?_
      refine z_lv [1, 2, 0] rfl ?_
      exact hk7 x0 x1 (x2 + 1) h E
    · refine z_iload_n 1 d_Fo_findTwins_27 rfl rfl ?_
      refine z_i2l d_Fo_findTwins_28 ?_
      refine z_iload_n 2 d_Fo_findTwins_29 rfl rfl ?_
      obtain ⟨g8, v10, h7, e9, E⟩ := cI_some E
      refine z_invSN (y := y_Mg_isIn) (Mc := M_Mg_isIn) (av := [.long (x1).toInt64, .int x2]) (rest := []) ⟨(List.mem_of_getElem? (i := 13) rfl), zt_395, zt_48⟩ zk_Mg_isIn zy_Mg_isIn (by decide) (Nat.le_of_ble_eq_true rfl) z00 rfl (Nat.le_of_ble_eq_true rfl) d_Fo_findTwins_30 (m_Mg_isIn e9) ?_
      show Z X M_Fo_findTwins 0 0 h7 33 [(0, .ref x0), (1, .int x1), (2, .int x2), (3, .int x3)] [.int v10]
      refine z_if_eq (y := 0) (tgt := 66) d_Fo_findTwins_33 (by decide) E (fun E => ?_) (fun E => ?_)
      · exact (w_Fo_findTwins_b66 hQ ih) x0 x1 x2 x3 h7 E
      · refine z_iload_n 1 d_Fo_findTwins_36 rfl rfl ?_
        refine z_i2l d_Fo_findTwins_37 ?_
        refine z_iload_n 3 d_Fo_findTwins_38 rfl rfl ?_
        obtain ⟨g12, v14, h11, e13, E⟩ := cI_some E
        refine z_invSN (y := y_Mg_isIn) (Mc := M_Mg_isIn) (av := [.long (x1).toInt64, .int x3]) (rest := []) ⟨(List.mem_of_getElem? (i := 13) rfl), zt_395, zt_48⟩ zk_Mg_isIn zy_Mg_isIn (by decide) (Nat.le_of_ble_eq_true rfl) z00 rfl (Nat.le_of_ble_eq_true rfl) d_Fo_findTwins_39 (m_Mg_isIn e13) ?_
        show Z X M_Fo_findTwins 0 0 h11 42 [(0, .ref x0), (1, .int x1), (2, .int x2), (3, .int x3)] [.int v14]
        refine z_if_eq (y := 0) (tgt := 66) d_Fo_findTwins_42 (by decide) E (fun E => ?_) (fun E => ?_)
        · exact (w_Fo_findTwins_b66 hQ ih) x0 x1 x2 x3 h11 E
        · refine z_aload_n 0 d_Fo_findTwins_45 rfl rfl ?_
          refine z_iload_n 2 d_Fo_findTwins_46 rfl rfl ?_
          refine z_iload_n 3 d_Fo_findTwins_47 rfl rfl ?_
          obtain ⟨g16, v18, h15, e17, E⟩ := cI_some E
          refine z_invV (ci := 2) (y := y_Fo_canSwap) (Mc := M_Fo_canSwap) (av := [.int x2, .int x3]) (rest := []) rfl rfl ⟨zt_494, zt_496, zt_17, zt_51⟩ zk_Fo_canSwap zy_Fo_canSwap (by decide) (Nat.le_of_ble_eq_true rfl) z00 rfl (Nat.le_of_ble_eq_true rfl) d_Fo_findTwins_48 g16 (m_Fo_canSwap e17) ?_
          show Z X M_Fo_findTwins 0 0 h15 51 [(0, .ref x0), (1, .int x1), (2, .int x2), (3, .int x3)] [.int v18]
          refine z_if_eq (y := 0) (tgt := 66) d_Fo_findTwins_51 (by decide) E (fun E => ?_) (fun E => ?_)
          · exact (w_Fo_findTwins_b66 hQ ih) x0 x1 x2 x3 h15 E
          · refine z_aload_n 0 d_Fo_findTwins_54 rfl rfl ?_
            refine z_getR (ci := 2) (j := 5) rfl (by decide) zf_Fo_32 d_Fo_findTwins_55 E (fun v19 _ E => ?_)
            refine z_iload_n 2 d_Fo_findTwins_58 rfl rfl ?_
            refine z_dup2 d_Fo_findTwins_59 rfl rfl ?_
            refine z_iaload d_Fo_findTwins_60 E (fun v20 _ E => ?_)
            refine z_iconst (v := (1 : Int32)) d_Fo_findTwins_61 (by decide) ?_
            refine z_iload_n 3 d_Fo_findTwins_62 rfl rfl ?_
            refine z_ishl d_Fo_findTwins_63 ?_
            refine z_ior d_Fo_findTwins_64 ?_
            refine z_iastore d_Fo_findTwins_65 E (fun h21 _ E => ?_)
            exact (w_Fo_findTwins_b66 hQ ih) x0 x1 x2 x3 h21 E
set_option maxRecDepth 100000 in
set_option maxHeartbeats 4000000 in
theorem w_Fo_findTwins_b7 {X : zX} {r : pR} {G : Nat} (hQ : zQ X r) : ∀ (F : Nat) (x0 : Nat) (x1 : Int32) (x2 : Int32) (h : pH), f_Fo_findTwins_b7 G F x0 x1 x2 h = some r → Z X M_Fo_findTwins 0 0 h 7 [(0, .ref x0), (1, .int x1), (2, .int x2)] [] := by
  intro F
  induction F with
  | zero => intro x0 x1 x2 h E; exact nomatch (show (none : Option pR) = some _ from E)
  | succ F ih =>
    intro x0 x1 x2 h E
    rw [f_Fo_findTwins_b7_eq] at E
    refine z_iload_n 2 d_Fo_findTwins_7 rfl rfl ?_
    refine z_bipush (v := (6 : Int32)) d_Fo_findTwins_8 (by decide) ?_
    refine z_ic_ge (tgt := 78) d_Fo_findTwins_10 (by decide) E (fun E => ?_) (fun E => ?_)
    · exact z_return hQ rfl z00 d_Fo_findTwins_78 E
    · refine z_aload_n 0 d_Fo_findTwins_13 rfl rfl ?_
      refine z_getR (ci := 2) (j := 5) rfl (by decide) zf_Fo_32 d_Fo_findTwins_14 E (fun v5 _ E => ?_)
      refine z_iload_n 2 d_Fo_findTwins_17 rfl rfl ?_
      refine z_iconst (v := (0 : Int32)) d_Fo_findTwins_18 (by decide) ?_
      refine z_iastore d_Fo_findTwins_19 E (fun h6 _ E => ?_)
      refine z_iconst (v := (0 : Int32)) d_Fo_findTwins_20 (by decide) ?_
      refine z_istore_n (lv2 := [(3, .int (0 : Int32)), (0, .ref x0), (1, .int x1), (2, .int x2)]) d_Fo_findTwins_21 rfl (Nat.le_of_ble_eq_true rfl) rfl ?_
      refine z_lv [1, 2, 3, 0] rfl ?_
      exact (w_Fo_findTwins_b22 hQ ih G) x0 x1 x2 (0 : Int32) h6 E
set_option maxRecDepth 100000 in
set_option maxHeartbeats 4000000 in
theorem w_Fo_findTwins_b0 {X : zX} {r : pR} {G : Nat} (hQ : zQ X r) : ∀ (x0 : Nat) (h : pH), f_Fo_findTwins G x0 h = some r → Z X M_Fo_findTwins 0 0 h 0 [(0, .ref x0)] [] := by
  intro x0 h E
  rw [f_Fo_findTwins_eq] at E
  refine z_aload_n 0 d_Fo_findTwins_0 rfl rfl ?_
  obtain ⟨g2, v4, h1, e3, E⟩ := cI_some E
  refine z_invV (ci := 2) (y := y_Fo_nodeBits) (Mc := M_Fo_nodeBits) (av := []) (rest := []) rfl rfl ⟨zt_488, zt_490, zt_16, zt_51⟩ zk_Fo_nodeBits zy_Fo_nodeBits (by decide) (Nat.le_of_ble_eq_true rfl) z00 rfl (Nat.le_of_ble_eq_true rfl) d_Fo_findTwins_1 g2 (m_Fo_nodeBits e3) ?_
  show Z X M_Fo_findTwins 0 0 h1 4 [(0, .ref x0)] [.int v4]
  refine z_istore_n (lv2 := [(1, .int v4), (0, .ref x0)]) d_Fo_findTwins_4 rfl (Nat.le_of_ble_eq_true rfl) rfl ?_
  refine z_iconst (v := (0 : Int32)) d_Fo_findTwins_5 (by decide) ?_
  refine z_istore_n (lv2 := [(2, .int (0 : Int32)), (1, .int v4), (0, .ref x0)]) d_Fo_findTwins_6 rfl (Nat.le_of_ble_eq_true rfl) rfl ?_
  refine z_lv [2, 1, 0] rfl ?_
  exact (w_Fo_findTwins_b7 hQ G) x0 v4 (0 : Int32) h1 E
theorem m_Fo_findTwins {l : Launch} {G : Nat} {x0 : Nat} {h : pH} {r : pR} (E : f_Fo_findTwins G x0 h = some r) : zMet l y_Fo_findTwins M_Fo_findTwins 0 0 [.ref x0] h r :=
  zMet_of (by decide) rfl (Nat.le_of_ble_eq_true rfl) (fun p e s m args below meth c D0 cT => w_Fo_findTwins_b0 (X := (p, l, e, s, m, args, below, meth, c, D0, cT, h, _, 0, 0)) rfl x0 h E)
def f_Fo_giveLabel_b146 (G : Nat) (rec : Nat → Int32 → Int32 → pH → Option pR) (k94 : Nat → Int32 → Int32 → Int32 → Int32 → pH → Option pR) (x0 : Nat) (x1 : Int32) (x2 : Int32) (x3 : Int32) (x4 : Int32) (h : pH) : Option pR := k94 x0 x1 x2 x3 (x4 + 1) h
theorem f_Fo_giveLabel_b146_eq (G : Nat) (rec : Nat → Int32 → Int32 → pH → Option pR) (k94 : Nat → Int32 → Int32 → Int32 → Int32 → pH → Option pR) (x0 : Nat) (x1 : Int32) (x2 : Int32) (x3 : Int32) (x4 : Int32) (h : pH) : f_Fo_giveLabel_b146 G rec k94 x0 x1 x2 x3 x4 h = (k94 x0 x1 x2 x3 (x4 + 1) h) := rfl
def f_Fo_giveLabel_b86 (G : Nat) (rec : Nat → Int32 → Int32 → pH → Option pR) (x0 : Nat) (h : pH) : Option pR := cV (oC h x0 2) (f_Fo_keepRow G x0 h) fun h33 => some (none, h33)
theorem f_Fo_giveLabel_b86_eq (G : Nat) (rec : Nat → Int32 → Int32 → pH → Option pR) (x0 : Nat) (h : pH) : f_Fo_giveLabel_b86 G rec x0 h = (cV (oC h x0 2) (f_Fo_keepRow G x0 h) fun h33 => some (none, h33)) := rfl
def f_Fo_giveLabel_b94 (G : Nat) (rec : Nat → Int32 → Int32 → pH → Option pR) : Nat → Nat → Int32 → Int32 → Int32 → Int32 → pH → Option pR
  | 0 => fun _ _ _ _ _ _ => none
  | F + 1 => fun x0 x1 x2 x3 x4 h => if (6 : Int32) ≤ x4 then (some (none, h)) else (cI true (f_Mg_isIn G (x2).toInt64 x4 h) fun v25 h22 => if v25 = 0 then ((f_Fo_giveLabel_b146 G rec (f_Fo_giveLabel_b94 G rec F)) x0 x1 x2 x3 x4 h22) else ((gR h22 x0 2 5).bind fun v26 => (aI h22 v26 x4).bind fun v27 => if (v27 &&& x2) = 0 then ((gR h22 x0 2 1).bind fun v28 => (sI h22 v28 x4 x3).bind fun h29 => cV (oC h29 x0 2) (rec x0 (x1 + (1 : Int32)) (x2 &&& (((1 : Int32) <<< (x4 &&& 31)) ^^^ (-1 : Int32))) h29) fun h30 => (f_Fo_giveLabel_b146 G rec (f_Fo_giveLabel_b94 G rec F)) x0 x1 x2 x3 x4 h30) else ((f_Fo_giveLabel_b146 G rec (f_Fo_giveLabel_b94 G rec F)) x0 x1 x2 x3 x4 h22)))
theorem f_Fo_giveLabel_b94_eq (G : Nat) (rec : Nat → Int32 → Int32 → pH → Option pR) (F : Nat) (x0 : Nat) (x1 : Int32) (x2 : Int32) (x3 : Int32) (x4 : Int32) (h : pH) : f_Fo_giveLabel_b94 G rec (F + 1) x0 x1 x2 x3 x4 h = (if (6 : Int32) ≤ x4 then (some (none, h)) else (cI true (f_Mg_isIn G (x2).toInt64 x4 h) fun v25 h22 => if v25 = 0 then ((f_Fo_giveLabel_b146 G rec (f_Fo_giveLabel_b94 G rec F)) x0 x1 x2 x3 x4 h22) else ((gR h22 x0 2 5).bind fun v26 => (aI h22 v26 x4).bind fun v27 => if (v27 &&& x2) = 0 then ((gR h22 x0 2 1).bind fun v28 => (sI h22 v28 x4 x3).bind fun h29 => cV (oC h29 x0 2) (rec x0 (x1 + (1 : Int32)) (x2 &&& (((1 : Int32) <<< (x4 &&& 31)) ^^^ (-1 : Int32))) h29) fun h30 => (f_Fo_giveLabel_b146 G rec (f_Fo_giveLabel_b94 G rec F)) x0 x1 x2 x3 x4 h30) else ((f_Fo_giveLabel_b146 G rec (f_Fo_giveLabel_b94 G rec F)) x0 x1 x2 x3 x4 h22)))) := rfl
def f_Fo_giveLabel_b33 (G : Nat) (rec : Nat → Int32 → Int32 → pH → Option pR) (k8 : Nat → Int32 → Int32 → Int32 → Int32 → pH → Option pR) (x0 : Nat) (x1 : Int32) (x2 : Int32) (x3 : Int32) (x4 : Int32) (h : pH) : Option pR := k8 x0 x1 x2 x3 (x4 + 1) h
theorem f_Fo_giveLabel_b33_eq (G : Nat) (rec : Nat → Int32 → Int32 → pH → Option pR) (k8 : Nat → Int32 → Int32 → Int32 → Int32 → pH → Option pR) (x0 : Nat) (x1 : Int32) (x2 : Int32) (x3 : Int32) (x4 : Int32) (h : pH) : f_Fo_giveLabel_b33 G rec k8 x0 x1 x2 x3 x4 h = (k8 x0 x1 x2 x3 (x4 + 1) h) := rfl
def f_Fo_giveLabel_b72 (G : Nat) (rec : Nat → Int32 → Int32 → pH → Option pR) (x0 : Nat) (x1 : Int32) (x2 : Int32) (x3 : Int32) (h : pH) : Option pR := if (x2 &&& (x2 - (1 : Int32))) = 0 then ((f_Fo_giveLabel_b86 G rec) x0 h) else (if x1 < (6 : Int32) then ((f_Fo_giveLabel_b94 G rec G) x0 x1 x2 x3 (0 : Int32) h) else ((f_Fo_giveLabel_b86 G rec) x0 h))
theorem f_Fo_giveLabel_b72_eq (G : Nat) (rec : Nat → Int32 → Int32 → pH → Option pR) (x0 : Nat) (x1 : Int32) (x2 : Int32) (x3 : Int32) (h : pH) : f_Fo_giveLabel_b72 G rec x0 x1 x2 x3 h = (if (x2 &&& (x2 - (1 : Int32))) = 0 then ((f_Fo_giveLabel_b86 G rec) x0 h) else (if x1 < (6 : Int32) then ((f_Fo_giveLabel_b94 G rec G) x0 x1 x2 x3 (0 : Int32) h) else ((f_Fo_giveLabel_b86 G rec) x0 h))) := rfl
def f_Fo_giveLabel_b8 (G : Nat) (rec : Nat → Int32 → Int32 → pH → Option pR) : Nat → Nat → Int32 → Int32 → Int32 → Int32 → pH → Option pR
  | 0 => fun _ _ _ _ _ _ => none
  | F + 1 => fun x0 x1 x2 x3 x4 h => if (6 : Int32) ≤ x4 then (cV (oC h x0 2) (f_Fo_writeRow G x0 h) fun h1 => (gI h1 x0 2 4).bind fun v4 => if v4 = 0 then ((f_Fo_giveLabel_b72 G rec) x0 x1 x2 x3 h1) else ((gR h1 x0 2 2).bind fun v5 => (gR h1 x0 2 3).bind fun v6 => (gR h1 x0 2 0).bind fun v7 => cI (oC h1 v7 0) (f_Gr_count G v7 h1) fun v11 h8 => cI true (f_Mg_isBefore G v5 v6 v11 h8) fun v15 h12 => if v15 = 0 then (some (none, h12)) else ((f_Fo_giveLabel_b72 G rec) x0 x1 x2 x3 h12))) else (cI true (f_Mg_isIn G (x2).toInt64 x4 h) fun v19 h16 => if v19 = 0 then ((f_Fo_giveLabel_b33 G rec (f_Fo_giveLabel_b8 G rec F)) x0 x1 x2 x3 x4 h16) else ((gR h16 x0 2 1).bind fun v20 => (sI h16 v20 x4 x3).bind fun h21 => (f_Fo_giveLabel_b33 G rec (f_Fo_giveLabel_b8 G rec F)) x0 x1 x2 x3 x4 h21))
theorem f_Fo_giveLabel_b8_eq (G : Nat) (rec : Nat → Int32 → Int32 → pH → Option pR) (F : Nat) (x0 : Nat) (x1 : Int32) (x2 : Int32) (x3 : Int32) (x4 : Int32) (h : pH) : f_Fo_giveLabel_b8 G rec (F + 1) x0 x1 x2 x3 x4 h = (if (6 : Int32) ≤ x4 then (cV (oC h x0 2) (f_Fo_writeRow G x0 h) fun h1 => (gI h1 x0 2 4).bind fun v4 => if v4 = 0 then ((f_Fo_giveLabel_b72 G rec) x0 x1 x2 x3 h1) else ((gR h1 x0 2 2).bind fun v5 => (gR h1 x0 2 3).bind fun v6 => (gR h1 x0 2 0).bind fun v7 => cI (oC h1 v7 0) (f_Gr_count G v7 h1) fun v11 h8 => cI true (f_Mg_isBefore G v5 v6 v11 h8) fun v15 h12 => if v15 = 0 then (some (none, h12)) else ((f_Fo_giveLabel_b72 G rec) x0 x1 x2 x3 h12))) else (cI true (f_Mg_isIn G (x2).toInt64 x4 h) fun v19 h16 => if v19 = 0 then ((f_Fo_giveLabel_b33 G rec (f_Fo_giveLabel_b8 G rec F)) x0 x1 x2 x3 x4 h16) else ((gR h16 x0 2 1).bind fun v20 => (sI h16 v20 x4 x3).bind fun h21 => (f_Fo_giveLabel_b33 G rec (f_Fo_giveLabel_b8 G rec F)) x0 x1 x2 x3 x4 h21))) := rfl
def f_Fo_giveLabel_rec (G : Nat) (rec : Nat → Int32 → Int32 → pH → Option pR) (x0 : Nat) (x1 : Int32) (x2 : Int32) (h : pH) : Option pR := (f_Fo_giveLabel_b8 G rec G) x0 x1 x2 ((40 : Int32) + x1) (0 : Int32) h
theorem f_Fo_giveLabel_rec_eq (G : Nat) (rec : Nat → Int32 → Int32 → pH → Option pR) (x0 : Nat) (x1 : Int32) (x2 : Int32) (h : pH) : f_Fo_giveLabel_rec G rec x0 x1 x2 h = ((f_Fo_giveLabel_b8 G rec G) x0 x1 x2 ((40 : Int32) + x1) (0 : Int32) h) := rfl
def f_Fo_giveLabel (G : Nat) : Nat → Nat → Int32 → Int32 → pH → Option pR
  | 0 => fun _ _ _ _ => none
  | D + 1 => f_Fo_giveLabel_rec G (f_Fo_giveLabel G D)
theorem f_Fo_giveLabel_eq (G D : Nat) : f_Fo_giveLabel G (D + 1) = f_Fo_giveLabel_rec G (f_Fo_giveLabel G D) := rfl
set_option maxRecDepth 100000 in
set_option maxHeartbeats 4000000 in
theorem w_Fo_giveLabel_b146 {X : zX} {r : pR} {G : Nat} {rec : Nat → Int32 → Int32 → pH → Option pR} {D : Nat} {k94 : Nat → Int32 → Int32 → Int32 → Int32 → pH → Option pR} (hQ : zQ X r) (hrec : ∀ {x0 : Nat} {x1 : Int32} {x2 : Int32} {h : pH} {r : pR}, rec x0 x1 x2 h = some r → zMet (zl X) y_Fo_giveLabel (M_Fo_giveLabel D) 0 0 [.ref x0, .int x1, .int x2] h r) (hk94 : ∀ (x0 : Nat) (x1 : Int32) (x2 : Int32) (x3 : Int32) (x4 : Int32) (h : pH), k94 x0 x1 x2 x3 x4 h = some r → Z X (M_Fo_giveLabel (D + 1)) 0 0 h 94 [(0, .ref x0), (1, .int x1), (2, .int x2), (3, .int x3), (4, .int x4)] []) : ∀ (x0 : Nat) (x1 : Int32) (x2 : Int32) (x3 : Int32) (x4 : Int32) (h : pH), f_Fo_giveLabel_b146 G rec k94 x0 x1 x2 x3 x4 h = some r → Z X (M_Fo_giveLabel (D + 1)) 0 0 h 146 [(0, .ref x0), (1, .int x1), (2, .int x2), (3, .int x3), (4, .int x4)] [] := by
  intro x0 x1 x2 x3 x4 h E
  rw [f_Fo_giveLabel_b146_eq] at E
  refine z_iinc (v := (x4 + 1)) (lv2 := [(4, .int (x4 + 1)), (0, .ref x0), (1, .int x1), (2, .int x2), (3, .int x3)]) 4 d_Fo_giveLabel_146 rfl rfl (Nat.le_of_ble_eq_true rfl) rfl ?_
  refine z_goto (tgt := 94) d_Fo_giveLabel_149 (by decide) ?_
  refine z_lv [1, 2, 3, 4, 0] rfl ?_
  exact hk94 x0 x1 x2 x3 (x4 + 1) h E
set_option maxRecDepth 100000 in
set_option maxHeartbeats 4000000 in
theorem w_Fo_giveLabel_b86 {X : zX} {r : pR} {G : Nat} {rec : Nat → Int32 → Int32 → pH → Option pR} {D : Nat} (hQ : zQ X r) (hrec : ∀ {x0 : Nat} {x1 : Int32} {x2 : Int32} {h : pH} {r : pR}, rec x0 x1 x2 h = some r → zMet (zl X) y_Fo_giveLabel (M_Fo_giveLabel D) 0 0 [.ref x0, .int x1, .int x2] h r) : ∀ (x0 : Nat) (h : pH), f_Fo_giveLabel_b86 G rec x0 h = some r → Z X (M_Fo_giveLabel (D + 1)) 0 0 h 86 [(0, .ref x0)] [] := by
  intro x0 h E
  rw [f_Fo_giveLabel_b86_eq] at E
  refine z_aload_n 0 d_Fo_giveLabel_86 rfl rfl ?_
  obtain ⟨g34, h33, e35, E⟩ := cV_some E
  refine z_invV (ci := 2) (y := y_Fo_keepRow) (Mc := M_Fo_keepRow) (av := []) (rest := []) rfl rfl ⟨zt_521, zt_523, zt_20, zt_51⟩ zk_Fo_keepRow zy_Fo_keepRow (Nat.lt_of_lt_of_le (show (1 : Nat) < 3 by decide) (Nat.le_add_right _ _)) (Nat.le_of_ble_eq_true rfl) z00 rfl (Nat.le_of_ble_eq_true rfl) d_Fo_giveLabel_87 g34 (m_Fo_keepRow e35) ?_
  show Z X (M_Fo_giveLabel (D + 1)) 0 0 h33 90 [(0, .ref x0)] []
  exact z_return hQ rfl z00 d_Fo_giveLabel_90 E
set_option maxRecDepth 100000 in
set_option maxHeartbeats 4000000 in
theorem w_Fo_giveLabel_b94 {X : zX} {r : pR} {G : Nat} {rec : Nat → Int32 → Int32 → pH → Option pR} {D : Nat} (hQ : zQ X r) (hrec : ∀ {x0 : Nat} {x1 : Int32} {x2 : Int32} {h : pH} {r : pR}, rec x0 x1 x2 h = some r → zMet (zl X) y_Fo_giveLabel (M_Fo_giveLabel D) 0 0 [.ref x0, .int x1, .int x2] h r) : ∀ (F : Nat) (x0 : Nat) (x1 : Int32) (x2 : Int32) (x3 : Int32) (x4 : Int32) (h : pH), f_Fo_giveLabel_b94 G rec F x0 x1 x2 x3 x4 h = some r → Z X (M_Fo_giveLabel (D + 1)) 0 0 h 94 [(0, .ref x0), (1, .int x1), (2, .int x2), (3, .int x3), (4, .int x4)] [] := by
  intro F
  induction F with
  | zero => intro x0 x1 x2 x3 x4 h E; exact nomatch (show (none : Option pR) = some _ from E)
  | succ F ih =>
    intro x0 x1 x2 x3 x4 h E
    rw [f_Fo_giveLabel_b94_eq] at E
    refine z_iload 4 d_Fo_giveLabel_94 rfl ?_
    refine z_bipush (v := (6 : Int32)) d_Fo_giveLabel_96 (by decide) ?_
    refine z_ic_ge (tgt := 152) d_Fo_giveLabel_98 (by decide) E (fun E => ?_) (fun E => ?_)
    · exact z_return hQ rfl z00 d_Fo_giveLabel_152 E
    · refine z_iload_n 2 d_Fo_giveLabel_101 rfl rfl ?_
      refine z_i2l d_Fo_giveLabel_102 ?_
      refine z_iload 4 d_Fo_giveLabel_103 rfl ?_
      obtain ⟨g23, v25, h22, e24, E⟩ := cI_some E
      refine z_invSN (y := y_Mg_isIn) (Mc := M_Mg_isIn) (av := [.long (x2).toInt64, .int x4]) (rest := []) ⟨(List.mem_of_getElem? (i := 13) rfl), zt_395, zt_48⟩ zk_Mg_isIn zy_Mg_isIn (Nat.lt_of_lt_of_le (show (0 : Nat) < 3 by decide) (Nat.le_add_right _ _)) (Nat.le_of_ble_eq_true rfl) z00 rfl (Nat.le_of_ble_eq_true rfl) d_Fo_giveLabel_105 (m_Mg_isIn e24) ?_
      show Z X (M_Fo_giveLabel (D + 1)) 0 0 h22 108 [(0, .ref x0), (1, .int x1), (2, .int x2), (3, .int x3), (4, .int x4)] [.int v25]
      refine z_if_eq (y := 0) (tgt := 146) d_Fo_giveLabel_108 (by decide) E (fun E => ?_) (fun E => ?_)
      · exact (w_Fo_giveLabel_b146 hQ hrec ih) x0 x1 x2 x3 x4 h22 E
      · refine z_aload_n 0 d_Fo_giveLabel_111 rfl rfl ?_
        refine z_getR (ci := 2) (j := 5) rfl (by decide) zf_Fo_32 d_Fo_giveLabel_112 E (fun v26 _ E => ?_)
        refine z_iload 4 d_Fo_giveLabel_115 rfl ?_
        refine z_iaload d_Fo_giveLabel_117 E (fun v27 _ E => ?_)
        refine z_iload_n 2 d_Fo_giveLabel_118 rfl rfl ?_
        refine z_iand d_Fo_giveLabel_119 ?_
        refine z_if_ne (y := 0) (tgt := 146) d_Fo_giveLabel_120 (by decide) E (fun E => ?_) (fun E => ?_)
        · exact (w_Fo_giveLabel_b146 hQ hrec ih) x0 x1 x2 x3 x4 h22 E
        · refine z_aload_n 0 d_Fo_giveLabel_123 rfl rfl ?_
          refine z_getR (ci := 2) (j := 1) rfl (by decide) zf_Fo_18 d_Fo_giveLabel_124 E (fun v28 _ E => ?_)
          refine z_iload 4 d_Fo_giveLabel_127 rfl ?_
          refine z_iload_n 3 d_Fo_giveLabel_129 rfl rfl ?_
          refine z_iastore d_Fo_giveLabel_130 E (fun h29 _ E => ?_)
          refine z_aload_n 0 d_Fo_giveLabel_131 rfl rfl ?_
          refine z_iload_n 1 d_Fo_giveLabel_132 rfl rfl ?_
          refine z_iconst (v := (1 : Int32)) d_Fo_giveLabel_133 (by decide) ?_
          refine z_iadd d_Fo_giveLabel_134 ?_
          refine z_iload_n 2 d_Fo_giveLabel_135 rfl rfl ?_
          refine z_iconst (v := (1 : Int32)) d_Fo_giveLabel_136 (by decide) ?_
          refine z_iload 4 d_Fo_giveLabel_137 rfl ?_
          refine z_ishl d_Fo_giveLabel_139 ?_
          refine z_iconst (v := (-1 : Int32)) d_Fo_giveLabel_140 (by decide) ?_
          refine z_ixor d_Fo_giveLabel_141 ?_
          refine z_iand d_Fo_giveLabel_142 ?_
          obtain ⟨g31, h30, e32, E⟩ := cV_some E
          refine z_invV (ci := 2) (y := y_Fo_giveLabel) (Mc := (M_Fo_giveLabel D)) (av := [.int (x1 + (1 : Int32)), .int (x2 &&& (((1 : Int32) <<< (x4 &&& 31)) ^^^ (-1 : Int32)))]) (rest := []) rfl rfl ⟨zt_514, zt_516, zt_19, zt_51⟩ (zk_Fo_giveLabel _) zy_Fo_giveLabel (Nat.lt_succ_self _) (Nat.le_of_ble_eq_true rfl) z00 rfl (Nat.le_of_ble_eq_true rfl) d_Fo_giveLabel_143 g31 (hrec e32) ?_
          show Z X (M_Fo_giveLabel (D + 1)) 0 0 h30 146 [(0, .ref x0), (1, .int x1), (2, .int x2), (3, .int x3), (4, .int x4)] []
          exact (w_Fo_giveLabel_b146 hQ hrec ih) x0 x1 x2 x3 x4 h30 E
set_option maxRecDepth 100000 in
set_option maxHeartbeats 4000000 in
theorem w_Fo_giveLabel_b33 {X : zX} {r : pR} {G : Nat} {rec : Nat → Int32 → Int32 → pH → Option pR} {D : Nat} {k8 : Nat → Int32 → Int32 → Int32 → Int32 → pH → Option pR} (hQ : zQ X r) (hrec : ∀ {x0 : Nat} {x1 : Int32} {x2 : Int32} {h : pH} {r : pR}, rec x0 x1 x2 h = some r → zMet (zl X) y_Fo_giveLabel (M_Fo_giveLabel D) 0 0 [.ref x0, .int x1, .int x2] h r) (hk8 : ∀ (x0 : Nat) (x1 : Int32) (x2 : Int32) (x3 : Int32) (x4 : Int32) (h : pH), k8 x0 x1 x2 x3 x4 h = some r → Z X (M_Fo_giveLabel (D + 1)) 0 0 h 8 [(0, .ref x0), (1, .int x1), (2, .int x2), (3, .int x3), (4, .int x4)] []) : ∀ (x0 : Nat) (x1 : Int32) (x2 : Int32) (x3 : Int32) (x4 : Int32) (h : pH), f_Fo_giveLabel_b33 G rec k8 x0 x1 x2 x3 x4 h = some r → Z X (M_Fo_giveLabel (D + 1)) 0 0 h 33 [(0, .ref x0), (1, .int x1), (2, .int x2), (3, .int x3), (4, .int x4)] [] := by
  intro x0 x1 x2 x3 x4 h E
  rw [f_Fo_giveLabel_b33_eq] at E
  refine z_iinc (v := (x4 + 1)) (lv2 := [(4, .int (x4 + 1)), (0, .ref x0), (1, .int x1), (2, .int x2), (3, .int x3)]) 4 d_Fo_giveLabel_33 rfl rfl (Nat.le_of_ble_eq_true rfl) rfl ?_
  refine z_goto (tgt := 8) d_Fo_giveLabel_36 (by decide) ?_
  refine z_lv [1, 2, 3, 4, 0] rfl ?_
  exact hk8 x0 x1 x2 x3 (x4 + 1) h E
set_option maxRecDepth 100000 in
set_option maxHeartbeats 4000000 in
theorem w_Fo_giveLabel_b72 {X : zX} {r : pR} {G : Nat} {rec : Nat → Int32 → Int32 → pH → Option pR} {D : Nat} (hQ : zQ X r) (hrec : ∀ {x0 : Nat} {x1 : Int32} {x2 : Int32} {h : pH} {r : pR}, rec x0 x1 x2 h = some r → zMet (zl X) y_Fo_giveLabel (M_Fo_giveLabel D) 0 0 [.ref x0, .int x1, .int x2] h r) : ∀ (x0 : Nat) (x1 : Int32) (x2 : Int32) (x3 : Int32) (h : pH), f_Fo_giveLabel_b72 G rec x0 x1 x2 x3 h = some r → Z X (M_Fo_giveLabel (D + 1)) 0 0 h 72 [(0, .ref x0), (1, .int x1), (2, .int x2), (3, .int x3)] [] := by
  intro x0 x1 x2 x3 h E
  rw [f_Fo_giveLabel_b72_eq] at E
  refine z_iload_n 2 d_Fo_giveLabel_72 rfl rfl ?_
  refine z_iload_n 2 d_Fo_giveLabel_73 rfl rfl ?_
  refine z_iconst (v := (1 : Int32)) d_Fo_giveLabel_74 (by decide) ?_
  refine z_isub d_Fo_giveLabel_75 ?_
  refine z_iand d_Fo_giveLabel_76 ?_
  refine z_if_eq (y := 0) (tgt := 86) d_Fo_giveLabel_77 (by decide) E (fun E => ?_) (fun E => ?_)
  · refine z_lv [0] rfl ?_
    exact (w_Fo_giveLabel_b86 hQ hrec) x0 h E
  · refine z_iload_n 1 d_Fo_giveLabel_80 rfl rfl ?_
    refine z_bipush (v := (6 : Int32)) d_Fo_giveLabel_81 (by decide) ?_
    refine z_ic_lt (tgt := 91) d_Fo_giveLabel_83 (by decide) E (fun E => ?_) (fun E => ?_)
    · refine z_iconst (v := (0 : Int32)) d_Fo_giveLabel_91 (by decide) ?_
      refine z_istore (lv2 := [(4, .int (0 : Int32)), (0, .ref x0), (1, .int x1), (2, .int x2), (3, .int x3)]) d_Fo_giveLabel_92 (Nat.le_of_ble_eq_true rfl) rfl ?_
      refine z_lv [1, 2, 3, 4, 0] rfl ?_
      exact (w_Fo_giveLabel_b94 hQ hrec G) x0 x1 x2 x3 (0 : Int32) h E
    · refine z_lv [0] rfl ?_
      exact (w_Fo_giveLabel_b86 hQ hrec) x0 h E
set_option maxRecDepth 100000 in
set_option maxHeartbeats 4000000 in
theorem w_Fo_giveLabel_b8 {X : zX} {r : pR} {G : Nat} {rec : Nat → Int32 → Int32 → pH → Option pR} {D : Nat} (hQ : zQ X r) (hrec : ∀ {x0 : Nat} {x1 : Int32} {x2 : Int32} {h : pH} {r : pR}, rec x0 x1 x2 h = some r → zMet (zl X) y_Fo_giveLabel (M_Fo_giveLabel D) 0 0 [.ref x0, .int x1, .int x2] h r) : ∀ (F : Nat) (x0 : Nat) (x1 : Int32) (x2 : Int32) (x3 : Int32) (x4 : Int32) (h : pH), f_Fo_giveLabel_b8 G rec F x0 x1 x2 x3 x4 h = some r → Z X (M_Fo_giveLabel (D + 1)) 0 0 h 8 [(0, .ref x0), (1, .int x1), (2, .int x2), (3, .int x3), (4, .int x4)] [] := by
  intro F
  induction F with
  | zero => intro x0 x1 x2 x3 x4 h E; exact nomatch (show (none : Option pR) = some _ from E)
  | succ F ih =>
    intro x0 x1 x2 x3 x4 h E
    rw [f_Fo_giveLabel_b8_eq] at E
    refine z_iload 4 d_Fo_giveLabel_8 rfl ?_
    refine z_bipush (v := (6 : Int32)) d_Fo_giveLabel_10 (by decide) ?_
    refine z_ic_ge (tgt := 39) d_Fo_giveLabel_12 (by decide) E (fun E => ?_) (fun E => ?_)
    · refine z_aload_n 0 d_Fo_giveLabel_39 rfl rfl ?_
      obtain ⟨g2, h1, e3, E⟩ := cV_some E
      refine z_invV (ci := 2) (y := y_Fo_writeRow) (Mc := M_Fo_writeRow) (av := []) (rest := []) rfl rfl ⟨zt_498, zt_500, zt_18, zt_51⟩ zk_Fo_writeRow zy_Fo_writeRow (Nat.lt_of_lt_of_le (show (2 : Nat) < 3 by decide) (Nat.le_add_right _ _)) (Nat.le_of_ble_eq_true rfl) z00 rfl (Nat.le_of_ble_eq_true rfl) d_Fo_giveLabel_40 g2 (m_Fo_writeRow e3) ?_
      show Z X (M_Fo_giveLabel (D + 1)) 0 0 h1 43 [(0, .ref x0), (1, .int x1), (2, .int x2), (3, .int x3), (4, .int x4)] []
      refine z_aload_n 0 d_Fo_giveLabel_43 rfl rfl ?_
      refine z_getI (ci := 2) (j := 4) rfl (by decide) zf_Fo_28 d_Fo_giveLabel_44 E (fun v4 _ E => ?_)
      refine z_if_eq (y := 0) (tgt := 72) d_Fo_giveLabel_47 (by decide) E (fun E => ?_) (fun E => ?_)
      · refine z_lv [0, 1, 2, 3] rfl ?_
        exact (w_Fo_giveLabel_b72 hQ hrec) x0 x1 x2 x3 h1 E
      · refine z_aload_n 0 d_Fo_giveLabel_50 rfl rfl ?_
        refine z_getR (ci := 2) (j := 2) rfl (by decide) zf_Fo_22 d_Fo_giveLabel_51 E (fun v5 _ E => ?_)
        refine z_aload_n 0 d_Fo_giveLabel_54 rfl rfl ?_
        refine z_getR (ci := 2) (j := 3) rfl (by decide) zf_Fo_25 d_Fo_giveLabel_55 E (fun v6 _ E => ?_)
        refine z_aload_n 0 d_Fo_giveLabel_58 rfl rfl ?_
        refine z_getR (ci := 2) (j := 0) rfl (by decide) zf_Fo_12 d_Fo_giveLabel_59 E (fun v7 _ E => ?_)
        obtain ⟨g9, v11, h8, e10, E⟩ := cI_some E
        refine z_invV (ci := 0) (y := y_Gr_count) (Mc := M_Gr_count) (av := []) (rest := [.ref v6, .ref v5]) rfl rfl ⟨zt_502, zt_311, zt_312, zt_49⟩ zk_Gr_count zy_Gr_count (Nat.lt_of_lt_of_le (show (0 : Nat) < 3 by decide) (Nat.le_add_right _ _)) (Nat.le_of_ble_eq_true rfl) z00 rfl (Nat.le_of_ble_eq_true rfl) d_Fo_giveLabel_62 g9 (m_Gr_count e10) ?_
        show Z X (M_Fo_giveLabel (D + 1)) 0 0 h8 65 [(0, .ref x0), (1, .int x1), (2, .int x2), (3, .int x3), (4, .int x4)] [.int v11, .ref v6, .ref v5]
        obtain ⟨g13, v15, h12, e14, E⟩ := cI_some E
        refine z_invSN (y := y_Mg_isBefore) (Mc := M_Mg_isBefore) (av := [.ref v5, .ref v6, .int v11]) (rest := []) ⟨(List.mem_of_getElem? (i := 15) rfl), zt_519, zt_48⟩ zk_Mg_isBefore zy_Mg_isBefore (Nat.lt_of_lt_of_le (show (0 : Nat) < 3 by decide) (Nat.le_add_right _ _)) (Nat.le_of_ble_eq_true rfl) z00 rfl (Nat.le_of_ble_eq_true rfl) d_Fo_giveLabel_65 (m_Mg_isBefore e14) ?_
        show Z X (M_Fo_giveLabel (D + 1)) 0 0 h12 68 [(0, .ref x0), (1, .int x1), (2, .int x2), (3, .int x3), (4, .int x4)] [.int v15]
        refine z_if_ne (y := 0) (tgt := 72) d_Fo_giveLabel_68 (by decide) E (fun E => ?_) (fun E => ?_)
        · refine z_lv [0, 1, 2, 3] rfl ?_
          exact (w_Fo_giveLabel_b72 hQ hrec) x0 x1 x2 x3 h12 E
        · exact z_return hQ rfl z00 d_Fo_giveLabel_71 E
    · refine z_iload_n 2 d_Fo_giveLabel_15 rfl rfl ?_
      refine z_i2l d_Fo_giveLabel_16 ?_
      refine z_iload 4 d_Fo_giveLabel_17 rfl ?_
      obtain ⟨g17, v19, h16, e18, E⟩ := cI_some E
      refine z_invSN (y := y_Mg_isIn) (Mc := M_Mg_isIn) (av := [.long (x2).toInt64, .int x4]) (rest := []) ⟨(List.mem_of_getElem? (i := 13) rfl), zt_395, zt_48⟩ zk_Mg_isIn zy_Mg_isIn (Nat.lt_of_lt_of_le (show (0 : Nat) < 3 by decide) (Nat.le_add_right _ _)) (Nat.le_of_ble_eq_true rfl) z00 rfl (Nat.le_of_ble_eq_true rfl) d_Fo_giveLabel_19 (m_Mg_isIn e18) ?_
      show Z X (M_Fo_giveLabel (D + 1)) 0 0 h16 22 [(0, .ref x0), (1, .int x1), (2, .int x2), (3, .int x3), (4, .int x4)] [.int v19]
      refine z_if_eq (y := 0) (tgt := 33) d_Fo_giveLabel_22 (by decide) E (fun E => ?_) (fun E => ?_)
      · exact (w_Fo_giveLabel_b33 hQ hrec ih) x0 x1 x2 x3 x4 h16 E
      · refine z_aload_n 0 d_Fo_giveLabel_25 rfl rfl ?_
        refine z_getR (ci := 2) (j := 1) rfl (by decide) zf_Fo_18 d_Fo_giveLabel_26 E (fun v20 _ E => ?_)
        refine z_iload 4 d_Fo_giveLabel_29 rfl ?_
        refine z_iload_n 3 d_Fo_giveLabel_31 rfl rfl ?_
        refine z_iastore d_Fo_giveLabel_32 E (fun h21 _ E => ?_)
        exact (w_Fo_giveLabel_b33 hQ hrec ih) x0 x1 x2 x3 x4 h21 E
set_option maxRecDepth 100000 in
set_option maxHeartbeats 4000000 in
theorem w_Fo_giveLabel_b0 {X : zX} {r : pR} {G : Nat} {rec : Nat → Int32 → Int32 → pH → Option pR} {D : Nat} (hQ : zQ X r) (hrec : ∀ {x0 : Nat} {x1 : Int32} {x2 : Int32} {h : pH} {r : pR}, rec x0 x1 x2 h = some r → zMet (zl X) y_Fo_giveLabel (M_Fo_giveLabel D) 0 0 [.ref x0, .int x1, .int x2] h r) : ∀ (x0 : Nat) (x1 : Int32) (x2 : Int32) (h : pH), f_Fo_giveLabel_rec G rec x0 x1 x2 h = some r → Z X (M_Fo_giveLabel (D + 1)) 0 0 h 0 [(0, .ref x0), (1, .int x1), (2, .int x2)] [] := by
  intro x0 x1 x2 h E
  rw [f_Fo_giveLabel_rec_eq] at E
  refine z_bipush (v := (40 : Int32)) d_Fo_giveLabel_0 (by decide) ?_
  refine z_iload_n 1 d_Fo_giveLabel_2 rfl rfl ?_
  refine z_iadd d_Fo_giveLabel_3 ?_
  refine z_istore_n (lv2 := [(3, .int ((40 : Int32) + x1)), (0, .ref x0), (1, .int x1), (2, .int x2)]) d_Fo_giveLabel_4 rfl (Nat.le_of_ble_eq_true rfl) rfl ?_
  refine z_iconst (v := (0 : Int32)) d_Fo_giveLabel_5 (by decide) ?_
  refine z_istore (lv2 := [(4, .int (0 : Int32)), (3, .int ((40 : Int32) + x1)), (0, .ref x0), (1, .int x1), (2, .int x2)]) d_Fo_giveLabel_6 (Nat.le_of_ble_eq_true rfl) rfl ?_
  refine z_lv [2, 3, 4, 1, 0] rfl ?_
  exact (w_Fo_giveLabel_b8 hQ hrec G) x0 x1 x2 ((40 : Int32) + x1) (0 : Int32) h E
theorem m_Fo_giveLabel {l : Launch} {G : Nat} : ∀ {D : Nat} {x0 : Nat} {x1 : Int32} {x2 : Int32} {h : pH} {r : pR}, f_Fo_giveLabel G D x0 x1 x2 h = some r → zMet l y_Fo_giveLabel (M_Fo_giveLabel D) 0 0 [.ref x0, .int x1, .int x2] h r := by
  intro D
  induction D with
  | zero => intro x0 x1 x2 h r E; exact nomatch (show (none : Option pR) = some _ from E)
  | succ D ih =>
    intro x0 x1 x2 h r E
    exact zMet_of (M := M_Fo_giveLabel (D + 1)) (by decide) rfl (Nat.le_of_ble_eq_true rfl) (fun p e s m args below meth c D0 cT => w_Fo_giveLabel_b0 (X := (p, l, e, s, m, args, below, meth, c, D0, cT, h, _, 0, 0)) (D := D) rfl (fun E => ih E) x0 x1 x2 h E)
def f_Fo_numberAt_b61 (G : Nat) (k62 : Int32 → pH → Option pR) (h : pH) : Option pR := k62 (-1 : Int32) h
theorem f_Fo_numberAt_b61_eq (G : Nat) (k62 : Int32 → pH → Option pR) (h : pH) : f_Fo_numberAt_b61 G k62 h = (k62 (-1 : Int32) h) := rfl
def f_Fo_numberAt_b62 (G : Nat) (s0 : Int32) (h : pH) : Option pR := some (some (.int s0), h)
theorem f_Fo_numberAt_b62_eq (G : Nat) (s0 : Int32) (h : pH) : f_Fo_numberAt_b62 G s0 h = (some (some (.int s0), h)) := rfl
def f_Fo_numberAt_b37 (G : Nat) (x0 : Nat) (x2 : Int32) (h : pH) : Option pR := if x2 < 0 then ((f_Fo_numberAt_b61 G (f_Fo_numberAt_b62 G)) h) else ((gR h x0 2 0).bind fun v21 => cI (oC h v21 0) (f_Gr_count G v21 h) fun v25 h22 => if v25 ≤ x2 then ((f_Fo_numberAt_b61 G (f_Fo_numberAt_b62 G)) h22) else ((gR h22 x0 2 3).bind fun v26 => (aI h22 v26 x2).bind fun v27 => (f_Fo_numberAt_b62 G) v27 h22))
theorem f_Fo_numberAt_b37_eq (G : Nat) (x0 : Nat) (x2 : Int32) (h : pH) : f_Fo_numberAt_b37 G x0 x2 h = (if x2 < 0 then ((f_Fo_numberAt_b61 G (f_Fo_numberAt_b62 G)) h) else ((gR h x0 2 0).bind fun v21 => cI (oC h v21 0) (f_Gr_count G v21 h) fun v25 h22 => if v25 ≤ x2 then ((f_Fo_numberAt_b61 G (f_Fo_numberAt_b62 G)) h22) else ((gR h22 x0 2 3).bind fun v26 => (aI h22 v26 x2).bind fun v27 => (f_Fo_numberAt_b62 G) v27 h22))) := rfl
def f_Fo_numberAt (G : Nat) (x0 : Nat) (x1 : Nat) (x2 : Int32) (h : pH) : Option pR := (gR h x0 2 0).bind fun v1 => cI (oC h v1 0) (f_Gr_isSame G v1 x1 h) fun v5 h2 => if v5 = 0 then ((gR h2 x0 2 0).bind fun v6 => cV (oC h2 v6 0) (f_Gr_become G v6 x1 h2) fun h7 => (oZ h7 x0 2 4 (0 : Int32)).bind fun h10 => cV (oC h10 x0 2) (f_Fo_findTwins G x0 h10) fun h11 => cI (oC h11 x0 2) (f_Fo_nodeBits G x0 h11) fun v17 h14 => cV (oC h14 x0 2) (f_Fo_giveLabel G 8 x0 (0 : Int32) v17 h14) fun h18 => (f_Fo_numberAt_b37 G) x0 x2 h18) else ((f_Fo_numberAt_b37 G) x0 x2 h2)
theorem f_Fo_numberAt_eq (G : Nat) (x0 : Nat) (x1 : Nat) (x2 : Int32) (h : pH) : f_Fo_numberAt G x0 x1 x2 h = ((gR h x0 2 0).bind fun v1 => cI (oC h v1 0) (f_Gr_isSame G v1 x1 h) fun v5 h2 => if v5 = 0 then ((gR h2 x0 2 0).bind fun v6 => cV (oC h2 v6 0) (f_Gr_become G v6 x1 h2) fun h7 => (oZ h7 x0 2 4 (0 : Int32)).bind fun h10 => cV (oC h10 x0 2) (f_Fo_findTwins G x0 h10) fun h11 => cI (oC h11 x0 2) (f_Fo_nodeBits G x0 h11) fun v17 h14 => cV (oC h14 x0 2) (f_Fo_giveLabel G 8 x0 (0 : Int32) v17 h14) fun h18 => (f_Fo_numberAt_b37 G) x0 x2 h18) else ((f_Fo_numberAt_b37 G) x0 x2 h2)) := rfl
set_option maxRecDepth 100000 in
set_option maxHeartbeats 4000000 in
theorem w_Fo_numberAt_b61 {X : zX} {r : pR} {G : Nat} {k62 : Int32 → pH → Option pR} (hQ : zQ X r) (hk62 : ∀ (s0 : Int32) (h : pH), k62 s0 h = some r → Z X M_Fo_numberAt 0 0 h 62 [] [.int s0]) : ∀ (h : pH), f_Fo_numberAt_b61 G k62 h = some r → Z X M_Fo_numberAt 0 0 h 61 [] [] := by
  intro h E
  rw [f_Fo_numberAt_b61_eq] at E
  refine z_iconst (v := (-1 : Int32)) d_Fo_numberAt_61 (by decide) ?_
  exact hk62 (-1 : Int32) h E
set_option maxRecDepth 100000 in
set_option maxHeartbeats 4000000 in
theorem w_Fo_numberAt_b62 {X : zX} {r : pR} {G : Nat} (hQ : zQ X r) : ∀ (s0 : Int32) (h : pH), f_Fo_numberAt_b62 G s0 h = some r → Z X M_Fo_numberAt 0 0 h 62 [] [.int s0] := by
  intro s0 h E
  rw [f_Fo_numberAt_b62_eq] at E
  exact z_ireturn hQ rfl z00 d_Fo_numberAt_62 E
set_option maxRecDepth 100000 in
set_option maxHeartbeats 4000000 in
theorem w_Fo_numberAt_b37 {X : zX} {r : pR} {G : Nat} (hQ : zQ X r) : ∀ (x0 : Nat) (x2 : Int32) (h : pH), f_Fo_numberAt_b37 G x0 x2 h = some r → Z X M_Fo_numberAt 0 0 h 37 [(0, .ref x0), (2, .int x2)] [] := by
  intro x0 x2 h E
  rw [f_Fo_numberAt_b37_eq] at E
  refine z_iload_n 1 d_Fo_numberAt_37 rfl rfl ?_
  refine z_if_lt (y := 0) (tgt := 61) d_Fo_numberAt_38 (by decide) E (fun E => ?_) (fun E => ?_)
  · refine z_lv [] rfl ?_
    exact (w_Fo_numberAt_b61 hQ (w_Fo_numberAt_b62 hQ)) h E
  · refine z_iload_n 1 d_Fo_numberAt_41 rfl rfl ?_
    refine z_aload_n 0 d_Fo_numberAt_42 rfl rfl ?_
    refine z_getR (ci := 2) (j := 0) rfl (by decide) zf_Fo_12 d_Fo_numberAt_43 E (fun v21 _ E => ?_)
    obtain ⟨g23, v25, h22, e24, E⟩ := cI_some E
    refine z_invV (ci := 0) (y := y_Gr_count) (Mc := M_Gr_count) (av := []) (rest := [.int x2]) rfl rfl ⟨zt_502, zt_311, zt_312, zt_49⟩ zk_Gr_count zy_Gr_count (by decide) (Nat.le_of_ble_eq_true rfl) z00 rfl (Nat.le_of_ble_eq_true rfl) d_Fo_numberAt_46 g23 (m_Gr_count e24) ?_
    show Z X M_Fo_numberAt 0 0 h22 49 [(0, .ref x0), (2, .int x2)] [.int v25, .int x2]
    refine z_ic_ge (tgt := 61) d_Fo_numberAt_49 (by decide) E (fun E => ?_) (fun E => ?_)
    · refine z_lv [] rfl ?_
      exact (w_Fo_numberAt_b61 hQ (w_Fo_numberAt_b62 hQ)) h22 E
    · refine z_aload_n 0 d_Fo_numberAt_52 rfl rfl ?_
      refine z_getR (ci := 2) (j := 3) rfl (by decide) zf_Fo_25 d_Fo_numberAt_53 E (fun v26 _ E => ?_)
      refine z_iload_n 1 d_Fo_numberAt_56 rfl rfl ?_
      refine z_iaload d_Fo_numberAt_57 E (fun v27 _ E => ?_)
      refine z_goto (tgt := 62) d_Fo_numberAt_58 (by decide) ?_
      refine z_lv [] rfl ?_
      exact (w_Fo_numberAt_b62 hQ) v27 h22 E
set_option maxRecDepth 100000 in
set_option maxHeartbeats 4000000 in
theorem w_Fo_numberAt_b0 {X : zX} {r : pR} {G : Nat} (hQ : zQ X r) : ∀ (x0 : Nat) (x1 : Nat) (x2 : Int32) (h : pH), f_Fo_numberAt G x0 x1 x2 h = some r → Z X M_Fo_numberAt 0 0 h 0 [(0, .ref x0), (1, .ref x1), (2, .int x2)] [] := by
  intro x0 x1 x2 h E
  rw [f_Fo_numberAt_eq] at E
  refine z_aload_n 0 d_Fo_numberAt_0 rfl rfl ?_
  refine z_getR (ci := 2) (j := 0) rfl (by decide) zf_Fo_12 d_Fo_numberAt_1 E (fun v1 _ E => ?_)
  refine z_aload_n 1 d_Fo_numberAt_4 rfl rfl ?_
  obtain ⟨g3, v5, h2, e4, E⟩ := cI_some E
  refine z_invV (ci := 0) (y := y_Gr_isSame) (Mc := M_Gr_isSame) (av := [.ref x1]) (rest := []) rfl rfl ⟨zt_475, zt_476, zt_477, zt_49⟩ zk_Gr_isSame zy_Gr_isSame (by decide) (Nat.le_of_ble_eq_true rfl) z00 rfl (Nat.le_of_ble_eq_true rfl) d_Fo_numberAt_5 g3 (m_Gr_isSame e4) ?_
  show Z X M_Fo_numberAt 0 0 h2 8 [(0, .ref x0), (1, .ref x1), (2, .int x2)] [.int v5]
  refine z_if_ne (y := 0) (tgt := 37) d_Fo_numberAt_8 (by decide) E (fun E => ?_) (fun E => ?_)
  · refine z_lv [0, 2] rfl ?_
    exact (w_Fo_numberAt_b37 hQ) x0 x2 h2 E
  · refine z_aload_n 0 d_Fo_numberAt_11 rfl rfl ?_
    refine z_getR (ci := 2) (j := 0) rfl (by decide) zf_Fo_12 d_Fo_numberAt_12 E (fun v6 _ E => ?_)
    refine z_aload_n 1 d_Fo_numberAt_15 rfl rfl ?_
    obtain ⟨g8, h7, e9, E⟩ := cV_some E
    refine z_invV (ci := 0) (y := y_Gr_become) (Mc := M_Gr_become) (av := [.ref x1]) (rest := []) rfl rfl ⟨zt_483, zt_307, zt_308, zt_49⟩ zk_Gr_become zy_Gr_become (by decide) (Nat.le_of_ble_eq_true rfl) z00 rfl (Nat.le_of_ble_eq_true rfl) d_Fo_numberAt_16 g8 (m_Gr_become e9) ?_
    show Z X M_Fo_numberAt 0 0 h7 19 [(0, .ref x0), (1, .ref x1), (2, .int x2)] []
    refine z_aload_n 0 d_Fo_numberAt_19 rfl rfl ?_
    refine z_iconst (v := (0 : Int32)) d_Fo_numberAt_20 (by decide) ?_
    refine z_putZ (ci := 2) (j := 4) rfl (by decide) zf_Fo_28 rfl rfl d_Fo_numberAt_21 E (fun h10 _ E => ?_)
    refine z_aload_n 0 d_Fo_numberAt_24 rfl rfl ?_
    obtain ⟨g12, h11, e13, E⟩ := cV_some E
    refine z_invV (ci := 2) (y := y_Fo_findTwins) (Mc := M_Fo_findTwins) (av := []) (rest := []) rfl rfl ⟨zt_484, zt_486, zt_15, zt_51⟩ zk_Fo_findTwins zy_Fo_findTwins (by decide) (Nat.le_of_ble_eq_true rfl) z00 rfl (Nat.le_of_ble_eq_true rfl) d_Fo_numberAt_25 g12 (m_Fo_findTwins e13) ?_
    show Z X M_Fo_numberAt 0 0 h11 28 [(0, .ref x0), (1, .ref x1), (2, .int x2)] []
    refine z_aload_n 0 d_Fo_numberAt_28 rfl rfl ?_
    refine z_iconst (v := (0 : Int32)) d_Fo_numberAt_29 (by decide) ?_
    refine z_aload_n 0 d_Fo_numberAt_30 rfl rfl ?_
    obtain ⟨g15, v17, h14, e16, E⟩ := cI_some E
    refine z_invV (ci := 2) (y := y_Fo_nodeBits) (Mc := M_Fo_nodeBits) (av := []) (rest := [.int (0 : Int32), .ref x0]) rfl rfl ⟨zt_488, zt_490, zt_16, zt_51⟩ zk_Fo_nodeBits zy_Fo_nodeBits (by decide) (Nat.le_of_ble_eq_true rfl) z00 rfl (Nat.le_of_ble_eq_true rfl) d_Fo_numberAt_31 g15 (m_Fo_nodeBits e16) ?_
    show Z X M_Fo_numberAt 0 0 h14 34 [(0, .ref x0), (1, .ref x1), (2, .int x2)] [.int v17, .int (0 : Int32), .ref x0]
    obtain ⟨g19, h18, e20, E⟩ := cV_some E
    refine z_invV (ci := 2) (y := y_Fo_giveLabel) (Mc := (M_Fo_giveLabel 8)) (av := [.int (0 : Int32), .int v17]) (rest := []) rfl rfl ⟨zt_514, zt_516, zt_19, zt_51⟩ (zk_Fo_giveLabel _) zy_Fo_giveLabel (by decide) (Nat.le_of_ble_eq_true rfl) z00 rfl (Nat.le_of_ble_eq_true rfl) d_Fo_numberAt_34 g19 (m_Fo_giveLabel e20) ?_
    show Z X M_Fo_numberAt 0 0 h18 37 [(0, .ref x0), (1, .ref x1), (2, .int x2)] []
    refine z_lv [0, 2] rfl ?_
    exact (w_Fo_numberAt_b37 hQ) x0 x2 h18 E
theorem m_Fo_numberAt {l : Launch} {G : Nat} {x0 : Nat} {x1 : Nat} {x2 : Int32} {h : pH} {r : pR} (E : f_Fo_numberAt G x0 x1 x2 h = some r) : zMet l y_Fo_numberAt M_Fo_numberAt 0 0 [.ref x0, .ref x1, .int x2] h r :=
  zMet_of (by decide) rfl (Nat.le_of_ble_eq_true rfl) (fun p e s m args below meth c D0 cT => w_Fo_numberAt_b0 (X := (p, l, e, s, m, args, below, meth, c, D0, cT, h, _, 0, 0)) rfl x0 x1 x2 h E)

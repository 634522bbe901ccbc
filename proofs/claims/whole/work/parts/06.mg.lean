def y_Lo_bitCount : MethodName := ⟨"java/lang/Long", "bitCount", "(J)I"⟩
abbrev M_Lo_bitCount : zM := ("java/lang/Long", prog_10_method_50_code, 2, (some .int), 0)
set_option maxRecDepth 100000 in
theorem zk_Lo_bitCount : Cond.code y_Lo_bitCount (M_Lo_bitCount).2.1 (M_Lo_bitCount).2.2.1 (M_Lo_bitCount).2.2.2.1 ∈ zTg := zmem 338 rfl rfl
theorem zy_Lo_bitCount : (y_Lo_bitCount).cls ≠ "java/lang/invoke/MethodHandle" ∧ (y_Lo_bitCount).cls ≠ "java/lang/invoke/VarHandle" ∧ (parseMethodDescriptor (y_Lo_bitCount).desc).map (fun d => d.parameters.length) = some 1 := by decide +kernel
theorem d_Lo_bitCount_0 : decode prog_10_method_50_code 0 = .ok (.lload_n 0, 1) := by decide +kernel
theorem d_Lo_bitCount_1 : decode prog_10_method_50_code 1 = .ok (.lload_n 0, 1) := by decide +kernel
theorem d_Lo_bitCount_2 : decode prog_10_method_50_code 2 = .ok (.iconst 1, 1) := by decide +kernel
theorem d_Lo_bitCount_3 : decode prog_10_method_50_code 3 = .ok (.lushr, 1) := by decide +kernel
theorem d_Lo_bitCount_4 : decode prog_10_method_50_code 4 = .ok (.ldc2_w 314, 3) := by decide +kernel
theorem d_Lo_bitCount_7 : decode prog_10_method_50_code 7 = .ok (.land, 1) := by decide +kernel
theorem d_Lo_bitCount_8 : decode prog_10_method_50_code 8 = .ok (.lsub, 1) := by decide +kernel
theorem d_Lo_bitCount_9 : decode prog_10_method_50_code 9 = .ok (.lstore_n 0, 1) := by decide +kernel
theorem d_Lo_bitCount_10 : decode prog_10_method_50_code 10 = .ok (.lload_n 0, 1) := by decide +kernel
theorem d_Lo_bitCount_11 : decode prog_10_method_50_code 11 = .ok (.ldc2_w 316, 3) := by decide +kernel
theorem d_Lo_bitCount_14 : decode prog_10_method_50_code 14 = .ok (.land, 1) := by decide +kernel
theorem d_Lo_bitCount_15 : decode prog_10_method_50_code 15 = .ok (.lload_n 0, 1) := by decide +kernel
theorem d_Lo_bitCount_16 : decode prog_10_method_50_code 16 = .ok (.iconst 2, 1) := by decide +kernel
theorem d_Lo_bitCount_17 : decode prog_10_method_50_code 17 = .ok (.lushr, 1) := by decide +kernel
theorem d_Lo_bitCount_18 : decode prog_10_method_50_code 18 = .ok (.ldc2_w 316, 3) := by decide +kernel
theorem d_Lo_bitCount_21 : decode prog_10_method_50_code 21 = .ok (.land, 1) := by decide +kernel
theorem d_Lo_bitCount_22 : decode prog_10_method_50_code 22 = .ok (.ladd, 1) := by decide +kernel
theorem d_Lo_bitCount_23 : decode prog_10_method_50_code 23 = .ok (.lstore_n 0, 1) := by decide +kernel
theorem d_Lo_bitCount_24 : decode prog_10_method_50_code 24 = .ok (.lload_n 0, 1) := by decide +kernel
theorem d_Lo_bitCount_25 : decode prog_10_method_50_code 25 = .ok (.lload_n 0, 1) := by decide +kernel
theorem d_Lo_bitCount_26 : decode prog_10_method_50_code 26 = .ok (.iconst 4, 1) := by decide +kernel
theorem d_Lo_bitCount_27 : decode prog_10_method_50_code 27 = .ok (.lushr, 1) := by decide +kernel
theorem d_Lo_bitCount_28 : decode prog_10_method_50_code 28 = .ok (.ladd, 1) := by decide +kernel
theorem d_Lo_bitCount_29 : decode prog_10_method_50_code 29 = .ok (.ldc2_w 318, 3) := by decide +kernel
theorem d_Lo_bitCount_32 : decode prog_10_method_50_code 32 = .ok (.land, 1) := by decide +kernel
theorem d_Lo_bitCount_33 : decode prog_10_method_50_code 33 = .ok (.lstore_n 0, 1) := by decide +kernel
theorem d_Lo_bitCount_34 : decode prog_10_method_50_code 34 = .ok (.lload_n 0, 1) := by decide +kernel
theorem d_Lo_bitCount_35 : decode prog_10_method_50_code 35 = .ok (.lload_n 0, 1) := by decide +kernel
theorem d_Lo_bitCount_36 : decode prog_10_method_50_code 36 = .ok (.bipush 8, 2) := by decide +kernel
theorem d_Lo_bitCount_38 : decode prog_10_method_50_code 38 = .ok (.lushr, 1) := by decide +kernel
theorem d_Lo_bitCount_39 : decode prog_10_method_50_code 39 = .ok (.ladd, 1) := by decide +kernel
theorem d_Lo_bitCount_40 : decode prog_10_method_50_code 40 = .ok (.lstore_n 0, 1) := by decide +kernel
theorem d_Lo_bitCount_41 : decode prog_10_method_50_code 41 = .ok (.lload_n 0, 1) := by decide +kernel
theorem d_Lo_bitCount_42 : decode prog_10_method_50_code 42 = .ok (.lload_n 0, 1) := by decide +kernel
theorem d_Lo_bitCount_43 : decode prog_10_method_50_code 43 = .ok (.bipush 16, 2) := by decide +kernel
theorem d_Lo_bitCount_45 : decode prog_10_method_50_code 45 = .ok (.lushr, 1) := by decide +kernel
theorem d_Lo_bitCount_46 : decode prog_10_method_50_code 46 = .ok (.ladd, 1) := by decide +kernel
theorem d_Lo_bitCount_47 : decode prog_10_method_50_code 47 = .ok (.lstore_n 0, 1) := by decide +kernel
theorem d_Lo_bitCount_48 : decode prog_10_method_50_code 48 = .ok (.lload_n 0, 1) := by decide +kernel
theorem d_Lo_bitCount_49 : decode prog_10_method_50_code 49 = .ok (.lload_n 0, 1) := by decide +kernel
theorem d_Lo_bitCount_50 : decode prog_10_method_50_code 50 = .ok (.bipush 32, 2) := by decide +kernel
theorem d_Lo_bitCount_52 : decode prog_10_method_50_code 52 = .ok (.lushr, 1) := by decide +kernel
theorem d_Lo_bitCount_53 : decode prog_10_method_50_code 53 = .ok (.ladd, 1) := by decide +kernel
theorem d_Lo_bitCount_54 : decode prog_10_method_50_code 54 = .ok (.lstore_n 0, 1) := by decide +kernel
theorem d_Lo_bitCount_55 : decode prog_10_method_50_code 55 = .ok (.lload_n 0, 1) := by decide +kernel
theorem d_Lo_bitCount_56 : decode prog_10_method_50_code 56 = .ok (.l2i, 1) := by decide +kernel
theorem d_Lo_bitCount_57 : decode prog_10_method_50_code 57 = .ok (.bipush 127, 2) := by decide +kernel
theorem d_Lo_bitCount_59 : decode prog_10_method_50_code 59 = .ok (.iand, 1) := by decide +kernel
theorem d_Lo_bitCount_60 : decode prog_10_method_50_code 60 = .ok (.ireturn, 1) := by decide +kernel
theorem zt_339 : (Cond.constantLong "java/lang/Long" (314 : Nat) (6148914691236517205 : Int64)) ∈ zTg := zmem 339 (by decide +kernel) (by decide +kernel)
theorem zt_340 : (Cond.constantLong "java/lang/Long" (316 : Nat) (3689348814741910323 : Int64)) ∈ zTg := zmem 340 (by decide +kernel) (by decide +kernel)
theorem zt_341 : (Cond.constantLong "java/lang/Long" (318 : Nat) (1085102592571150095 : Int64)) ∈ zTg := zmem 341 (by decide +kernel) (by decide +kernel)
def y_Mg_numberOf : MethodName := ⟨"MergeGraphs", "numberOf", "(III)I"⟩
abbrev M_Mg_numberOf : zM := (nR3, prog_1_method_24_code, 3, (some .int), 0)
set_option maxRecDepth 100000 in
theorem zk_Mg_numberOf : Cond.code y_Mg_numberOf (M_Mg_numberOf).2.1 (M_Mg_numberOf).2.2.1 (M_Mg_numberOf).2.2.2.1 ∈ zTg := zmem 275 rfl rfl
theorem zy_Mg_numberOf : (y_Mg_numberOf).cls ≠ "java/lang/invoke/MethodHandle" ∧ (y_Mg_numberOf).cls ≠ "java/lang/invoke/VarHandle" ∧ (parseMethodDescriptor (y_Mg_numberOf).desc).map (fun d => d.parameters.length) = some 3 := by decide +kernel
theorem d_Mg_numberOf_0 : decode prog_1_method_24_code 0 = .ok (.iload_n 0, 1) := by decide +kernel
theorem d_Mg_numberOf_1 : decode prog_1_method_24_code 1 = .ok (.bipush 12, 2) := by decide +kernel
theorem d_Mg_numberOf_3 : decode prog_1_method_24_code 3 = .ok (.ishl, 1) := by decide +kernel
theorem d_Mg_numberOf_4 : decode prog_1_method_24_code 4 = .ok (.iload_n 1, 1) := by decide +kernel
theorem d_Mg_numberOf_5 : decode prog_1_method_24_code 5 = .ok (.bipush 6, 2) := by decide +kernel
theorem d_Mg_numberOf_7 : decode prog_1_method_24_code 7 = .ok (.ishl, 1) := by decide +kernel
theorem d_Mg_numberOf_8 : decode prog_1_method_24_code 8 = .ok (.iadd, 1) := by decide +kernel
theorem d_Mg_numberOf_9 : decode prog_1_method_24_code 9 = .ok (.iload_n 2, 1) := by decide +kernel
theorem d_Mg_numberOf_10 : decode prog_1_method_24_code 10 = .ok (.iadd, 1) := by decide +kernel
theorem d_Mg_numberOf_11 : decode prog_1_method_24_code 11 = .ok (.ireturn, 1) := by decide +kernel
def y_Mg_subjectOf : MethodName := ⟨"MergeGraphs", "subjectOf", "(I)I"⟩
abbrev M_Mg_subjectOf : zM := (nR3, prog_1_method_25_code, 1, (some .int), 0)
set_option maxRecDepth 100000 in
theorem zk_Mg_subjectOf : Cond.code y_Mg_subjectOf (M_Mg_subjectOf).2.1 (M_Mg_subjectOf).2.2.1 (M_Mg_subjectOf).2.2.2.1 ∈ zTg := zmem 331 rfl rfl
theorem zy_Mg_subjectOf : (y_Mg_subjectOf).cls ≠ "java/lang/invoke/MethodHandle" ∧ (y_Mg_subjectOf).cls ≠ "java/lang/invoke/VarHandle" ∧ (parseMethodDescriptor (y_Mg_subjectOf).desc).map (fun d => d.parameters.length) = some 1 := by decide +kernel
theorem d_Mg_subjectOf_0 : decode prog_1_method_25_code 0 = .ok (.iload_n 0, 1) := by decide +kernel
theorem d_Mg_subjectOf_1 : decode prog_1_method_25_code 1 = .ok (.bipush 12, 2) := by decide +kernel
theorem d_Mg_subjectOf_3 : decode prog_1_method_25_code 3 = .ok (.ishr, 1) := by decide +kernel
theorem d_Mg_subjectOf_4 : decode prog_1_method_25_code 4 = .ok (.ireturn, 1) := by decide +kernel
def y_Mg_verbOf : MethodName := ⟨"MergeGraphs", "verbOf", "(I)I"⟩
abbrev M_Mg_verbOf : zM := (nR3, prog_1_method_26_code, 1, (some .int), 0)
set_option maxRecDepth 100000 in
theorem zk_Mg_verbOf : Cond.code y_Mg_verbOf (M_Mg_verbOf).2.1 (M_Mg_verbOf).2.2.1 (M_Mg_verbOf).2.2.2.1 ∈ zTg := zmem 381 rfl rfl
theorem zy_Mg_verbOf : (y_Mg_verbOf).cls ≠ "java/lang/invoke/MethodHandle" ∧ (y_Mg_verbOf).cls ≠ "java/lang/invoke/VarHandle" ∧ (parseMethodDescriptor (y_Mg_verbOf).desc).map (fun d => d.parameters.length) = some 1 := by decide +kernel
theorem d_Mg_verbOf_0 : decode prog_1_method_26_code 0 = .ok (.iload_n 0, 1) := by decide +kernel
theorem d_Mg_verbOf_1 : decode prog_1_method_26_code 1 = .ok (.bipush 6, 2) := by decide +kernel
theorem d_Mg_verbOf_3 : decode prog_1_method_26_code 3 = .ok (.ishr, 1) := by decide +kernel
theorem d_Mg_verbOf_4 : decode prog_1_method_26_code 4 = .ok (.bipush 63, 2) := by decide +kernel
theorem d_Mg_verbOf_6 : decode prog_1_method_26_code 6 = .ok (.iand, 1) := by decide +kernel
theorem d_Mg_verbOf_7 : decode prog_1_method_26_code 7 = .ok (.ireturn, 1) := by decide +kernel
def y_Mg_objectOf : MethodName := ⟨"MergeGraphs", "objectOf", "(I)I"⟩
abbrev M_Mg_objectOf : zM := (nR3, prog_1_method_27_code, 1, (some .int), 0)
set_option maxRecDepth 100000 in
theorem zk_Mg_objectOf : Cond.code y_Mg_objectOf (M_Mg_objectOf).2.1 (M_Mg_objectOf).2.2.1 (M_Mg_objectOf).2.2.2.1 ∈ zTg := zmem 334 rfl rfl
theorem zy_Mg_objectOf : (y_Mg_objectOf).cls ≠ "java/lang/invoke/MethodHandle" ∧ (y_Mg_objectOf).cls ≠ "java/lang/invoke/VarHandle" ∧ (parseMethodDescriptor (y_Mg_objectOf).desc).map (fun d => d.parameters.length) = some 1 := by decide +kernel
theorem d_Mg_objectOf_0 : decode prog_1_method_27_code 0 = .ok (.iload_n 0, 1) := by decide +kernel
theorem d_Mg_objectOf_1 : decode prog_1_method_27_code 1 = .ok (.bipush 63, 2) := by decide +kernel
theorem d_Mg_objectOf_3 : decode prog_1_method_27_code 3 = .ok (.iand, 1) := by decide +kernel
theorem d_Mg_objectOf_4 : decode prog_1_method_27_code 4 = .ok (.ireturn, 1) := by decide +kernel
def y_Mg_isNode : MethodName := ⟨"MergeGraphs", "isNode", "(I)Z"⟩
abbrev M_Mg_isNode : zM := (nR3, prog_1_method_28_code, 1, (some .boolean), 0)
set_option maxRecDepth 100000 in
theorem zk_Mg_isNode : Cond.code y_Mg_isNode (M_Mg_isNode).2.1 (M_Mg_isNode).2.2.1 (M_Mg_isNode).2.2.2.1 ∈ zTg := zmem 403 rfl rfl
theorem zy_Mg_isNode : (y_Mg_isNode).cls ≠ "java/lang/invoke/MethodHandle" ∧ (y_Mg_isNode).cls ≠ "java/lang/invoke/VarHandle" ∧ (parseMethodDescriptor (y_Mg_isNode).desc).map (fun d => d.parameters.length) = some 1 := by decide +kernel
theorem d_Mg_isNode_0 : decode prog_1_method_28_code 0 = .ok (.iload_n 0, 1) := by decide +kernel
theorem d_Mg_isNode_1 : decode prog_1_method_28_code 1 = .ok (.bipush 40, 2) := by decide +kernel
theorem d_Mg_isNode_3 : decode prog_1_method_28_code 3 = .ok (.if_icmp .lt 13, 3) := by decide +kernel
theorem d_Mg_isNode_6 : decode prog_1_method_28_code 6 = .ok (.iload_n 0, 1) := by decide +kernel
theorem d_Mg_isNode_7 : decode prog_1_method_28_code 7 = .ok (.bipush 46, 2) := by decide +kernel
theorem d_Mg_isNode_9 : decode prog_1_method_28_code 9 = .ok (.if_icmp .ge 7, 3) := by decide +kernel
theorem d_Mg_isNode_12 : decode prog_1_method_28_code 12 = .ok (.iconst 1, 1) := by decide +kernel
theorem d_Mg_isNode_13 : decode prog_1_method_28_code 13 = .ok (.goto 4, 3) := by decide +kernel
theorem d_Mg_isNode_16 : decode prog_1_method_28_code 16 = .ok (.iconst 0, 1) := by decide +kernel
theorem d_Mg_isNode_17 : decode prog_1_method_28_code 17 = .ok (.ireturn, 1) := by decide +kernel
def y_Mg_isIn : MethodName := ⟨"MergeGraphs", "isIn", "(JI)Z"⟩
abbrev M_Mg_isIn : zM := (nR3, prog_1_method_29_code, 3, (some .boolean), 0)
set_option maxRecDepth 100000 in
theorem zk_Mg_isIn : Cond.code y_Mg_isIn (M_Mg_isIn).2.1 (M_Mg_isIn).2.2.1 (M_Mg_isIn).2.2.2.1 ∈ zTg := zmem 396 rfl rfl
theorem zy_Mg_isIn : (y_Mg_isIn).cls ≠ "java/lang/invoke/MethodHandle" ∧ (y_Mg_isIn).cls ≠ "java/lang/invoke/VarHandle" ∧ (parseMethodDescriptor (y_Mg_isIn).desc).map (fun d => d.parameters.length) = some 2 := by decide +kernel
theorem d_Mg_isIn_0 : decode prog_1_method_29_code 0 = .ok (.lload_n 0, 1) := by decide +kernel
theorem d_Mg_isIn_1 : decode prog_1_method_29_code 1 = .ok (.lconst 1, 1) := by decide +kernel
theorem d_Mg_isIn_2 : decode prog_1_method_29_code 2 = .ok (.iload_n 2, 1) := by decide +kernel
theorem d_Mg_isIn_3 : decode prog_1_method_29_code 3 = .ok (.lshl, 1) := by decide +kernel
theorem d_Mg_isIn_4 : decode prog_1_method_29_code 4 = .ok (.land, 1) := by decide +kernel
theorem d_Mg_isIn_5 : decode prog_1_method_29_code 5 = .ok (.lconst 0, 1) := by decide +kernel
theorem d_Mg_isIn_6 : decode prog_1_method_29_code 6 = .ok (.lcmp, 1) := by decide +kernel
theorem d_Mg_isIn_7 : decode prog_1_method_29_code 7 = .ok (.ifCond .eq 7, 3) := by decide +kernel
theorem d_Mg_isIn_10 : decode prog_1_method_29_code 10 = .ok (.iconst 1, 1) := by decide +kernel
theorem d_Mg_isIn_11 : decode prog_1_method_29_code 11 = .ok (.goto 4, 3) := by decide +kernel
theorem d_Mg_isIn_14 : decode prog_1_method_29_code 14 = .ok (.iconst 0, 1) := by decide +kernel
theorem d_Mg_isIn_15 : decode prog_1_method_29_code 15 = .ok (.ireturn, 1) := by decide +kernel
def y_Mg_putFor : MethodName := ⟨"MergeGraphs", "putFor", "(I[I)I"⟩
abbrev M_Mg_putFor : zM := (nR3, prog_1_method_31_code, 3, (some .int), 0)
set_option maxRecDepth 100000 in
theorem zk_Mg_putFor : Cond.code y_Mg_putFor (M_Mg_putFor).2.1 (M_Mg_putFor).2.2.1 (M_Mg_putFor).2.2.2.1 ∈ zTg := zmem 510 rfl rfl
theorem zy_Mg_putFor : (y_Mg_putFor).cls ≠ "java/lang/invoke/MethodHandle" ∧ (y_Mg_putFor).cls ≠ "java/lang/invoke/VarHandle" ∧ (parseMethodDescriptor (y_Mg_putFor).desc).map (fun d => d.parameters.length) = some 2 := by decide +kernel
theorem d_Mg_putFor_0 : decode prog_1_method_31_code 0 = .ok (.iload_n 0, 1) := by decide +kernel
theorem d_Mg_putFor_1 : decode prog_1_method_31_code 1 = .ok (.bipush 40, 2) := by decide +kernel
theorem d_Mg_putFor_3 : decode prog_1_method_31_code 3 = .ok (.isub, 1) := by decide +kernel
theorem d_Mg_putFor_4 : decode prog_1_method_31_code 4 = .ok (.istore_n 2, 1) := by decide +kernel
theorem d_Mg_putFor_5 : decode prog_1_method_31_code 5 = .ok (.iload_n 2, 1) := by decide +kernel
theorem d_Mg_putFor_6 : decode prog_1_method_31_code 6 = .ok (.ifCond .lt 15, 3) := by decide +kernel
theorem d_Mg_putFor_9 : decode prog_1_method_31_code 9 = .ok (.iload_n 2, 1) := by decide +kernel
theorem d_Mg_putFor_10 : decode prog_1_method_31_code 10 = .ok (.aload_n 1, 1) := by decide +kernel
theorem d_Mg_putFor_11 : decode prog_1_method_31_code 11 = .ok (.arraylength, 1) := by decide +kernel
theorem d_Mg_putFor_12 : decode prog_1_method_31_code 12 = .ok (.if_icmp .ge 9, 3) := by decide +kernel
theorem d_Mg_putFor_15 : decode prog_1_method_31_code 15 = .ok (.aload_n 1, 1) := by decide +kernel
theorem d_Mg_putFor_16 : decode prog_1_method_31_code 16 = .ok (.iload_n 2, 1) := by decide +kernel
theorem d_Mg_putFor_17 : decode prog_1_method_31_code 17 = .ok (.iaload, 1) := by decide +kernel
theorem d_Mg_putFor_18 : decode prog_1_method_31_code 18 = .ok (.goto 4, 3) := by decide +kernel
theorem d_Mg_putFor_21 : decode prog_1_method_31_code 21 = .ok (.iload_n 0, 1) := by decide +kernel
theorem d_Mg_putFor_22 : decode prog_1_method_31_code 22 = .ok (.ireturn, 1) := by decide +kernel
def y_Mg_renamed : MethodName := ⟨"MergeGraphs", "renamed", "(I[I)I"⟩
abbrev M_Mg_renamed : zM := (nR3, prog_1_method_30_code, 2, (some .int), 1)
set_option maxRecDepth 100000 in
theorem zk_Mg_renamed : Cond.code y_Mg_renamed (M_Mg_renamed).2.1 (M_Mg_renamed).2.2.1 (M_Mg_renamed).2.2.2.1 ∈ zTg := zmem 506 rfl rfl
theorem zy_Mg_renamed : (y_Mg_renamed).cls ≠ "java/lang/invoke/MethodHandle" ∧ (y_Mg_renamed).cls ≠ "java/lang/invoke/VarHandle" ∧ (parseMethodDescriptor (y_Mg_renamed).desc).map (fun d => d.parameters.length) = some 2 := by decide +kernel
theorem d_Mg_renamed_0 : decode prog_1_method_30_code 0 = .ok (.iload_n 0, 1) := by decide +kernel
theorem d_Mg_renamed_1 : decode prog_1_method_30_code 1 = .ok (.invokestatic 176, 3) := by decide +kernel
theorem d_Mg_renamed_4 : decode prog_1_method_30_code 4 = .ok (.aload_n 1, 1) := by decide +kernel
theorem d_Mg_renamed_5 : decode prog_1_method_30_code 5 = .ok (.invokestatic 179, 3) := by decide +kernel
theorem d_Mg_renamed_8 : decode prog_1_method_30_code 8 = .ok (.iload_n 0, 1) := by decide +kernel
theorem d_Mg_renamed_9 : decode prog_1_method_30_code 9 = .ok (.invokestatic 183, 3) := by decide +kernel
theorem d_Mg_renamed_12 : decode prog_1_method_30_code 12 = .ok (.iload_n 0, 1) := by decide +kernel
theorem d_Mg_renamed_13 : decode prog_1_method_30_code 13 = .ok (.invokestatic 186, 3) := by decide +kernel
theorem d_Mg_renamed_16 : decode prog_1_method_30_code 16 = .ok (.aload_n 1, 1) := by decide +kernel
theorem d_Mg_renamed_17 : decode prog_1_method_30_code 17 = .ok (.invokestatic 179, 3) := by decide +kernel
theorem d_Mg_renamed_20 : decode prog_1_method_30_code 20 = .ok (.invokestatic 173, 3) := by decide +kernel
theorem d_Mg_renamed_23 : decode prog_1_method_30_code 23 = .ok (.ireturn, 1) := by decide +kernel
theorem zt_48 : (Cond.initialized "MergeGraphs") ∈ zTg := zmem 48 (by decide +kernel) (by decide +kernel)
theorem zt_273 : (Cond.methodLink "MergeGraphs" (173 : Nat) (⟨"MergeGraphs", "numberOf", "(III)I"⟩ : MethodName)) ∈ zTg := zmem 273 (by decide +kernel) (by decide +kernel)
theorem zt_274 : (Cond.static (⟨"MergeGraphs", "numberOf", "(III)I"⟩ : MethodName)) ∈ zTg := zmem 274 (by decide +kernel) (by decide +kernel)
theorem zt_330 : (Cond.static (⟨"MergeGraphs", "subjectOf", "(I)I"⟩ : MethodName)) ∈ zTg := zmem 330 (by decide +kernel) (by decide +kernel)
theorem zt_333 : (Cond.static (⟨"MergeGraphs", "objectOf", "(I)I"⟩ : MethodName)) ∈ zTg := zmem 333 (by decide +kernel) (by decide +kernel)
theorem zt_380 : (Cond.static (⟨"MergeGraphs", "verbOf", "(I)I"⟩ : MethodName)) ∈ zTg := zmem 380 (by decide +kernel) (by decide +kernel)
theorem zt_507 : (Cond.methodLink "MergeGraphs" (176 : Nat) (⟨"MergeGraphs", "subjectOf", "(I)I"⟩ : MethodName)) ∈ zTg := zmem 507 (by decide +kernel) (by decide +kernel)
theorem zt_508 : (Cond.methodLink "MergeGraphs" (179 : Nat) (⟨"MergeGraphs", "putFor", "(I[I)I"⟩ : MethodName)) ∈ zTg := zmem 508 (by decide +kernel) (by decide +kernel)
theorem zt_509 : (Cond.static (⟨"MergeGraphs", "putFor", "(I[I)I"⟩ : MethodName)) ∈ zTg := zmem 509 (by decide +kernel) (by decide +kernel)
theorem zt_511 : (Cond.methodLink "MergeGraphs" (183 : Nat) (⟨"MergeGraphs", "verbOf", "(I)I"⟩ : MethodName)) ∈ zTg := zmem 511 (by decide +kernel) (by decide +kernel)
theorem zt_512 : (Cond.methodLink "MergeGraphs" (186 : Nat) (⟨"MergeGraphs", "objectOf", "(I)I"⟩ : MethodName)) ∈ zTg := zmem 512 (by decide +kernel) (by decide +kernel)
def y_Mg_isBefore : MethodName := ⟨"MergeGraphs", "isBefore", "([I[II)Z"⟩
abbrev M_Mg_isBefore : zM := (nR3, prog_1_method_32_code, 4, (some .boolean), 0)
set_option maxRecDepth 100000 in
theorem zk_Mg_isBefore : Cond.code y_Mg_isBefore (M_Mg_isBefore).2.1 (M_Mg_isBefore).2.2.1 (M_Mg_isBefore).2.2.2.1 ∈ zTg := zmem 520 rfl rfl
theorem zy_Mg_isBefore : (y_Mg_isBefore).cls ≠ "java/lang/invoke/MethodHandle" ∧ (y_Mg_isBefore).cls ≠ "java/lang/invoke/VarHandle" ∧ (parseMethodDescriptor (y_Mg_isBefore).desc).map (fun d => d.parameters.length) = some 3 := by decide +kernel
theorem d_Mg_isBefore_0 : decode prog_1_method_32_code 0 = .ok (.iconst 0, 1) := by decide +kernel
theorem d_Mg_isBefore_1 : decode prog_1_method_32_code 1 = .ok (.istore_n 3, 1) := by decide +kernel
theorem d_Mg_isBefore_2 : decode prog_1_method_32_code 2 = .ok (.iload_n 3, 1) := by decide +kernel
theorem d_Mg_isBefore_3 : decode prog_1_method_32_code 3 = .ok (.iload_n 2, 1) := by decide +kernel
theorem d_Mg_isBefore_4 : decode prog_1_method_32_code 4 = .ok (.if_icmp .ge 45, 3) := by decide +kernel
theorem d_Mg_isBefore_7 : decode prog_1_method_32_code 7 = .ok (.iload_n 3, 1) := by decide +kernel
theorem d_Mg_isBefore_8 : decode prog_1_method_32_code 8 = .ok (.aload_n 0, 1) := by decide +kernel
theorem d_Mg_isBefore_9 : decode prog_1_method_32_code 9 = .ok (.arraylength, 1) := by decide +kernel
theorem d_Mg_isBefore_10 : decode prog_1_method_32_code 10 = .ok (.if_icmp .ge 39, 3) := by decide +kernel
theorem d_Mg_isBefore_13 : decode prog_1_method_32_code 13 = .ok (.iload_n 3, 1) := by decide +kernel
theorem d_Mg_isBefore_14 : decode prog_1_method_32_code 14 = .ok (.aload_n 1, 1) := by decide +kernel
theorem d_Mg_isBefore_15 : decode prog_1_method_32_code 15 = .ok (.arraylength, 1) := by decide +kernel
theorem d_Mg_isBefore_16 : decode prog_1_method_32_code 16 = .ok (.if_icmp .ge 33, 3) := by decide +kernel
theorem d_Mg_isBefore_19 : decode prog_1_method_32_code 19 = .ok (.aload_n 0, 1) := by decide +kernel
theorem d_Mg_isBefore_20 : decode prog_1_method_32_code 20 = .ok (.iload_n 3, 1) := by decide +kernel
theorem d_Mg_isBefore_21 : decode prog_1_method_32_code 21 = .ok (.iaload, 1) := by decide +kernel
theorem d_Mg_isBefore_22 : decode prog_1_method_32_code 22 = .ok (.aload_n 1, 1) := by decide +kernel
theorem d_Mg_isBefore_23 : decode prog_1_method_32_code 23 = .ok (.iload_n 3, 1) := by decide +kernel
theorem d_Mg_isBefore_24 : decode prog_1_method_32_code 24 = .ok (.iaload, 1) := by decide +kernel
theorem d_Mg_isBefore_25 : decode prog_1_method_32_code 25 = .ok (.if_icmp .eq 18, 3) := by decide +kernel
theorem d_Mg_isBefore_28 : decode prog_1_method_32_code 28 = .ok (.aload_n 0, 1) := by decide +kernel
theorem d_Mg_isBefore_29 : decode prog_1_method_32_code 29 = .ok (.iload_n 3, 1) := by decide +kernel
theorem d_Mg_isBefore_30 : decode prog_1_method_32_code 30 = .ok (.iaload, 1) := by decide +kernel
theorem d_Mg_isBefore_31 : decode prog_1_method_32_code 31 = .ok (.aload_n 1, 1) := by decide +kernel
theorem d_Mg_isBefore_32 : decode prog_1_method_32_code 32 = .ok (.iload_n 3, 1) := by decide +kernel
theorem d_Mg_isBefore_33 : decode prog_1_method_32_code 33 = .ok (.iaload, 1) := by decide +kernel
theorem d_Mg_isBefore_34 : decode prog_1_method_32_code 34 = .ok (.if_icmp .ge 7, 3) := by decide +kernel
theorem d_Mg_isBefore_37 : decode prog_1_method_32_code 37 = .ok (.iconst 1, 1) := by decide +kernel
theorem d_Mg_isBefore_38 : decode prog_1_method_32_code 38 = .ok (.goto 4, 3) := by decide +kernel
theorem d_Mg_isBefore_41 : decode prog_1_method_32_code 41 = .ok (.iconst 0, 1) := by decide +kernel
theorem d_Mg_isBefore_42 : decode prog_1_method_32_code 42 = .ok (.ireturn, 1) := by decide +kernel
theorem d_Mg_isBefore_43 : decode prog_1_method_32_code 43 = .ok (.iinc 3 1, 3) := by decide +kernel
theorem d_Mg_isBefore_46 : decode prog_1_method_32_code 46 = .ok (.goto (-44), 3) := by decide +kernel
theorem d_Mg_isBefore_49 : decode prog_1_method_32_code 49 = .ok (.iconst 0, 1) := by decide +kernel
theorem d_Mg_isBefore_50 : decode prog_1_method_32_code 50 = .ok (.ireturn, 1) := by decide +kernel
def y_Mg_lowestOf : MethodName := ⟨"MergeGraphs", "lowestOf", "(J)I"⟩
abbrev M_Mg_lowestOf : zM := (nR3, prog_1_method_36_code, 2, (some .int), 1)
set_option maxRecDepth 100000 in
theorem zk_Mg_lowestOf : Cond.code y_Mg_lowestOf (M_Mg_lowestOf).2.1 (M_Mg_lowestOf).2.2.1 (M_Mg_lowestOf).2.2.2.1 ∈ zTg := zmem 424 rfl rfl
theorem zy_Mg_lowestOf : (y_Mg_lowestOf).cls ≠ "java/lang/invoke/MethodHandle" ∧ (y_Mg_lowestOf).cls ≠ "java/lang/invoke/VarHandle" ∧ (parseMethodDescriptor (y_Mg_lowestOf).desc).map (fun d => d.parameters.length) = some 1 := by decide +kernel
theorem d_Mg_lowestOf_0 : decode prog_1_method_36_code 0 = .ok (.lload_n 0, 1) := by decide +kernel
theorem d_Mg_lowestOf_1 : decode prog_1_method_36_code 1 = .ok (.lload_n 0, 1) := by decide +kernel
theorem d_Mg_lowestOf_2 : decode prog_1_method_36_code 2 = .ok (.lneg, 1) := by decide +kernel
theorem d_Mg_lowestOf_3 : decode prog_1_method_36_code 3 = .ok (.land, 1) := by decide +kernel
theorem d_Mg_lowestOf_4 : decode prog_1_method_36_code 4 = .ok (.lconst 1, 1) := by decide +kernel
theorem d_Mg_lowestOf_5 : decode prog_1_method_36_code 5 = .ok (.lsub, 1) := by decide +kernel
theorem d_Mg_lowestOf_6 : decode prog_1_method_36_code 6 = .ok (.invokestatic 78, 3) := by decide +kernel
theorem d_Mg_lowestOf_9 : decode prog_1_method_36_code 9 = .ok (.ireturn, 1) := by decide +kernel
theorem zt_58 : (Cond.initialized "java/lang/Long") ∈ zTg := zmem 58 (by decide +kernel) (by decide +kernel)
theorem zt_336 : (Cond.methodLink "MergeGraphs" (78 : Nat) (⟨"java/lang/Long", "bitCount", "(J)I"⟩ : MethodName)) ∈ zTg := zmem 336 (by decide +kernel) (by decide +kernel)
theorem zt_337 : (Cond.static (⟨"java/lang/Long", "bitCount", "(J)I"⟩ : MethodName)) ∈ zTg := zmem 337 (by decide +kernel) (by decide +kernel)
def y_Gr_insertRenamed : MethodName := ⟨"MergeGraphs$Graph", "insertRenamed", "(LMergeGraphs$Graph;[I)Z"⟩
abbrev M_Gr_insertRenamed : zM := (nR0, prog_3_method_17_code, 4, (some .boolean), 2)
set_option maxRecDepth 100000 in
theorem zk_Gr_insertRenamed : Cond.code y_Gr_insertRenamed (M_Gr_insertRenamed).2.1 (M_Gr_insertRenamed).2.2.1 (M_Gr_insertRenamed).2.2.2.1 ∈ zTg := zmem 575 rfl rfl
theorem zy_Gr_insertRenamed : (y_Gr_insertRenamed).cls ≠ "java/lang/invoke/MethodHandle" ∧ (y_Gr_insertRenamed).cls ≠ "java/lang/invoke/VarHandle" ∧ (parseMethodDescriptor (y_Gr_insertRenamed).desc).map (fun d => d.parameters.length) = some 2 := by decide +kernel
theorem d_Gr_insertRenamed_0 : decode prog_3_method_17_code 0 = .ok (.iconst 0, 1) := by decide +kernel
theorem d_Gr_insertRenamed_1 : decode prog_3_method_17_code 1 = .ok (.istore_n 3, 1) := by decide +kernel
theorem d_Gr_insertRenamed_2 : decode prog_3_method_17_code 2 = .ok (.iload_n 3, 1) := by decide +kernel
theorem d_Gr_insertRenamed_3 : decode prog_3_method_17_code 3 = .ok (.aload_n 1, 1) := by decide +kernel
theorem d_Gr_insertRenamed_4 : decode prog_3_method_17_code 4 = .ok (.getfield 15, 3) := by decide +kernel
theorem d_Gr_insertRenamed_7 : decode prog_3_method_17_code 7 = .ok (.if_icmp .ge 29, 3) := by decide +kernel
theorem d_Gr_insertRenamed_10 : decode prog_3_method_17_code 10 = .ok (.aload_n 0, 1) := by decide +kernel
theorem d_Gr_insertRenamed_11 : decode prog_3_method_17_code 11 = .ok (.aload_n 1, 1) := by decide +kernel
theorem d_Gr_insertRenamed_12 : decode prog_3_method_17_code 12 = .ok (.getfield 9, 3) := by decide +kernel
theorem d_Gr_insertRenamed_15 : decode prog_3_method_17_code 15 = .ok (.iload_n 3, 1) := by decide +kernel
theorem d_Gr_insertRenamed_16 : decode prog_3_method_17_code 16 = .ok (.iaload, 1) := by decide +kernel
theorem d_Gr_insertRenamed_17 : decode prog_3_method_17_code 17 = .ok (.aload_n 2, 1) := by decide +kernel
theorem d_Gr_insertRenamed_18 : decode prog_3_method_17_code 18 = .ok (.invokestatic 40, 3) := by decide +kernel
theorem d_Gr_insertRenamed_21 : decode prog_3_method_17_code 21 = .ok (.invokevirtual 37, 3) := by decide +kernel
theorem d_Gr_insertRenamed_24 : decode prog_3_method_17_code 24 = .ok (.iconst (-1), 1) := by decide +kernel
theorem d_Gr_insertRenamed_25 : decode prog_3_method_17_code 25 = .ok (.if_icmp .ne 5, 3) := by decide +kernel
theorem d_Gr_insertRenamed_28 : decode prog_3_method_17_code 28 = .ok (.iconst 0, 1) := by decide +kernel
theorem d_Gr_insertRenamed_29 : decode prog_3_method_17_code 29 = .ok (.ireturn, 1) := by decide +kernel
theorem d_Gr_insertRenamed_30 : decode prog_3_method_17_code 30 = .ok (.iinc 3 1, 3) := by decide +kernel
theorem d_Gr_insertRenamed_33 : decode prog_3_method_17_code 33 = .ok (.goto (-31), 3) := by decide +kernel
theorem d_Gr_insertRenamed_36 : decode prog_3_method_17_code 36 = .ok (.iconst 1, 1) := by decide +kernel
theorem d_Gr_insertRenamed_37 : decode prog_3_method_17_code 37 = .ok (.ireturn, 1) := by decide +kernel
theorem zt_505 : (Cond.static (⟨"MergeGraphs", "renamed", "(I[I)I"⟩ : MethodName)) ∈ zTg := zmem 505 (by decide +kernel) (by decide +kernel)
def y_Gr_subjects : MethodName := ⟨"MergeGraphs$Graph", "subjects", "()J"⟩
abbrev M_Gr_subjects : zM := (nR0, prog_3_method_18_code, 4, (some .long), 1)
set_option maxRecDepth 100000 in
theorem zk_Gr_subjects : Cond.code y_Gr_subjects (M_Gr_subjects).2.1 (M_Gr_subjects).2.2.1 (M_Gr_subjects).2.2.2.1 ∈ zTg := zmem 620 rfl rfl
theorem zy_Gr_subjects : (y_Gr_subjects).cls ≠ "java/lang/invoke/MethodHandle" ∧ (y_Gr_subjects).cls ≠ "java/lang/invoke/VarHandle" ∧ (parseMethodDescriptor (y_Gr_subjects).desc).map (fun d => d.parameters.length) = some 0 := by decide +kernel
theorem d_Gr_subjects_0 : decode prog_3_method_18_code 0 = .ok (.lconst 0, 1) := by decide +kernel
theorem d_Gr_subjects_1 : decode prog_3_method_18_code 1 = .ok (.lstore_n 1, 1) := by decide +kernel
theorem d_Gr_subjects_2 : decode prog_3_method_18_code 2 = .ok (.iconst 0, 1) := by decide +kernel
theorem d_Gr_subjects_3 : decode prog_3_method_18_code 3 = .ok (.istore_n 3, 1) := by decide +kernel
theorem d_Gr_subjects_4 : decode prog_3_method_18_code 4 = .ok (.iload_n 3, 1) := by decide +kernel
theorem d_Gr_subjects_5 : decode prog_3_method_18_code 5 = .ok (.aload_n 0, 1) := by decide +kernel
theorem d_Gr_subjects_6 : decode prog_3_method_18_code 6 = .ok (.getfield 15, 3) := by decide +kernel
theorem d_Gr_subjects_9 : decode prog_3_method_18_code 9 = .ok (.if_icmp .ge 23, 3) := by decide +kernel
theorem d_Gr_subjects_12 : decode prog_3_method_18_code 12 = .ok (.lload_n 1, 1) := by decide +kernel
theorem d_Gr_subjects_13 : decode prog_3_method_18_code 13 = .ok (.lconst 1, 1) := by decide +kernel
theorem d_Gr_subjects_14 : decode prog_3_method_18_code 14 = .ok (.aload_n 0, 1) := by decide +kernel
theorem d_Gr_subjects_15 : decode prog_3_method_18_code 15 = .ok (.getfield 9, 3) := by decide +kernel
theorem d_Gr_subjects_18 : decode prog_3_method_18_code 18 = .ok (.iload_n 3, 1) := by decide +kernel
theorem d_Gr_subjects_19 : decode prog_3_method_18_code 19 = .ok (.iaload, 1) := by decide +kernel
theorem d_Gr_subjects_20 : decode prog_3_method_18_code 20 = .ok (.invokestatic 44, 3) := by decide +kernel
theorem d_Gr_subjects_23 : decode prog_3_method_18_code 23 = .ok (.lshl, 1) := by decide +kernel
theorem d_Gr_subjects_24 : decode prog_3_method_18_code 24 = .ok (.lor, 1) := by decide +kernel
theorem d_Gr_subjects_25 : decode prog_3_method_18_code 25 = .ok (.lstore_n 1, 1) := by decide +kernel
theorem d_Gr_subjects_26 : decode prog_3_method_18_code 26 = .ok (.iinc 3 1, 3) := by decide +kernel
theorem d_Gr_subjects_29 : decode prog_3_method_18_code 29 = .ok (.goto (-25), 3) := by decide +kernel
theorem d_Gr_subjects_32 : decode prog_3_method_18_code 32 = .ok (.lload_n 1, 1) := by decide +kernel
theorem d_Gr_subjects_33 : decode prog_3_method_18_code 33 = .ok (.lreturn, 1) := by decide +kernel
def y_Gr_terms : MethodName := ⟨"MergeGraphs$Graph", "terms", "()J"⟩
abbrev M_Gr_terms : zM := (nR0, prog_3_method_19_code, 4, (some .long), 1)
set_option maxRecDepth 100000 in
theorem zk_Gr_terms : Cond.code y_Gr_terms (M_Gr_terms).2.1 (M_Gr_terms).2.2.1 (M_Gr_terms).2.2.2.1 ∈ zTg := zmem 328 rfl rfl
theorem zy_Gr_terms : (y_Gr_terms).cls ≠ "java/lang/invoke/MethodHandle" ∧ (y_Gr_terms).cls ≠ "java/lang/invoke/VarHandle" ∧ (parseMethodDescriptor (y_Gr_terms).desc).map (fun d => d.parameters.length) = some 0 := by decide +kernel
theorem d_Gr_terms_0 : decode prog_3_method_19_code 0 = .ok (.lconst 0, 1) := by decide +kernel
theorem d_Gr_terms_1 : decode prog_3_method_19_code 1 = .ok (.lstore_n 1, 1) := by decide +kernel
theorem d_Gr_terms_2 : decode prog_3_method_19_code 2 = .ok (.iconst 0, 1) := by decide +kernel
theorem d_Gr_terms_3 : decode prog_3_method_19_code 3 = .ok (.istore_n 3, 1) := by decide +kernel
theorem d_Gr_terms_4 : decode prog_3_method_19_code 4 = .ok (.iload_n 3, 1) := by decide +kernel
theorem d_Gr_terms_5 : decode prog_3_method_19_code 5 = .ok (.aload_n 0, 1) := by decide +kernel
theorem d_Gr_terms_6 : decode prog_3_method_19_code 6 = .ok (.getfield 15, 3) := by decide +kernel
theorem d_Gr_terms_9 : decode prog_3_method_19_code 9 = .ok (.if_icmp .ge 35, 3) := by decide +kernel
theorem d_Gr_terms_12 : decode prog_3_method_19_code 12 = .ok (.lload_n 1, 1) := by decide +kernel
theorem d_Gr_terms_13 : decode prog_3_method_19_code 13 = .ok (.lconst 1, 1) := by decide +kernel
theorem d_Gr_terms_14 : decode prog_3_method_19_code 14 = .ok (.aload_n 0, 1) := by decide +kernel
theorem d_Gr_terms_15 : decode prog_3_method_19_code 15 = .ok (.getfield 9, 3) := by decide +kernel
theorem d_Gr_terms_18 : decode prog_3_method_19_code 18 = .ok (.iload_n 3, 1) := by decide +kernel
theorem d_Gr_terms_19 : decode prog_3_method_19_code 19 = .ok (.iaload, 1) := by decide +kernel
theorem d_Gr_terms_20 : decode prog_3_method_19_code 20 = .ok (.invokestatic 44, 3) := by decide +kernel
theorem d_Gr_terms_23 : decode prog_3_method_19_code 23 = .ok (.lshl, 1) := by decide +kernel
theorem d_Gr_terms_24 : decode prog_3_method_19_code 24 = .ok (.lconst 1, 1) := by decide +kernel
theorem d_Gr_terms_25 : decode prog_3_method_19_code 25 = .ok (.aload_n 0, 1) := by decide +kernel
theorem d_Gr_terms_26 : decode prog_3_method_19_code 26 = .ok (.getfield 9, 3) := by decide +kernel
theorem d_Gr_terms_29 : decode prog_3_method_19_code 29 = .ok (.iload_n 3, 1) := by decide +kernel
theorem d_Gr_terms_30 : decode prog_3_method_19_code 30 = .ok (.iaload, 1) := by decide +kernel
theorem d_Gr_terms_31 : decode prog_3_method_19_code 31 = .ok (.invokestatic 47, 3) := by decide +kernel
theorem d_Gr_terms_34 : decode prog_3_method_19_code 34 = .ok (.lshl, 1) := by decide +kernel
theorem d_Gr_terms_35 : decode prog_3_method_19_code 35 = .ok (.lor, 1) := by decide +kernel
theorem d_Gr_terms_36 : decode prog_3_method_19_code 36 = .ok (.lor, 1) := by decide +kernel
theorem d_Gr_terms_37 : decode prog_3_method_19_code 37 = .ok (.lstore_n 1, 1) := by decide +kernel
theorem d_Gr_terms_38 : decode prog_3_method_19_code 38 = .ok (.iinc 3 1, 3) := by decide +kernel
theorem d_Gr_terms_41 : decode prog_3_method_19_code 41 = .ok (.goto (-37), 3) := by decide +kernel
theorem d_Gr_terms_44 : decode prog_3_method_19_code 44 = .ok (.lload_n 1, 1) := by decide +kernel
theorem d_Gr_terms_45 : decode prog_3_method_19_code 45 = .ok (.lreturn, 1) := by decide +kernel
def y_Gr_nodes : MethodName := ⟨"MergeGraphs$Graph", "nodes", "()J"⟩
abbrev M_Gr_nodes : zM := (nR0, prog_3_method_20_code, 1, (some .long), 2)
set_option maxRecDepth 100000 in
theorem zk_Gr_nodes : Cond.code y_Gr_nodes (M_Gr_nodes).2.1 (M_Gr_nodes).2.2.1 (M_Gr_nodes).2.2.2.1 ∈ zTg := zmem 324 rfl rfl
theorem zy_Gr_nodes : (y_Gr_nodes).cls ≠ "java/lang/invoke/MethodHandle" ∧ (y_Gr_nodes).cls ≠ "java/lang/invoke/VarHandle" ∧ (parseMethodDescriptor (y_Gr_nodes).desc).map (fun d => d.parameters.length) = some 0 := by decide +kernel
theorem d_Gr_nodes_0 : decode prog_3_method_20_code 0 = .ok (.aload_n 0, 1) := by decide +kernel
theorem d_Gr_nodes_1 : decode prog_3_method_20_code 1 = .ok (.invokevirtual 50, 3) := by decide +kernel
theorem d_Gr_nodes_4 : decode prog_3_method_20_code 4 = .ok (.ldc2_w 54, 3) := by decide +kernel
theorem d_Gr_nodes_7 : decode prog_3_method_20_code 7 = .ok (.land, 1) := by decide +kernel
theorem d_Gr_nodes_8 : decode prog_3_method_20_code 8 = .ok (.lreturn, 1) := by decide +kernel
theorem zt_325 : (Cond.methodLink "MergeGraphs$Graph" (50 : Nat) (⟨"MergeGraphs$Graph", "terms", "()J"⟩ : MethodName)) ∈ zTg := zmem 325 (by decide +kernel) (by decide +kernel)
theorem zt_326 : (Cond.instanceMethod (⟨"MergeGraphs$Graph", "terms", "()J"⟩ : MethodName)) ∈ zTg := zmem 326 (by decide +kernel) (by decide +kernel)
theorem zt_327 : (Cond.selects "MergeGraphs$Graph" (⟨"MergeGraphs$Graph", "terms", "()J"⟩ : MethodName) (⟨"MergeGraphs$Graph", "terms", "()J"⟩ : MethodName)) ∈ zTg := zmem 327 (by decide +kernel) (by decide +kernel)
theorem zt_335 : (Cond.constantLong "MergeGraphs$Graph" (54 : Nat) (69269232549888 : Int64)) ∈ zTg := zmem 335 (by decide +kernel) (by decide +kernel)
def y_Gr_termsMissing : MethodName := ⟨"MergeGraphs$Graph", "termsMissing", "(LMergeGraphs$Graph;)J"⟩
abbrev M_Gr_termsMissing : zM := (nR0, prog_3_method_21_code, 5, (some .long), 2)
set_option maxRecDepth 100000 in
theorem zk_Gr_termsMissing : Cond.code y_Gr_termsMissing (M_Gr_termsMissing).2.1 (M_Gr_termsMissing).2.2.1 (M_Gr_termsMissing).2.2.2.1 ∈ zTg := zmem 624 rfl rfl
theorem zy_Gr_termsMissing : (y_Gr_termsMissing).cls ≠ "java/lang/invoke/MethodHandle" ∧ (y_Gr_termsMissing).cls ≠ "java/lang/invoke/VarHandle" ∧ (parseMethodDescriptor (y_Gr_termsMissing).desc).map (fun d => d.parameters.length) = some 1 := by decide +kernel
theorem d_Gr_termsMissing_0 : decode prog_3_method_21_code 0 = .ok (.lconst 0, 1) := by decide +kernel
theorem d_Gr_termsMissing_1 : decode prog_3_method_21_code 1 = .ok (.lstore_n 2, 1) := by decide +kernel
theorem d_Gr_termsMissing_2 : decode prog_3_method_21_code 2 = .ok (.iconst 0, 1) := by decide +kernel
theorem d_Gr_termsMissing_3 : decode prog_3_method_21_code 3 = .ok (.istore 4, 2) := by decide +kernel
theorem d_Gr_termsMissing_5 : decode prog_3_method_21_code 5 = .ok (.iload 4, 2) := by decide +kernel
theorem d_Gr_termsMissing_7 : decode prog_3_method_21_code 7 = .ok (.aload_n 0, 1) := by decide +kernel
theorem d_Gr_termsMissing_8 : decode prog_3_method_21_code 8 = .ok (.getfield 15, 3) := by decide +kernel
theorem d_Gr_termsMissing_11 : decode prog_3_method_21_code 11 = .ok (.if_icmp .ge 51, 3) := by decide +kernel
theorem d_Gr_termsMissing_14 : decode prog_3_method_21_code 14 = .ok (.aload_n 1, 1) := by decide +kernel
theorem d_Gr_termsMissing_15 : decode prog_3_method_21_code 15 = .ok (.aload_n 0, 1) := by decide +kernel
theorem d_Gr_termsMissing_16 : decode prog_3_method_21_code 16 = .ok (.getfield 9, 3) := by decide +kernel
theorem d_Gr_termsMissing_19 : decode prog_3_method_21_code 19 = .ok (.iload 4, 2) := by decide +kernel
theorem d_Gr_termsMissing_21 : decode prog_3_method_21_code 21 = .ok (.iaload, 1) := by decide +kernel
theorem d_Gr_termsMissing_22 : decode prog_3_method_21_code 22 = .ok (.invokevirtual 30, 3) := by decide +kernel
theorem d_Gr_termsMissing_25 : decode prog_3_method_21_code 25 = .ok (.ifCond .ne 31, 3) := by decide +kernel
theorem d_Gr_termsMissing_28 : decode prog_3_method_21_code 28 = .ok (.lload_n 2, 1) := by decide +kernel
theorem d_Gr_termsMissing_29 : decode prog_3_method_21_code 29 = .ok (.lconst 1, 1) := by decide +kernel
theorem d_Gr_termsMissing_30 : decode prog_3_method_21_code 30 = .ok (.aload_n 0, 1) := by decide +kernel
theorem d_Gr_termsMissing_31 : decode prog_3_method_21_code 31 = .ok (.getfield 9, 3) := by decide +kernel
theorem d_Gr_termsMissing_34 : decode prog_3_method_21_code 34 = .ok (.iload 4, 2) := by decide +kernel
theorem d_Gr_termsMissing_36 : decode prog_3_method_21_code 36 = .ok (.iaload, 1) := by decide +kernel
theorem d_Gr_termsMissing_37 : decode prog_3_method_21_code 37 = .ok (.invokestatic 44, 3) := by decide +kernel
theorem d_Gr_termsMissing_40 : decode prog_3_method_21_code 40 = .ok (.lshl, 1) := by decide +kernel
theorem d_Gr_termsMissing_41 : decode prog_3_method_21_code 41 = .ok (.lconst 1, 1) := by decide +kernel
theorem d_Gr_termsMissing_42 : decode prog_3_method_21_code 42 = .ok (.aload_n 0, 1) := by decide +kernel
theorem d_Gr_termsMissing_43 : decode prog_3_method_21_code 43 = .ok (.getfield 9, 3) := by decide +kernel
theorem d_Gr_termsMissing_46 : decode prog_3_method_21_code 46 = .ok (.iload 4, 2) := by decide +kernel
theorem d_Gr_termsMissing_48 : decode prog_3_method_21_code 48 = .ok (.iaload, 1) := by decide +kernel
theorem d_Gr_termsMissing_49 : decode prog_3_method_21_code 49 = .ok (.invokestatic 47, 3) := by decide +kernel
theorem d_Gr_termsMissing_52 : decode prog_3_method_21_code 52 = .ok (.lshl, 1) := by decide +kernel
theorem d_Gr_termsMissing_53 : decode prog_3_method_21_code 53 = .ok (.lor, 1) := by decide +kernel
theorem d_Gr_termsMissing_54 : decode prog_3_method_21_code 54 = .ok (.lor, 1) := by decide +kernel
theorem d_Gr_termsMissing_55 : decode prog_3_method_21_code 55 = .ok (.lstore_n 2, 1) := by decide +kernel
theorem d_Gr_termsMissing_56 : decode prog_3_method_21_code 56 = .ok (.iinc 4 1, 3) := by decide +kernel
theorem d_Gr_termsMissing_59 : decode prog_3_method_21_code 59 = .ok (.goto (-54), 3) := by decide +kernel
theorem d_Gr_termsMissing_62 : decode prog_3_method_21_code 62 = .ok (.lload_n 2, 1) := by decide +kernel
theorem d_Gr_termsMissing_63 : decode prog_3_method_21_code 63 = .ok (.lreturn, 1) := by decide +kernel
def f_Lo_bitCount (G : Nat) (x0 : Int64) (h : pH) : Option pR := some (some (.int ((((((((((x0 - ((((x0).toUInt64 >>> (((1 : Int32)).toInt64.toUInt64 &&& Int64.toUInt64 63)).toInt64) &&& (6148914691236517205 : Int64))) &&& (3689348814741910323 : Int64)) + (((((x0 - ((((x0).toUInt64 >>> (((1 : Int32)).toInt64.toUInt64 &&& Int64.toUInt64 63)).toInt64) &&& (6148914691236517205 : Int64)))).toUInt64 >>> (((2 : Int32)).toInt64.toUInt64 &&& Int64.toUInt64 63)).toInt64) &&& (3689348814741910323 : Int64))) + ((((((x0 - ((((x0).toUInt64 >>> (((1 : Int32)).toInt64.toUInt64 &&& Int64.toUInt64 63)).toInt64) &&& (6148914691236517205 : Int64))) &&& (3689348814741910323 : Int64)) + (((((x0 - ((((x0).toUInt64 >>> (((1 : Int32)).toInt64.toUInt64 &&& Int64.toUInt64 63)).toInt64) &&& (6148914691236517205 : Int64)))).toUInt64 >>> (((2 : Int32)).toInt64.toUInt64 &&& Int64.toUInt64 63)).toInt64) &&& (3689348814741910323 : Int64)))).toUInt64 >>> (((4 : Int32)).toInt64.toUInt64 &&& Int64.toUInt64 63)).toInt64)) &&& (1085102592571150095 : Int64)) + ((((((((x0 - ((((x0).toUInt64 >>> (((1 : Int32)).toInt64.toUInt64 &&& Int64.toUInt64 63)).toInt64) &&& (6148914691236517205 : Int64))) &&& (3689348814741910323 : Int64)) + (((((x0 - ((((x0).toUInt64 >>> (((1 : Int32)).toInt64.toUInt64 &&& Int64.toUInt64 63)).toInt64) &&& (6148914691236517205 : Int64)))).toUInt64 >>> (((2 : Int32)).toInt64.toUInt64 &&& Int64.toUInt64 63)).toInt64) &&& (3689348814741910323 : Int64))) + ((((((x0 - ((((x0).toUInt64 >>> (((1 : Int32)).toInt64.toUInt64 &&& Int64.toUInt64 63)).toInt64) &&& (6148914691236517205 : Int64))) &&& (3689348814741910323 : Int64)) + (((((x0 - ((((x0).toUInt64 >>> (((1 : Int32)).toInt64.toUInt64 &&& Int64.toUInt64 63)).toInt64) &&& (6148914691236517205 : Int64)))).toUInt64 >>> (((2 : Int32)).toInt64.toUInt64 &&& Int64.toUInt64 63)).toInt64) &&& (3689348814741910323 : Int64)))).toUInt64 >>> (((4 : Int32)).toInt64.toUInt64 &&& Int64.toUInt64 63)).toInt64)) &&& (1085102592571150095 : Int64))).toUInt64 >>> (((8 : Int32)).toInt64.toUInt64 &&& Int64.toUInt64 63)).toInt64)) + (((((((((x0 - ((((x0).toUInt64 >>> (((1 : Int32)).toInt64.toUInt64 &&& Int64.toUInt64 63)).toInt64) &&& (6148914691236517205 : Int64))) &&& (3689348814741910323 : Int64)) + (((((x0 - ((((x0).toUInt64 >>> (((1 : Int32)).toInt64.toUInt64 &&& Int64.toUInt64 63)).toInt64) &&& (6148914691236517205 : Int64)))).toUInt64 >>> (((2 : Int32)).toInt64.toUInt64 &&& Int64.toUInt64 63)).toInt64) &&& (3689348814741910323 : Int64))) + ((((((x0 - ((((x0).toUInt64 >>> (((1 : Int32)).toInt64.toUInt64 &&& Int64.toUInt64 63)).toInt64) &&& (6148914691236517205 : Int64))) &&& (3689348814741910323 : Int64)) + (((((x0 - ((((x0).toUInt64 >>> (((1 : Int32)).toInt64.toUInt64 &&& Int64.toUInt64 63)).toInt64) &&& (6148914691236517205 : Int64)))).toUInt64 >>> (((2 : Int32)).toInt64.toUInt64 &&& Int64.toUInt64 63)).toInt64) &&& (3689348814741910323 : Int64)))).toUInt64 >>> (((4 : Int32)).toInt64.toUInt64 &&& Int64.toUInt64 63)).toInt64)) &&& (1085102592571150095 : Int64)) + ((((((((x0 - ((((x0).toUInt64 >>> (((1 : Int32)).toInt64.toUInt64 &&& Int64.toUInt64 63)).toInt64) &&& (6148914691236517205 : Int64))) &&& (3689348814741910323 : Int64)) + (((((x0 - ((((x0).toUInt64 >>> (((1 : Int32)).toInt64.toUInt64 &&& Int64.toUInt64 63)).toInt64) &&& (6148914691236517205 : Int64)))).toUInt64 >>> (((2 : Int32)).toInt64.toUInt64 &&& Int64.toUInt64 63)).toInt64) &&& (3689348814741910323 : Int64))) + ((((((x0 - ((((x0).toUInt64 >>> (((1 : Int32)).toInt64.toUInt64 &&& Int64.toUInt64 63)).toInt64) &&& (6148914691236517205 : Int64))) &&& (3689348814741910323 : Int64)) + (((((x0 - ((((x0).toUInt64 >>> (((1 : Int32)).toInt64.toUInt64 &&& Int64.toUInt64 63)).toInt64) &&& (6148914691236517205 : Int64)))).toUInt64 >>> (((2 : Int32)).toInt64.toUInt64 &&& Int64.toUInt64 63)).toInt64) &&& (3689348814741910323 : Int64)))).toUInt64 >>> (((4 : Int32)).toInt64.toUInt64 &&& Int64.toUInt64 63)).toInt64)) &&& (1085102592571150095 : Int64))).toUInt64 >>> (((8 : Int32)).toInt64.toUInt64 &&& Int64.toUInt64 63)).toInt64))).toUInt64 >>> (((16 : Int32)).toInt64.toUInt64 &&& Int64.toUInt64 63)).toInt64)) + ((((((((((x0 - ((((x0).toUInt64 >>> (((1 : Int32)).toInt64.toUInt64 &&& Int64.toUInt64 63)).toInt64) &&& (6148914691236517205 : Int64))) &&& (3689348814741910323 : Int64)) + (((((x0 - ((((x0).toUInt64 >>> (((1 : Int32)).toInt64.toUInt64 &&& Int64.toUInt64 63)).toInt64) &&& (6148914691236517205 : Int64)))).toUInt64 >>> (((2 : Int32)).toInt64.toUInt64 &&& Int64.toUInt64 63)).toInt64) &&& (3689348814741910323 : Int64))) + ((((((x0 - ((((x0).toUInt64 >>> (((1 : Int32)).toInt64.toUInt64 &&& Int64.toUInt64 63)).toInt64) &&& (6148914691236517205 : Int64))) &&& (3689348814741910323 : Int64)) + (((((x0 - ((((x0).toUInt64 >>> (((1 : Int32)).toInt64.toUInt64 &&& Int64.toUInt64 63)).toInt64) &&& (6148914691236517205 : Int64)))).toUInt64 >>> (((2 : Int32)).toInt64.toUInt64 &&& Int64.toUInt64 63)).toInt64) &&& (3689348814741910323 : Int64)))).toUInt64 >>> (((4 : Int32)).toInt64.toUInt64 &&& Int64.toUInt64 63)).toInt64)) &&& (1085102592571150095 : Int64)) + ((((((((x0 - ((((x0).toUInt64 >>> (((1 : Int32)).toInt64.toUInt64 &&& Int64.toUInt64 63)).toInt64) &&& (6148914691236517205 : Int64))) &&& (3689348814741910323 : Int64)) + (((((x0 - ((((x0).toUInt64 >>> (((1 : Int32)).toInt64.toUInt64 &&& Int64.toUInt64 63)).toInt64) &&& (6148914691236517205 : Int64)))).toUInt64 >>> (((2 : Int32)).toInt64.toUInt64 &&& Int64.toUInt64 63)).toInt64) &&& (3689348814741910323 : Int64))) + ((((((x0 - ((((x0).toUInt64 >>> (((1 : Int32)).toInt64.toUInt64 &&& Int64.toUInt64 63)).toInt64) &&& (6148914691236517205 : Int64))) &&& (3689348814741910323 : Int64)) + (((((x0 - ((((x0).toUInt64 >>> (((1 : Int32)).toInt64.toUInt64 &&& Int64.toUInt64 63)).toInt64) &&& (6148914691236517205 : Int64)))).toUInt64 >>> (((2 : Int32)).toInt64.toUInt64 &&& Int64.toUInt64 63)).toInt64) &&& (3689348814741910323 : Int64)))).toUInt64 >>> (((4 : Int32)).toInt64.toUInt64 &&& Int64.toUInt64 63)).toInt64)) &&& (1085102592571150095 : Int64))).toUInt64 >>> (((8 : Int32)).toInt64.toUInt64 &&& Int64.toUInt64 63)).toInt64)) + (((((((((x0 - ((((x0).toUInt64 >>> (((1 : Int32)).toInt64.toUInt64 &&& Int64.toUInt64 63)).toInt64) &&& (6148914691236517205 : Int64))) &&& (3689348814741910323 : Int64)) + (((((x0 - ((((x0).toUInt64 >>> (((1 : Int32)).toInt64.toUInt64 &&& Int64.toUInt64 63)).toInt64) &&& (6148914691236517205 : Int64)))).toUInt64 >>> (((2 : Int32)).toInt64.toUInt64 &&& Int64.toUInt64 63)).toInt64) &&& (3689348814741910323 : Int64))) + ((((((x0 - ((((x0).toUInt64 >>> (((1 : Int32)).toInt64.toUInt64 &&& Int64.toUInt64 63)).toInt64) &&& (6148914691236517205 : Int64))) &&& (3689348814741910323 : Int64)) + (((((x0 - ((((x0).toUInt64 >>> (((1 : Int32)).toInt64.toUInt64 &&& Int64.toUInt64 63)).toInt64) &&& (6148914691236517205 : Int64)))).toUInt64 >>> (((2 : Int32)).toInt64.toUInt64 &&& Int64.toUInt64 63)).toInt64) &&& (3689348814741910323 : Int64)))).toUInt64 >>> (((4 : Int32)).toInt64.toUInt64 &&& Int64.toUInt64 63)).toInt64)) &&& (1085102592571150095 : Int64)) + ((((((((x0 - ((((x0).toUInt64 >>> (((1 : Int32)).toInt64.toUInt64 &&& Int64.toUInt64 63)).toInt64) &&& (6148914691236517205 : Int64))) &&& (3689348814741910323 : Int64)) + (((((x0 - ((((x0).toUInt64 >>> (((1 : Int32)).toInt64.toUInt64 &&& Int64.toUInt64 63)).toInt64) &&& (6148914691236517205 : Int64)))).toUInt64 >>> (((2 : Int32)).toInt64.toUInt64 &&& Int64.toUInt64 63)).toInt64) &&& (3689348814741910323 : Int64))) + ((((((x0 - ((((x0).toUInt64 >>> (((1 : Int32)).toInt64.toUInt64 &&& Int64.toUInt64 63)).toInt64) &&& (6148914691236517205 : Int64))) &&& (3689348814741910323 : Int64)) + (((((x0 - ((((x0).toUInt64 >>> (((1 : Int32)).toInt64.toUInt64 &&& Int64.toUInt64 63)).toInt64) &&& (6148914691236517205 : Int64)))).toUInt64 >>> (((2 : Int32)).toInt64.toUInt64 &&& Int64.toUInt64 63)).toInt64) &&& (3689348814741910323 : Int64)))).toUInt64 >>> (((4 : Int32)).toInt64.toUInt64 &&& Int64.toUInt64 63)).toInt64)) &&& (1085102592571150095 : Int64))).toUInt64 >>> (((8 : Int32)).toInt64.toUInt64 &&& Int64.toUInt64 63)).toInt64))).toUInt64 >>> (((16 : Int32)).toInt64.toUInt64 &&& Int64.toUInt64 63)).toInt64))).toUInt64 >>> (((32 : Int32)).toInt64.toUInt64 &&& Int64.toUInt64 63)).toInt64))).toInt32 &&& (127 : Int32))), h)
theorem f_Lo_bitCount_eq (G : Nat) (x0 : Int64) (h : pH) : f_Lo_bitCount G x0 h = (some (some (.int ((((((((((x0 - ((((x0).toUInt64 >>> (((1 : Int32)).toInt64.toUInt64 &&& Int64.toUInt64 63)).toInt64) &&& (6148914691236517205 : Int64))) &&& (3689348814741910323 : Int64)) + (((((x0 - ((((x0).toUInt64 >>> (((1 : Int32)).toInt64.toUInt64 &&& Int64.toUInt64 63)).toInt64) &&& (6148914691236517205 : Int64)))).toUInt64 >>> (((2 : Int32)).toInt64.toUInt64 &&& Int64.toUInt64 63)).toInt64) &&& (3689348814741910323 : Int64))) + ((((((x0 - ((((x0).toUInt64 >>> (((1 : Int32)).toInt64.toUInt64 &&& Int64.toUInt64 63)).toInt64) &&& (6148914691236517205 : Int64))) &&& (3689348814741910323 : Int64)) + (((((x0 - ((((x0).toUInt64 >>> (((1 : Int32)).toInt64.toUInt64 &&& Int64.toUInt64 63)).toInt64) &&& (6148914691236517205 : Int64)))).toUInt64 >>> (((2 : Int32)).toInt64.toUInt64 &&& Int64.toUInt64 63)).toInt64) &&& (3689348814741910323 : Int64)))).toUInt64 >>> (((4 : Int32)).toInt64.toUInt64 &&& Int64.toUInt64 63)).toInt64)) &&& (1085102592571150095 : Int64)) + ((((((((x0 - ((((x0).toUInt64 >>> (((1 : Int32)).toInt64.toUInt64 &&& Int64.toUInt64 63)).toInt64) &&& (6148914691236517205 : Int64))) &&& (3689348814741910323 : Int64)) + (((((x0 - ((((x0).toUInt64 >>> (((1 : Int32)).toInt64.toUInt64 &&& Int64.toUInt64 63)).toInt64) &&& (6148914691236517205 : Int64)))).toUInt64 >>> (((2 : Int32)).toInt64.toUInt64 &&& Int64.toUInt64 63)).toInt64) &&& (3689348814741910323 : Int64))) + ((((((x0 - ((((x0).toUInt64 >>> (((1 : Int32)).toInt64.toUInt64 &&& Int64.toUInt64 63)).toInt64) &&& (6148914691236517205 : Int64))) &&& (3689348814741910323 : Int64)) + (((((x0 - ((((x0).toUInt64 >>> (((1 : Int32)).toInt64.toUInt64 &&& Int64.toUInt64 63)).toInt64) &&& (6148914691236517205 : Int64)))).toUInt64 >>> (((2 : Int32)).toInt64.toUInt64 &&& Int64.toUInt64 63)).toInt64) &&& (3689348814741910323 : Int64)))).toUInt64 >>> (((4 : Int32)).toInt64.toUInt64 &&& Int64.toUInt64 63)).toInt64)) &&& (1085102592571150095 : Int64))).toUInt64 >>> (((8 : Int32)).toInt64.toUInt64 &&& Int64.toUInt64 63)).toInt64)) + (((((((((x0 - ((((x0).toUInt64 >>> (((1 : Int32)).toInt64.toUInt64 &&& Int64.toUInt64 63)).toInt64) &&& (6148914691236517205 : Int64))) &&& (3689348814741910323 : Int64)) + (((((x0 - ((((x0).toUInt64 >>> (((1 : Int32)).toInt64.toUInt64 &&& Int64.toUInt64 63)).toInt64) &&& (6148914691236517205 : Int64)))).toUInt64 >>> (((2 : Int32)).toInt64.toUInt64 &&& Int64.toUInt64 63)).toInt64) &&& (3689348814741910323 : Int64))) + ((((((x0 - ((((x0).toUInt64 >>> (((1 : Int32)).toInt64.toUInt64 &&& Int64.toUInt64 63)).toInt64) &&& (6148914691236517205 : Int64))) &&& (3689348814741910323 : Int64)) + (((((x0 - ((((x0).toUInt64 >>> (((1 : Int32)).toInt64.toUInt64 &&& Int64.toUInt64 63)).toInt64) &&& (6148914691236517205 : Int64)))).toUInt64 >>> (((2 : Int32)).toInt64.toUInt64 &&& Int64.toUInt64 63)).toInt64) &&& (3689348814741910323 : Int64)))).toUInt64 >>> (((4 : Int32)).toInt64.toUInt64 &&& Int64.toUInt64 63)).toInt64)) &&& (1085102592571150095 : Int64)) + ((((((((x0 - ((((x0).toUInt64 >>> (((1 : Int32)).toInt64.toUInt64 &&& Int64.toUInt64 63)).toInt64) &&& (6148914691236517205 : Int64))) &&& (3689348814741910323 : Int64)) + (((((x0 - ((((x0).toUInt64 >>> (((1 : Int32)).toInt64.toUInt64 &&& Int64.toUInt64 63)).toInt64) &&& (6148914691236517205 : Int64)))).toUInt64 >>> (((2 : Int32)).toInt64.toUInt64 &&& Int64.toUInt64 63)).toInt64) &&& (3689348814741910323 : Int64))) + ((((((x0 - ((((x0).toUInt64 >>> (((1 : Int32)).toInt64.toUInt64 &&& Int64.toUInt64 63)).toInt64) &&& (6148914691236517205 : Int64))) &&& (3689348814741910323 : Int64)) + (((((x0 - ((((x0).toUInt64 >>> (((1 : Int32)).toInt64.toUInt64 &&& Int64.toUInt64 63)).toInt64) &&& (6148914691236517205 : Int64)))).toUInt64 >>> (((2 : Int32)).toInt64.toUInt64 &&& Int64.toUInt64 63)).toInt64) &&& (3689348814741910323 : Int64)))).toUInt64 >>> (((4 : Int32)).toInt64.toUInt64 &&& Int64.toUInt64 63)).toInt64)) &&& (1085102592571150095 : Int64))).toUInt64 >>> (((8 : Int32)).toInt64.toUInt64 &&& Int64.toUInt64 63)).toInt64))).toUInt64 >>> (((16 : Int32)).toInt64.toUInt64 &&& Int64.toUInt64 63)).toInt64)) + ((((((((((x0 - ((((x0).toUInt64 >>> (((1 : Int32)).toInt64.toUInt64 &&& Int64.toUInt64 63)).toInt64) &&& (6148914691236517205 : Int64))) &&& (3689348814741910323 : Int64)) + (((((x0 - ((((x0).toUInt64 >>> (((1 : Int32)).toInt64.toUInt64 &&& Int64.toUInt64 63)).toInt64) &&& (6148914691236517205 : Int64)))).toUInt64 >>> (((2 : Int32)).toInt64.toUInt64 &&& Int64.toUInt64 63)).toInt64) &&& (3689348814741910323 : Int64))) + ((((((x0 - ((((x0).toUInt64 >>> (((1 : Int32)).toInt64.toUInt64 &&& Int64.toUInt64 63)).toInt64) &&& (6148914691236517205 : Int64))) &&& (3689348814741910323 : Int64)) + (((((x0 - ((((x0).toUInt64 >>> (((1 : Int32)).toInt64.toUInt64 &&& Int64.toUInt64 63)).toInt64) &&& (6148914691236517205 : Int64)))).toUInt64 >>> (((2 : Int32)).toInt64.toUInt64 &&& Int64.toUInt64 63)).toInt64) &&& (3689348814741910323 : Int64)))).toUInt64 >>> (((4 : Int32)).toInt64.toUInt64 &&& Int64.toUInt64 63)).toInt64)) &&& (1085102592571150095 : Int64)) + ((((((((x0 - ((((x0).toUInt64 >>> (((1 : Int32)).toInt64.toUInt64 &&& Int64.toUInt64 63)).toInt64) &&& (6148914691236517205 : Int64))) &&& (3689348814741910323 : Int64)) + (((((x0 - ((((x0).toUInt64 >>> (((1 : Int32)).toInt64.toUInt64 &&& Int64.toUInt64 63)).toInt64) &&& (6148914691236517205 : Int64)))).toUInt64 >>> (((2 : Int32)).toInt64.toUInt64 &&& Int64.toUInt64 63)).toInt64) &&& (3689348814741910323 : Int64))) + ((((((x0 - ((((x0).toUInt64 >>> (((1 : Int32)).toInt64.toUInt64 &&& Int64.toUInt64 63)).toInt64) &&& (6148914691236517205 : Int64))) &&& (3689348814741910323 : Int64)) + (((((x0 - ((((x0).toUInt64 >>> (((1 : Int32)).toInt64.toUInt64 &&& Int64.toUInt64 63)).toInt64) &&& (6148914691236517205 : Int64)))).toUInt64 >>> (((2 : Int32)).toInt64.toUInt64 &&& Int64.toUInt64 63)).toInt64) &&& (3689348814741910323 : Int64)))).toUInt64 >>> (((4 : Int32)).toInt64.toUInt64 &&& Int64.toUInt64 63)).toInt64)) &&& (1085102592571150095 : Int64))).toUInt64 >>> (((8 : Int32)).toInt64.toUInt64 &&& Int64.toUInt64 63)).toInt64)) + (((((((((x0 - ((((x0).toUInt64 >>> (((1 : Int32)).toInt64.toUInt64 &&& Int64.toUInt64 63)).toInt64) &&& (6148914691236517205 : Int64))) &&& (3689348814741910323 : Int64)) + (((((x0 - ((((x0).toUInt64 >>> (((1 : Int32)).toInt64.toUInt64 &&& Int64.toUInt64 63)).toInt64) &&& (6148914691236517205 : Int64)))).toUInt64 >>> (((2 : Int32)).toInt64.toUInt64 &&& Int64.toUInt64 63)).toInt64) &&& (3689348814741910323 : Int64))) + ((((((x0 - ((((x0).toUInt64 >>> (((1 : Int32)).toInt64.toUInt64 &&& Int64.toUInt64 63)).toInt64) &&& (6148914691236517205 : Int64))) &&& (3689348814741910323 : Int64)) + (((((x0 - ((((x0).toUInt64 >>> (((1 : Int32)).toInt64.toUInt64 &&& Int64.toUInt64 63)).toInt64) &&& (6148914691236517205 : Int64)))).toUInt64 >>> (((2 : Int32)).toInt64.toUInt64 &&& Int64.toUInt64 63)).toInt64) &&& (3689348814741910323 : Int64)))).toUInt64 >>> (((4 : Int32)).toInt64.toUInt64 &&& Int64.toUInt64 63)).toInt64)) &&& (1085102592571150095 : Int64)) + ((((((((x0 - ((((x0).toUInt64 >>> (((1 : Int32)).toInt64.toUInt64 &&& Int64.toUInt64 63)).toInt64) &&& (6148914691236517205 : Int64))) &&& (3689348814741910323 : Int64)) + (((((x0 - ((((x0).toUInt64 >>> (((1 : Int32)).toInt64.toUInt64 &&& Int64.toUInt64 63)).toInt64) &&& (6148914691236517205 : Int64)))).toUInt64 >>> (((2 : Int32)).toInt64.toUInt64 &&& Int64.toUInt64 63)).toInt64) &&& (3689348814741910323 : Int64))) + ((((((x0 - ((((x0).toUInt64 >>> (((1 : Int32)).toInt64.toUInt64 &&& Int64.toUInt64 63)).toInt64) &&& (6148914691236517205 : Int64))) &&& (3689348814741910323 : Int64)) + (((((x0 - ((((x0).toUInt64 >>> (((1 : Int32)).toInt64.toUInt64 &&& Int64.toUInt64 63)).toInt64) &&& (6148914691236517205 : Int64)))).toUInt64 >>> (((2 : Int32)).toInt64.toUInt64 &&& Int64.toUInt64 63)).toInt64) &&& (3689348814741910323 : Int64)))).toUInt64 >>> (((4 : Int32)).toInt64.toUInt64 &&& Int64.toUInt64 63)).toInt64)) &&& (1085102592571150095 : Int64))).toUInt64 >>> (((8 : Int32)).toInt64.toUInt64 &&& Int64.toUInt64 63)).toInt64))).toUInt64 >>> (((16 : Int32)).toInt64.toUInt64 &&& Int64.toUInt64 63)).toInt64))).toUInt64 >>> (((32 : Int32)).toInt64.toUInt64 &&& Int64.toUInt64 63)).toInt64))).toInt32 &&& (127 : Int32))), h)) := rfl
set_option maxRecDepth 100000 in
set_option maxHeartbeats 4000000 in
theorem w_Lo_bitCount_b0 {X : zX} {r : pR} {G : Nat} (hQ : zQ X r) : ∀ (x0 : Int64) (h : pH), f_Lo_bitCount G x0 h = some r → Z X M_Lo_bitCount 0 0 h 0 [(0, .long x0)] [] := by
  intro x0 h E
  rw [f_Lo_bitCount_eq] at E
  refine z_lload_n 0 d_Lo_bitCount_0 rfl rfl ?_
  refine z_lload_n 0 d_Lo_bitCount_1 rfl rfl ?_
  refine z_iconst (v := (1 : Int32)) d_Lo_bitCount_2 (by decide) ?_
  refine z_lushr d_Lo_bitCount_3 ?_
  refine z_ldc2 (v := (6148914691236517205 : Int64)) d_Lo_bitCount_4 zt_339 ?_
  refine z_land d_Lo_bitCount_7 ?_
  refine z_lsub d_Lo_bitCount_8 ?_
  refine z_lstore_n (lv2 := [(0, .long (x0 - ((((x0).toUInt64 >>> (((1 : Int32)).toInt64.toUInt64 &&& Int64.toUInt64 63)).toInt64) &&& (6148914691236517205 : Int64))))]) d_Lo_bitCount_9 rfl (Nat.le_of_ble_eq_true rfl) rfl ?_
  refine z_lload_n 0 d_Lo_bitCount_10 rfl rfl ?_
  refine z_ldc2 (v := (3689348814741910323 : Int64)) d_Lo_bitCount_11 zt_340 ?_
  refine z_land d_Lo_bitCount_14 ?_
  refine z_lload_n 0 d_Lo_bitCount_15 rfl rfl ?_
  refine z_iconst (v := (2 : Int32)) d_Lo_bitCount_16 (by decide) ?_
  refine z_lushr d_Lo_bitCount_17 ?_
  refine z_ldc2 (v := (3689348814741910323 : Int64)) d_Lo_bitCount_18 zt_340 ?_
  refine z_land d_Lo_bitCount_21 ?_
  refine z_ladd d_Lo_bitCount_22 ?_
  refine z_lstore_n (lv2 := [(0, .long (((x0 - ((((x0).toUInt64 >>> (((1 : Int32)).toInt64.toUInt64 &&& Int64.toUInt64 63)).toInt64) &&& (6148914691236517205 : Int64))) &&& (3689348814741910323 : Int64)) + (((((x0 - ((((x0).toUInt64 >>> (((1 : Int32)).toInt64.toUInt64 &&& Int64.toUInt64 63)).toInt64) &&& (6148914691236517205 : Int64)))).toUInt64 >>> (((2 : Int32)).toInt64.toUInt64 &&& Int64.toUInt64 63)).toInt64) &&& (3689348814741910323 : Int64))))]) d_Lo_bitCount_23 rfl (Nat.le_of_ble_eq_true rfl) rfl ?_
  refine z_lload_n 0 d_Lo_bitCount_24 rfl rfl ?_
  refine z_lload_n 0 d_Lo_bitCount_25 rfl rfl ?_
  refine z_iconst (v := (4 : Int32)) d_Lo_bitCount_26 (by decide) ?_
  refine z_lushr d_Lo_bitCount_27 ?_
  refine z_ladd d_Lo_bitCount_28 ?_
  refine z_ldc2 (v := (1085102592571150095 : Int64)) d_Lo_bitCount_29 zt_341 ?_
  refine z_land d_Lo_bitCount_32 ?_
  refine z_lstore_n (lv2 := [(0, .long (((((x0 - ((((x0).toUInt64 >>> (((1 : Int32)).toInt64.toUInt64 &&& Int64.toUInt64 63)).toInt64) &&& (6148914691236517205 : Int64))) &&& (3689348814741910323 : Int64)) + (((((x0 - ((((x0).toUInt64 >>> (((1 : Int32)).toInt64.toUInt64 &&& Int64.toUInt64 63)).toInt64) &&& (6148914691236517205 : Int64)))).toUInt64 >>> (((2 : Int32)).toInt64.toUInt64 &&& Int64.toUInt64 63)).toInt64) &&& (3689348814741910323 : Int64))) + ((((((x0 - ((((x0).toUInt64 >>> (((1 : Int32)).toInt64.toUInt64 &&& Int64.toUInt64 63)).toInt64) &&& (6148914691236517205 : Int64))) &&& (3689348814741910323 : Int64)) + (((((x0 - ((((x0).toUInt64 >>> (((1 : Int32)).toInt64.toUInt64 &&& Int64.toUInt64 63)).toInt64) &&& (6148914691236517205 : Int64)))).toUInt64 >>> (((2 : Int32)).toInt64.toUInt64 &&& Int64.toUInt64 63)).toInt64) &&& (3689348814741910323 : Int64)))).toUInt64 >>> (((4 : Int32)).toInt64.toUInt64 &&& Int64.toUInt64 63)).toInt64)) &&& (1085102592571150095 : Int64)))]) d_Lo_bitCount_33 rfl (Nat.le_of_ble_eq_true rfl) rfl ?_
  refine z_lload_n 0 d_Lo_bitCount_34 rfl rfl ?_
  refine z_lload_n 0 d_Lo_bitCount_35 rfl rfl ?_
  refine z_bipush (v := (8 : Int32)) d_Lo_bitCount_36 (by decide) ?_
  refine z_lushr d_Lo_bitCount_38 ?_
  refine z_ladd d_Lo_bitCount_39 ?_
  refine z_lstore_n (lv2 := [(0, .long ((((((x0 - ((((x0).toUInt64 >>> (((1 : Int32)).toInt64.toUInt64 &&& Int64.toUInt64 63)).toInt64) &&& (6148914691236517205 : Int64))) &&& (3689348814741910323 : Int64)) + (((((x0 - ((((x0).toUInt64 >>> (((1 : Int32)).toInt64.toUInt64 &&& Int64.toUInt64 63)).toInt64) &&& (6148914691236517205 : Int64)))).toUInt64 >>> (((2 : Int32)).toInt64.toUInt64 &&& Int64.toUInt64 63)).toInt64) &&& (3689348814741910323 : Int64))) + ((((((x0 - ((((x0).toUInt64 >>> (((1 : Int32)).toInt64.toUInt64 &&& Int64.toUInt64 63)).toInt64) &&& (6148914691236517205 : Int64))) &&& (3689348814741910323 : Int64)) + (((((x0 - ((((x0).toUInt64 >>> (((1 : Int32)).toInt64.toUInt64 &&& Int64.toUInt64 63)).toInt64) &&& (6148914691236517205 : Int64)))).toUInt64 >>> (((2 : Int32)).toInt64.toUInt64 &&& Int64.toUInt64 63)).toInt64) &&& (3689348814741910323 : Int64)))).toUInt64 >>> (((4 : Int32)).toInt64.toUInt64 &&& Int64.toUInt64 63)).toInt64)) &&& (1085102592571150095 : Int64)) + ((((((((x0 - ((((x0).toUInt64 >>> (((1 : Int32)).toInt64.toUInt64 &&& Int64.toUInt64 63)).toInt64) &&& (6148914691236517205 : Int64))) &&& (3689348814741910323 : Int64)) + (((((x0 - ((((x0).toUInt64 >>> (((1 : Int32)).toInt64.toUInt64 &&& Int64.toUInt64 63)).toInt64) &&& (6148914691236517205 : Int64)))).toUInt64 >>> (((2 : Int32)).toInt64.toUInt64 &&& Int64.toUInt64 63)).toInt64) &&& (3689348814741910323 : Int64))) + ((((((x0 - ((((x0).toUInt64 >>> (((1 : Int32)).toInt64.toUInt64 &&& Int64.toUInt64 63)).toInt64) &&& (6148914691236517205 : Int64))) &&& (3689348814741910323 : Int64)) + (((((x0 - ((((x0).toUInt64 >>> (((1 : Int32)).toInt64.toUInt64 &&& Int64.toUInt64 63)).toInt64) &&& (6148914691236517205 : Int64)))).toUInt64 >>> (((2 : Int32)).toInt64.toUInt64 &&& Int64.toUInt64 63)).toInt64) &&& (3689348814741910323 : Int64)))).toUInt64 >>> (((4 : Int32)).toInt64.toUInt64 &&& Int64.toUInt64 63)).toInt64)) &&& (1085102592571150095 : Int64))).toUInt64 >>> (((8 : Int32)).toInt64.toUInt64 &&& Int64.toUInt64 63)).toInt64)))]) d_Lo_bitCount_40 rfl (Nat.le_of_ble_eq_true rfl) rfl ?_
  refine z_lload_n 0 d_Lo_bitCount_41 rfl rfl ?_
  refine z_lload_n 0 d_Lo_bitCount_42 rfl rfl ?_
  refine z_bipush (v := (16 : Int32)) d_Lo_bitCount_43 (by decide) ?_
  refine z_lushr d_Lo_bitCount_45 ?_
  refine z_ladd d_Lo_bitCount_46 ?_
  refine z_lstore_n (lv2 := [(0, .long (((((((x0 - ((((x0).toUInt64 >>> (((1 : Int32)).toInt64.toUInt64 &&& Int64.toUInt64 63)).toInt64) &&& (6148914691236517205 : Int64))) &&& (3689348814741910323 : Int64)) + (((((x0 - ((((x0).toUInt64 >>> (((1 : Int32)).toInt64.toUInt64 &&& Int64.toUInt64 63)).toInt64) &&& (6148914691236517205 : Int64)))).toUInt64 >>> (((2 : Int32)).toInt64.toUInt64 &&& Int64.toUInt64 63)).toInt64) &&& (3689348814741910323 : Int64))) + ((((((x0 - ((((x0).toUInt64 >>> (((1 : Int32)).toInt64.toUInt64 &&& Int64.toUInt64 63)).toInt64) &&& (6148914691236517205 : Int64))) &&& (3689348814741910323 : Int64)) + (((((x0 - ((((x0).toUInt64 >>> (((1 : Int32)).toInt64.toUInt64 &&& Int64.toUInt64 63)).toInt64) &&& (6148914691236517205 : Int64)))).toUInt64 >>> (((2 : Int32)).toInt64.toUInt64 &&& Int64.toUInt64 63)).toInt64) &&& (3689348814741910323 : Int64)))).toUInt64 >>> (((4 : Int32)).toInt64.toUInt64 &&& Int64.toUInt64 63)).toInt64)) &&& (1085102592571150095 : Int64)) + ((((((((x0 - ((((x0).toUInt64 >>> (((1 : Int32)).toInt64.toUInt64 &&& Int64.toUInt64 63)).toInt64) &&& (6148914691236517205 : Int64))) &&& (3689348814741910323 : Int64)) + (((((x0 - ((((x0).toUInt64 >>> (((1 : Int32)).toInt64.toUInt64 &&& Int64.toUInt64 63)).toInt64) &&& (6148914691236517205 : Int64)))).toUInt64 >>> (((2 : Int32)).toInt64.toUInt64 &&& Int64.toUInt64 63)).toInt64) &&& (3689348814741910323 : Int64))) + ((((((x0 - ((((x0).toUInt64 >>> (((1 : Int32)).toInt64.toUInt64 &&& Int64.toUInt64 63)).toInt64) &&& (6148914691236517205 : Int64))) &&& (3689348814741910323 : Int64)) + (((((x0 - ((((x0).toUInt64 >>> (((1 : Int32)).toInt64.toUInt64 &&& Int64.toUInt64 63)).toInt64) &&& (6148914691236517205 : Int64)))).toUInt64 >>> (((2 : Int32)).toInt64.toUInt64 &&& Int64.toUInt64 63)).toInt64) &&& (3689348814741910323 : Int64)))).toUInt64 >>> (((4 : Int32)).toInt64.toUInt64 &&& Int64.toUInt64 63)).toInt64)) &&& (1085102592571150095 : Int64))).toUInt64 >>> (((8 : Int32)).toInt64.toUInt64 &&& Int64.toUInt64 63)).toInt64)) + (((((((((x0 - ((((x0).toUInt64 >>> (((1 : Int32)).toInt64.toUInt64 &&& Int64.toUInt64 63)).toInt64) &&& (6148914691236517205 : Int64))) &&& (3689348814741910323 : Int64)) + (((((x0 - ((((x0).toUInt64 >>> (((1 : Int32)).toInt64.toUInt64 &&& Int64.toUInt64 63)).toInt64) &&& (6148914691236517205 : Int64)))).toUInt64 >>> (((2 : Int32)).toInt64.toUInt64 &&& Int64.toUInt64 63)).toInt64) &&& (3689348814741910323 : Int64))) + ((((((x0 - ((((x0).toUInt64 >>> (((1 : Int32)).toInt64.toUInt64 &&& Int64.toUInt64 63)).toInt64) &&& (6148914691236517205 : Int64))) &&& (3689348814741910323 : Int64)) + (((((x0 - ((((x0).toUInt64 >>> (((1 : Int32)).toInt64.toUInt64 &&& Int64.toUInt64 63)).toInt64) &&& (6148914691236517205 : Int64)))).toUInt64 >>> (((2 : Int32)).toInt64.toUInt64 &&& Int64.toUInt64 63)).toInt64) &&& (3689348814741910323 : Int64)))).toUInt64 >>> (((4 : Int32)).toInt64.toUInt64 &&& Int64.toUInt64 63)).toInt64)) &&& (1085102592571150095 : Int64)) + ((((((((x0 - ((((x0).toUInt64 >>> (((1 : Int32)).toInt64.toUInt64 &&& Int64.toUInt64 63)).toInt64) &&& (6148914691236517205 : Int64))) &&& (3689348814741910323 : Int64)) + (((((x0 - ((((x0).toUInt64 >>> (((1 : Int32)).toInt64.toUInt64 &&& Int64.toUInt64 63)).toInt64) &&& (6148914691236517205 : Int64)))).toUInt64 >>> (((2 : Int32)).toInt64.toUInt64 &&& Int64.toUInt64 63)).toInt64) &&& (3689348814741910323 : Int64))) + ((((((x0 - ((((x0).toUInt64 >>> (((1 : Int32)).toInt64.toUInt64 &&& Int64.toUInt64 63)).toInt64) &&& (6148914691236517205 : Int64))) &&& (3689348814741910323 : Int64)) + (((((x0 - ((((x0).toUInt64 >>> (((1 : Int32)).toInt64.toUInt64 &&& Int64.toUInt64 63)).toInt64) &&& (6148914691236517205 : Int64)))).toUInt64 >>> (((2 : Int32)).toInt64.toUInt64 &&& Int64.toUInt64 63)).toInt64) &&& (3689348814741910323 : Int64)))).toUInt64 >>> (((4 : Int32)).toInt64.toUInt64 &&& Int64.toUInt64 63)).toInt64)) &&& (1085102592571150095 : Int64))).toUInt64 >>> (((8 : Int32)).toInt64.toUInt64 &&& Int64.toUInt64 63)).toInt64))).toUInt64 >>> (((16 : Int32)).toInt64.toUInt64 &&& Int64.toUInt64 63)).toInt64)))]) d_Lo_bitCount_47 rfl (Nat.le_of_ble_eq_true rfl) rfl ?_
  refine z_lload_n 0 d_Lo_bitCount_48 rfl rfl ?_
  refine z_lload_n 0 d_Lo_bitCount_49 rfl rfl ?_
  refine z_bipush (v := (32 : Int32)) d_Lo_bitCount_50 (by decide) ?_
  refine z_lushr d_Lo_bitCount_52 ?_
  refine z_ladd d_Lo_bitCount_53 ?_
  refine z_lstore_n (lv2 := [(0, .long ((((((((x0 - ((((x0).toUInt64 >>> (((1 : Int32)).toInt64.toUInt64 &&& Int64.toUInt64 63)).toInt64) &&& (6148914691236517205 : Int64))) &&& (3689348814741910323 : Int64)) + (((((x0 - ((((x0).toUInt64 >>> (((1 : Int32)).toInt64.toUInt64 &&& Int64.toUInt64 63)).toInt64) &&& (6148914691236517205 : Int64)))).toUInt64 >>> (((2 : Int32)).toInt64.toUInt64 &&& Int64.toUInt64 63)).toInt64) &&& (3689348814741910323 : Int64))) + ((((((x0 - ((((x0).toUInt64 >>> (((1 : Int32)).toInt64.toUInt64 &&& Int64.toUInt64 63)).toInt64) &&& (6148914691236517205 : Int64))) &&& (3689348814741910323 : Int64)) + (((((x0 - ((((x0).toUInt64 >>> (((1 : Int32)).toInt64.toUInt64 &&& Int64.toUInt64 63)).toInt64) &&& (6148914691236517205 : Int64)))).toUInt64 >>> (((2 : Int32)).toInt64.toUInt64 &&& Int64.toUInt64 63)).toInt64) &&& (3689348814741910323 : Int64)))).toUInt64 >>> (((4 : Int32)).toInt64.toUInt64 &&& Int64.toUInt64 63)).toInt64)) &&& (1085102592571150095 : Int64)) + ((((((((x0 - ((((x0).toUInt64 >>> (((1 : Int32)).toInt64.toUInt64 &&& Int64.toUInt64 63)).toInt64) &&& (6148914691236517205 : Int64))) &&& (3689348814741910323 : Int64)) + (((((x0 - ((((x0).toUInt64 >>> (((1 : Int32)).toInt64.toUInt64 &&& Int64.toUInt64 63)).toInt64) &&& (6148914691236517205 : Int64)))).toUInt64 >>> (((2 : Int32)).toInt64.toUInt64 &&& Int64.toUInt64 63)).toInt64) &&& (3689348814741910323 : Int64))) + ((((((x0 - ((((x0).toUInt64 >>> (((1 : Int32)).toInt64.toUInt64 &&& Int64.toUInt64 63)).toInt64) &&& (6148914691236517205 : Int64))) &&& (3689348814741910323 : Int64)) + (((((x0 - ((((x0).toUInt64 >>> (((1 : Int32)).toInt64.toUInt64 &&& Int64.toUInt64 63)).toInt64) &&& (6148914691236517205 : Int64)))).toUInt64 >>> (((2 : Int32)).toInt64.toUInt64 &&& Int64.toUInt64 63)).toInt64) &&& (3689348814741910323 : Int64)))).toUInt64 >>> (((4 : Int32)).toInt64.toUInt64 &&& Int64.toUInt64 63)).toInt64)) &&& (1085102592571150095 : Int64))).toUInt64 >>> (((8 : Int32)).toInt64.toUInt64 &&& Int64.toUInt64 63)).toInt64)) + (((((((((x0 - ((((x0).toUInt64 >>> (((1 : Int32)).toInt64.toUInt64 &&& Int64.toUInt64 63)).toInt64) &&& (6148914691236517205 : Int64))) &&& (3689348814741910323 : Int64)) + (((((x0 - ((((x0).toUInt64 >>> (((1 : Int32)).toInt64.toUInt64 &&& Int64.toUInt64 63)).toInt64) &&& (6148914691236517205 : Int64)))).toUInt64 >>> (((2 : Int32)).toInt64.toUInt64 &&& Int64.toUInt64 63)).toInt64) &&& (3689348814741910323 : Int64))) + ((((((x0 - ((((x0).toUInt64 >>> (((1 : Int32)).toInt64.toUInt64 &&& Int64.toUInt64 63)).toInt64) &&& (6148914691236517205 : Int64))) &&& (3689348814741910323 : Int64)) + (((((x0 - ((((x0).toUInt64 >>> (((1 : Int32)).toInt64.toUInt64 &&& Int64.toUInt64 63)).toInt64) &&& (6148914691236517205 : Int64)))).toUInt64 >>> (((2 : Int32)).toInt64.toUInt64 &&& Int64.toUInt64 63)).toInt64) &&& (3689348814741910323 : Int64)))).toUInt64 >>> (((4 : Int32)).toInt64.toUInt64 &&& Int64.toUInt64 63)).toInt64)) &&& (1085102592571150095 : Int64)) + ((((((((x0 - ((((x0).toUInt64 >>> (((1 : Int32)).toInt64.toUInt64 &&& Int64.toUInt64 63)).toInt64) &&& (6148914691236517205 : Int64))) &&& (3689348814741910323 : Int64)) + (((((x0 - ((((x0).toUInt64 >>> (((1 : Int32)).toInt64.toUInt64 &&& Int64.toUInt64 63)).toInt64) &&& (6148914691236517205 : Int64)))).toUInt64 >>> (((2 : Int32)).toInt64.toUInt64 &&& Int64.toUInt64 63)).toInt64) &&& (3689348814741910323 : Int64))) + ((((((x0 - ((((x0).toUInt64 >>> (((1 : Int32)).toInt64.toUInt64 &&& Int64.toUInt64 63)).toInt64) &&& (6148914691236517205 : Int64))) &&& (3689348814741910323 : Int64)) + (((((x0 - ((((x0).toUInt64 >>> (((1 : Int32)).toInt64.toUInt64 &&& Int64.toUInt64 63)).toInt64) &&& (6148914691236517205 : Int64)))).toUInt64 >>> (((2 : Int32)).toInt64.toUInt64 &&& Int64.toUInt64 63)).toInt64) &&& (3689348814741910323 : Int64)))).toUInt64 >>> (((4 : Int32)).toInt64.toUInt64 &&& Int64.toUInt64 63)).toInt64)) &&& (1085102592571150095 : Int64))).toUInt64 >>> (((8 : Int32)).toInt64.toUInt64 &&& Int64.toUInt64 63)).toInt64))).toUInt64 >>> (((16 : Int32)).toInt64.toUInt64 &&& Int64.toUInt64 63)).toInt64)) + ((((((((((x0 - ((((x0).toUInt64 >>> (((1 : Int32)).toInt64.toUInt64 &&& Int64.toUInt64 63)).toInt64) &&& (6148914691236517205 : Int64))) &&& (3689348814741910323 : Int64)) + (((((x0 - ((((x0).toUInt64 >>> (((1 : Int32)).toInt64.toUInt64 &&& Int64.toUInt64 63)).toInt64) &&& (6148914691236517205 : Int64)))).toUInt64 >>> (((2 : Int32)).toInt64.toUInt64 &&& Int64.toUInt64 63)).toInt64) &&& (3689348814741910323 : Int64))) + ((((((x0 - ((((x0).toUInt64 >>> (((1 : Int32)).toInt64.toUInt64 &&& Int64.toUInt64 63)).toInt64) &&& (6148914691236517205 : Int64))) &&& (3689348814741910323 : Int64)) + (((((x0 - ((((x0).toUInt64 >>> (((1 : Int32)).toInt64.toUInt64 &&& Int64.toUInt64 63)).toInt64) &&& (6148914691236517205 : Int64)))).toUInt64 >>> (((2 : Int32)).toInt64.toUInt64 &&& Int64.toUInt64 63)).toInt64) &&& (3689348814741910323 : Int64)))).toUInt64 >>> (((4 : Int32)).toInt64.toUInt64 &&& Int64.toUInt64 63)).toInt64)) &&& (1085102592571150095 : Int64)) + ((((((((x0 - ((((x0).toUInt64 >>> (((1 : Int32)).toInt64.toUInt64 &&& Int64.toUInt64 63)).toInt64) &&& (6148914691236517205 : Int64))) &&& (3689348814741910323 : Int64)) + (((((x0 - ((((x0).toUInt64 >>> (((1 : Int32)).toInt64.toUInt64 &&& Int64.toUInt64 63)).toInt64) &&& (6148914691236517205 : Int64)))).toUInt64 >>> (((2 : Int32)).toInt64.toUInt64 &&& Int64.toUInt64 63)).toInt64) &&& (3689348814741910323 : Int64))) + ((((((x0 - ((((x0).toUInt64 >>> (((1 : Int32)).toInt64.toUInt64 &&& Int64.toUInt64 63)).toInt64) &&& (6148914691236517205 : Int64))) &&& (3689348814741910323 : Int64)) + (((((x0 - ((((x0).toUInt64 >>> (((1 : Int32)).toInt64.toUInt64 &&& Int64.toUInt64 63)).toInt64) &&& (6148914691236517205 : Int64)))).toUInt64 >>> (((2 : Int32)).toInt64.toUInt64 &&& Int64.toUInt64 63)).toInt64) &&& (3689348814741910323 : Int64)))).toUInt64 >>> (((4 : Int32)).toInt64.toUInt64 &&& Int64.toUInt64 63)).toInt64)) &&& (1085102592571150095 : Int64))).toUInt64 >>> (((8 : Int32)).toInt64.toUInt64 &&& Int64.toUInt64 63)).toInt64)) + (((((((((x0 - ((((x0).toUInt64 >>> (((1 : Int32)).toInt64.toUInt64 &&& Int64.toUInt64 63)).toInt64) &&& (6148914691236517205 : Int64))) &&& (3689348814741910323 : Int64)) + (((((x0 - ((((x0).toUInt64 >>> (((1 : Int32)).toInt64.toUInt64 &&& Int64.toUInt64 63)).toInt64) &&& (6148914691236517205 : Int64)))).toUInt64 >>> (((2 : Int32)).toInt64.toUInt64 &&& Int64.toUInt64 63)).toInt64) &&& (3689348814741910323 : Int64))) + ((((((x0 - ((((x0).toUInt64 >>> (((1 : Int32)).toInt64.toUInt64 &&& Int64.toUInt64 63)).toInt64) &&& (6148914691236517205 : Int64))) &&& (3689348814741910323 : Int64)) + (((((x0 - ((((x0).toUInt64 >>> (((1 : Int32)).toInt64.toUInt64 &&& Int64.toUInt64 63)).toInt64) &&& (6148914691236517205 : Int64)))).toUInt64 >>> (((2 : Int32)).toInt64.toUInt64 &&& Int64.toUInt64 63)).toInt64) &&& (3689348814741910323 : Int64)))).toUInt64 >>> (((4 : Int32)).toInt64.toUInt64 &&& Int64.toUInt64 63)).toInt64)) &&& (1085102592571150095 : Int64)) + ((((((((x0 - ((((x0).toUInt64 >>> (((1 : Int32)).toInt64.toUInt64 &&& Int64.toUInt64 63)).toInt64) &&& (6148914691236517205 : Int64))) &&& (3689348814741910323 : Int64)) + (((((x0 - ((((x0).toUInt64 >>> (((1 : Int32)).toInt64.toUInt64 &&& Int64.toUInt64 63)).toInt64) &&& (6148914691236517205 : Int64)))).toUInt64 >>> (((2 : Int32)).toInt64.toUInt64 &&& Int64.toUInt64 63)).toInt64) &&& (3689348814741910323 : Int64))) + ((((((x0 - ((((x0).toUInt64 >>> (((1 : Int32)).toInt64.toUInt64 &&& Int64.toUInt64 63)).toInt64) &&& (6148914691236517205 : Int64))) &&& (3689348814741910323 : Int64)) + (((((x0 - ((((x0).toUInt64 >>> (((1 : Int32)).toInt64.toUInt64 &&& Int64.toUInt64 63)).toInt64) &&& (6148914691236517205 : Int64)))).toUInt64 >>> (((2 : Int32)).toInt64.toUInt64 &&& Int64.toUInt64 63)).toInt64) &&& (3689348814741910323 : Int64)))).toUInt64 >>> (((4 : Int32)).toInt64.toUInt64 &&& Int64.toUInt64 63)).toInt64)) &&& (1085102592571150095 : Int64))).toUInt64 >>> (((8 : Int32)).toInt64.toUInt64 &&& Int64.toUInt64 63)).toInt64))).toUInt64 >>> (((16 : Int32)).toInt64.toUInt64 &&& Int64.toUInt64 63)).toInt64))).toUInt64 >>> (((32 : Int32)).toInt64.toUInt64 &&& Int64.toUInt64 63)).toInt64)))]) d_Lo_bitCount_54 rfl (Nat.le_of_ble_eq_true rfl) rfl ?_
  refine z_lload_n 0 d_Lo_bitCount_55 rfl rfl ?_
  refine z_l2i d_Lo_bitCount_56 ?_
  refine z_bipush (v := (127 : Int32)) d_Lo_bitCount_57 (by decide) ?_
  refine z_iand d_Lo_bitCount_59 ?_
  exact z_ireturn hQ rfl z00 d_Lo_bitCount_60 E
theorem m_Lo_bitCount {l : Launch} {G : Nat} {x0 : Int64} {h : pH} {r : pR} (E : f_Lo_bitCount G x0 h = some r) : zMet l y_Lo_bitCount M_Lo_bitCount 0 0 [.long x0] h r :=
  zMet_of (by decide) rfl (Nat.le_of_ble_eq_true rfl) (fun p e s m args below meth c D0 cT => w_Lo_bitCount_b0 (X := (p, l, e, s, m, args, below, meth, c, D0, cT, h, _, 0, 0)) rfl x0 h E)
def f_Mg_numberOf (G : Nat) (x0 : Int32) (x1 : Int32) (x2 : Int32) (h : pH) : Option pR := some (some (.int (((x0 <<< ((12 : Int32) &&& 31)) + (x1 <<< ((6 : Int32) &&& 31))) + x2)), h)
theorem f_Mg_numberOf_eq (G : Nat) (x0 : Int32) (x1 : Int32) (x2 : Int32) (h : pH) : f_Mg_numberOf G x0 x1 x2 h = (some (some (.int (((x0 <<< ((12 : Int32) &&& 31)) + (x1 <<< ((6 : Int32) &&& 31))) + x2)), h)) := rfl
set_option maxRecDepth 100000 in
set_option maxHeartbeats 4000000 in
theorem w_Mg_numberOf_b0 {X : zX} {r : pR} {G : Nat} (hQ : zQ X r) : ∀ (x0 : Int32) (x1 : Int32) (x2 : Int32) (h : pH), f_Mg_numberOf G x0 x1 x2 h = some r → Z X M_Mg_numberOf 0 0 h 0 [(0, .int x0), (1, .int x1), (2, .int x2)] [] := by
  intro x0 x1 x2 h E
  rw [f_Mg_numberOf_eq] at E
  refine z_iload_n 0 d_Mg_numberOf_0 rfl rfl ?_
  refine z_bipush (v := (12 : Int32)) d_Mg_numberOf_1 (by decide) ?_
  refine z_ishl d_Mg_numberOf_3 ?_
  refine z_iload_n 1 d_Mg_numberOf_4 rfl rfl ?_
  refine z_bipush (v := (6 : Int32)) d_Mg_numberOf_5 (by decide) ?_
  refine z_ishl d_Mg_numberOf_7 ?_
  refine z_iadd d_Mg_numberOf_8 ?_
  refine z_iload_n 2 d_Mg_numberOf_9 rfl rfl ?_
  refine z_iadd d_Mg_numberOf_10 ?_
  exact z_ireturn hQ rfl z00 d_Mg_numberOf_11 E
theorem m_Mg_numberOf {l : Launch} {G : Nat} {x0 : Int32} {x1 : Int32} {x2 : Int32} {h : pH} {r : pR} (E : f_Mg_numberOf G x0 x1 x2 h = some r) : zMet l y_Mg_numberOf M_Mg_numberOf 0 0 [.int x0, .int x1, .int x2] h r :=
  zMet_of (by decide) rfl (Nat.le_of_ble_eq_true rfl) (fun p e s m args below meth c D0 cT => w_Mg_numberOf_b0 (X := (p, l, e, s, m, args, below, meth, c, D0, cT, h, _, 0, 0)) rfl x0 x1 x2 h E)
def f_Mg_subjectOf (G : Nat) (x0 : Int32) (h : pH) : Option pR := some (some (.int (x0 >>> ((12 : Int32) &&& 31))), h)
theorem f_Mg_subjectOf_eq (G : Nat) (x0 : Int32) (h : pH) : f_Mg_subjectOf G x0 h = (some (some (.int (x0 >>> ((12 : Int32) &&& 31))), h)) := rfl
set_option maxRecDepth 100000 in
set_option maxHeartbeats 4000000 in
theorem w_Mg_subjectOf_b0 {X : zX} {r : pR} {G : Nat} (hQ : zQ X r) : ∀ (x0 : Int32) (h : pH), f_Mg_subjectOf G x0 h = some r → Z X M_Mg_subjectOf 0 0 h 0 [(0, .int x0)] [] := by
  intro x0 h E
  rw [f_Mg_subjectOf_eq] at E
  refine z_iload_n 0 d_Mg_subjectOf_0 rfl rfl ?_
  refine z_bipush (v := (12 : Int32)) d_Mg_subjectOf_1 (by decide) ?_
  refine z_ishr d_Mg_subjectOf_3 ?_
  exact z_ireturn hQ rfl z00 d_Mg_subjectOf_4 E
theorem m_Mg_subjectOf {l : Launch} {G : Nat} {x0 : Int32} {h : pH} {r : pR} (E : f_Mg_subjectOf G x0 h = some r) : zMet l y_Mg_subjectOf M_Mg_subjectOf 0 0 [.int x0] h r :=
  zMet_of (by decide) rfl (Nat.le_of_ble_eq_true rfl) (fun p e s m args below meth c D0 cT => w_Mg_subjectOf_b0 (X := (p, l, e, s, m, args, below, meth, c, D0, cT, h, _, 0, 0)) rfl x0 h E)
def f_Mg_verbOf (G : Nat) (x0 : Int32) (h : pH) : Option pR := some (some (.int ((x0 >>> ((6 : Int32) &&& 31)) &&& (63 : Int32))), h)
theorem f_Mg_verbOf_eq (G : Nat) (x0 : Int32) (h : pH) : f_Mg_verbOf G x0 h = (some (some (.int ((x0 >>> ((6 : Int32) &&& 31)) &&& (63 : Int32))), h)) := rfl
set_option maxRecDepth 100000 in
set_option maxHeartbeats 4000000 in
theorem w_Mg_verbOf_b0 {X : zX} {r : pR} {G : Nat} (hQ : zQ X r) : ∀ (x0 : Int32) (h : pH), f_Mg_verbOf G x0 h = some r → Z X M_Mg_verbOf 0 0 h 0 [(0, .int x0)] [] := by
  intro x0 h E
  rw [f_Mg_verbOf_eq] at E
  refine z_iload_n 0 d_Mg_verbOf_0 rfl rfl ?_
  refine z_bipush (v := (6 : Int32)) d_Mg_verbOf_1 (by decide) ?_
  refine z_ishr d_Mg_verbOf_3 ?_
  refine z_bipush (v := (63 : Int32)) d_Mg_verbOf_4 (by decide) ?_
  refine z_iand d_Mg_verbOf_6 ?_
  exact z_ireturn hQ rfl z00 d_Mg_verbOf_7 E
theorem m_Mg_verbOf {l : Launch} {G : Nat} {x0 : Int32} {h : pH} {r : pR} (E : f_Mg_verbOf G x0 h = some r) : zMet l y_Mg_verbOf M_Mg_verbOf 0 0 [.int x0] h r :=
  zMet_of (by decide) rfl (Nat.le_of_ble_eq_true rfl) (fun p e s m args below meth c D0 cT => w_Mg_verbOf_b0 (X := (p, l, e, s, m, args, below, meth, c, D0, cT, h, _, 0, 0)) rfl x0 h E)
def f_Mg_objectOf (G : Nat) (x0 : Int32) (h : pH) : Option pR := some (some (.int (x0 &&& (63 : Int32))), h)
theorem f_Mg_objectOf_eq (G : Nat) (x0 : Int32) (h : pH) : f_Mg_objectOf G x0 h = (some (some (.int (x0 &&& (63 : Int32))), h)) := rfl
set_option maxRecDepth 100000 in
set_option maxHeartbeats 4000000 in
theorem w_Mg_objectOf_b0 {X : zX} {r : pR} {G : Nat} (hQ : zQ X r) : ∀ (x0 : Int32) (h : pH), f_Mg_objectOf G x0 h = some r → Z X M_Mg_objectOf 0 0 h 0 [(0, .int x0)] [] := by
  intro x0 h E
  rw [f_Mg_objectOf_eq] at E
  refine z_iload_n 0 d_Mg_objectOf_0 rfl rfl ?_
  refine z_bipush (v := (63 : Int32)) d_Mg_objectOf_1 (by decide) ?_
  refine z_iand d_Mg_objectOf_3 ?_
  exact z_ireturn hQ rfl z00 d_Mg_objectOf_4 E
theorem m_Mg_objectOf {l : Launch} {G : Nat} {x0 : Int32} {h : pH} {r : pR} (E : f_Mg_objectOf G x0 h = some r) : zMet l y_Mg_objectOf M_Mg_objectOf 0 0 [.int x0] h r :=
  zMet_of (by decide) rfl (Nat.le_of_ble_eq_true rfl) (fun p e s m args below meth c D0 cT => w_Mg_objectOf_b0 (X := (p, l, e, s, m, args, below, meth, c, D0, cT, h, _, 0, 0)) rfl x0 h E)
def f_Mg_isNode_b16 (G : Nat) (k17 : Int32 → pH → Option pR) (h : pH) : Option pR := k17 (0 : Int32) h
theorem f_Mg_isNode_b16_eq (G : Nat) (k17 : Int32 → pH → Option pR) (h : pH) : f_Mg_isNode_b16 G k17 h = (k17 (0 : Int32) h) := rfl
def f_Mg_isNode_b17 (G : Nat) (s0 : Int32) (h : pH) : Option pR := (if isZ s0 = true then some (some (.int s0), h) else none)
theorem f_Mg_isNode_b17_eq (G : Nat) (s0 : Int32) (h : pH) : f_Mg_isNode_b17 G s0 h = ((if isZ s0 = true then some (some (.int s0), h) else none)) := rfl
def f_Mg_isNode (G : Nat) (x0 : Int32) (h : pH) : Option pR := if x0 < (40 : Int32) then ((f_Mg_isNode_b16 G (f_Mg_isNode_b17 G)) h) else (if (46 : Int32) ≤ x0 then ((f_Mg_isNode_b16 G (f_Mg_isNode_b17 G)) h) else ((f_Mg_isNode_b17 G) (1 : Int32) h))
theorem f_Mg_isNode_eq (G : Nat) (x0 : Int32) (h : pH) : f_Mg_isNode G x0 h = (if x0 < (40 : Int32) then ((f_Mg_isNode_b16 G (f_Mg_isNode_b17 G)) h) else (if (46 : Int32) ≤ x0 then ((f_Mg_isNode_b16 G (f_Mg_isNode_b17 G)) h) else ((f_Mg_isNode_b17 G) (1 : Int32) h))) := rfl
set_option maxRecDepth 100000 in
set_option maxHeartbeats 4000000 in
theorem w_Mg_isNode_b16 {X : zX} {r : pR} {G : Nat} {k17 : Int32 → pH → Option pR} (hQ : zQ X r) (hk17 : ∀ (s0 : Int32) (h : pH), k17 s0 h = some r → Z X M_Mg_isNode 0 0 h 17 [] [.int s0]) : ∀ (h : pH), f_Mg_isNode_b16 G k17 h = some r → Z X M_Mg_isNode 0 0 h 16 [] [] := by
  intro h E
  rw [f_Mg_isNode_b16_eq] at E
  refine z_iconst (v := (0 : Int32)) d_Mg_isNode_16 (by decide) ?_
  exact hk17 (0 : Int32) h E
set_option maxRecDepth 100000 in
set_option maxHeartbeats 4000000 in
theorem w_Mg_isNode_b17 {X : zX} {r : pR} {G : Nat} (hQ : zQ X r) : ∀ (s0 : Int32) (h : pH), f_Mg_isNode_b17 G s0 h = some r → Z X M_Mg_isNode 0 0 h 17 [] [.int s0] := by
  intro s0 h E
  rw [f_Mg_isNode_b17_eq] at E
  exact z_zreturn hQ rfl z00 d_Mg_isNode_17 E
set_option maxRecDepth 100000 in
set_option maxHeartbeats 4000000 in
theorem w_Mg_isNode_b0 {X : zX} {r : pR} {G : Nat} (hQ : zQ X r) : ∀ (x0 : Int32) (h : pH), f_Mg_isNode G x0 h = some r → Z X M_Mg_isNode 0 0 h 0 [(0, .int x0)] [] := by
  intro x0 h E
  rw [f_Mg_isNode_eq] at E
  refine z_iload_n 0 d_Mg_isNode_0 rfl rfl ?_
  refine z_bipush (v := (40 : Int32)) d_Mg_isNode_1 (by decide) ?_
  refine z_ic_lt (tgt := 16) d_Mg_isNode_3 (by decide) E (fun E => ?_) (fun E => ?_)
  · refine z_lv [] rfl ?_
    exact (w_Mg_isNode_b16 hQ (w_Mg_isNode_b17 hQ)) h E
  · refine z_iload_n 0 d_Mg_isNode_6 rfl rfl ?_
    refine z_bipush (v := (46 : Int32)) d_Mg_isNode_7 (by decide) ?_
    refine z_ic_ge (tgt := 16) d_Mg_isNode_9 (by decide) E (fun E => ?_) (fun E => ?_)
    · refine z_lv [] rfl ?_
      exact (w_Mg_isNode_b16 hQ (w_Mg_isNode_b17 hQ)) h E
    · refine z_iconst (v := (1 : Int32)) d_Mg_isNode_12 (by decide) ?_
      refine z_goto (tgt := 17) d_Mg_isNode_13 (by decide) ?_
      refine z_lv [] rfl ?_
      exact (w_Mg_isNode_b17 hQ) (1 : Int32) h E
theorem m_Mg_isNode {l : Launch} {G : Nat} {x0 : Int32} {h : pH} {r : pR} (E : f_Mg_isNode G x0 h = some r) : zMet l y_Mg_isNode M_Mg_isNode 0 0 [.int x0] h r :=
  zMet_of (by decide) rfl (Nat.le_of_ble_eq_true rfl) (fun p e s m args below meth c D0 cT => w_Mg_isNode_b0 (X := (p, l, e, s, m, args, below, meth, c, D0, cT, h, _, 0, 0)) rfl x0 h E)
def f_Mg_isIn_b15 (G : Nat) (s0 : Int32) (h : pH) : Option pR := (if isZ s0 = true then some (some (.int s0), h) else none)
theorem f_Mg_isIn_b15_eq (G : Nat) (s0 : Int32) (h : pH) : f_Mg_isIn_b15 G s0 h = ((if isZ s0 = true then some (some (.int s0), h) else none)) := rfl
def f_Mg_isIn (G : Nat) (x0 : Int64) (x2 : Int32) (h : pH) : Option pR := if (lg_cmp (x0 &&& ((1 : Int64) <<< ((x2).toInt64 &&& 63))) (0 : Int64)) = 0 then ((f_Mg_isIn_b15 G) (0 : Int32) h) else ((f_Mg_isIn_b15 G) (1 : Int32) h)
theorem f_Mg_isIn_eq (G : Nat) (x0 : Int64) (x2 : Int32) (h : pH) : f_Mg_isIn G x0 x2 h = (if (lg_cmp (x0 &&& ((1 : Int64) <<< ((x2).toInt64 &&& 63))) (0 : Int64)) = 0 then ((f_Mg_isIn_b15 G) (0 : Int32) h) else ((f_Mg_isIn_b15 G) (1 : Int32) h)) := rfl
set_option maxRecDepth 100000 in
set_option maxHeartbeats 4000000 in
theorem w_Mg_isIn_b15 {X : zX} {r : pR} {G : Nat} (hQ : zQ X r) : ∀ (s0 : Int32) (h : pH), f_Mg_isIn_b15 G s0 h = some r → Z X M_Mg_isIn 0 0 h 15 [] [.int s0] := by
  intro s0 h E
  rw [f_Mg_isIn_b15_eq] at E
  exact z_zreturn hQ rfl z00 d_Mg_isIn_15 E
set_option maxRecDepth 100000 in
set_option maxHeartbeats 4000000 in
theorem w_Mg_isIn_b0 {X : zX} {r : pR} {G : Nat} (hQ : zQ X r) : ∀ (x0 : Int64) (x2 : Int32) (h : pH), f_Mg_isIn G x0 x2 h = some r → Z X M_Mg_isIn 0 0 h 0 [(0, .long x0), (2, .int x2)] [] := by
  intro x0 x2 h E
  rw [f_Mg_isIn_eq] at E
  refine z_lload_n 0 d_Mg_isIn_0 rfl rfl ?_
  refine z_lconst (v := (1 : Int64)) d_Mg_isIn_1 (by decide) ?_
  refine z_iload_n 1 d_Mg_isIn_2 rfl rfl ?_
  refine z_lshl d_Mg_isIn_3 ?_
  refine z_land d_Mg_isIn_4 ?_
  refine z_lconst (v := (0 : Int64)) d_Mg_isIn_5 (by decide) ?_
  refine z_lcmp d_Mg_isIn_6 ?_
  refine z_if_eq (y := 0) (tgt := 14) d_Mg_isIn_7 (by decide) E (fun E => ?_) (fun E => ?_)
  · refine z_iconst (v := (0 : Int32)) d_Mg_isIn_14 (by decide) ?_
    refine z_lv [] rfl ?_
    exact (w_Mg_isIn_b15 hQ) (0 : Int32) h E
  · refine z_iconst (v := (1 : Int32)) d_Mg_isIn_10 (by decide) ?_
    refine z_goto (tgt := 15) d_Mg_isIn_11 (by decide) ?_
    refine z_lv [] rfl ?_
    exact (w_Mg_isIn_b15 hQ) (1 : Int32) h E
theorem m_Mg_isIn {l : Launch} {G : Nat} {x0 : Int64} {x2 : Int32} {h : pH} {r : pR} (E : f_Mg_isIn G x0 x2 h = some r) : zMet l y_Mg_isIn M_Mg_isIn 0 0 [.long x0, .int x2] h r :=
  zMet_of (by decide) rfl (Nat.le_of_ble_eq_true rfl) (fun p e s m args below meth c D0 cT => w_Mg_isIn_b0 (X := (p, l, e, s, m, args, below, meth, c, D0, cT, h, _, 0, 0)) rfl x0 x2 h E)
def f_Mg_putFor_b21 (G : Nat) (k22 : Int32 → pH → Option pR) (x0 : Int32) (h : pH) : Option pR := k22 x0 h
theorem f_Mg_putFor_b21_eq (G : Nat) (k22 : Int32 → pH → Option pR) (x0 : Int32) (h : pH) : f_Mg_putFor_b21 G k22 x0 h = (k22 x0 h) := rfl
def f_Mg_putFor_b22 (G : Nat) (s0 : Int32) (h : pH) : Option pR := some (some (.int s0), h)
theorem f_Mg_putFor_b22_eq (G : Nat) (s0 : Int32) (h : pH) : f_Mg_putFor_b22 G s0 h = (some (some (.int s0), h)) := rfl
def f_Mg_putFor (G : Nat) (x0 : Int32) (x1 : Nat) (h : pH) : Option pR := if (x0 - (40 : Int32)) < 0 then ((f_Mg_putFor_b21 G (f_Mg_putFor_b22 G)) x0 h) else ((aL h 0 x1).bind fun v1 => if v1 ≤ (x0 - (40 : Int32)) then ((f_Mg_putFor_b21 G (f_Mg_putFor_b22 G)) x0 h) else ((aI h x1 (x0 - (40 : Int32))).bind fun v2 => (f_Mg_putFor_b22 G) v2 h))
theorem f_Mg_putFor_eq (G : Nat) (x0 : Int32) (x1 : Nat) (h : pH) : f_Mg_putFor G x0 x1 h = (if (x0 - (40 : Int32)) < 0 then ((f_Mg_putFor_b21 G (f_Mg_putFor_b22 G)) x0 h) else ((aL h 0 x1).bind fun v1 => if v1 ≤ (x0 - (40 : Int32)) then ((f_Mg_putFor_b21 G (f_Mg_putFor_b22 G)) x0 h) else ((aI h x1 (x0 - (40 : Int32))).bind fun v2 => (f_Mg_putFor_b22 G) v2 h))) := rfl
set_option maxRecDepth 100000 in
set_option maxHeartbeats 4000000 in
theorem w_Mg_putFor_b21 {X : zX} {r : pR} {G : Nat} {k22 : Int32 → pH → Option pR} (hQ : zQ X r) (hk22 : ∀ (s0 : Int32) (h : pH), k22 s0 h = some r → Z X M_Mg_putFor 0 0 h 22 [] [.int s0]) : ∀ (x0 : Int32) (h : pH), f_Mg_putFor_b21 G k22 x0 h = some r → Z X M_Mg_putFor 0 0 h 21 [(0, .int x0)] [] := by
  intro x0 h E
  rw [f_Mg_putFor_b21_eq] at E
  refine z_iload_n 0 d_Mg_putFor_21 rfl rfl ?_
  refine z_lv [] rfl ?_
  exact hk22 x0 h E
set_option maxRecDepth 100000 in
set_option maxHeartbeats 4000000 in
theorem w_Mg_putFor_b22 {X : zX} {r : pR} {G : Nat} (hQ : zQ X r) : ∀ (s0 : Int32) (h : pH), f_Mg_putFor_b22 G s0 h = some r → Z X M_Mg_putFor 0 0 h 22 [] [.int s0] := by
  intro s0 h E
  rw [f_Mg_putFor_b22_eq] at E
  exact z_ireturn hQ rfl z00 d_Mg_putFor_22 E
set_option maxRecDepth 100000 in
set_option maxHeartbeats 4000000 in
theorem w_Mg_putFor_b0 {X : zX} {r : pR} {G : Nat} (hQ : zQ X r) : ∀ (x0 : Int32) (x1 : Nat) (h : pH), f_Mg_putFor G x0 x1 h = some r → Z X M_Mg_putFor 0 0 h 0 [(0, .int x0), (1, .ref x1)] [] := by
  intro x0 x1 h E
  rw [f_Mg_putFor_eq] at E
  refine z_iload_n 0 d_Mg_putFor_0 rfl rfl ?_
  refine z_bipush (v := (40 : Int32)) d_Mg_putFor_1 (by decide) ?_
  refine z_isub d_Mg_putFor_3 ?_
  refine z_istore_n (lv2 := [(2, .int (x0 - (40 : Int32))), (0, .int x0), (1, .ref x1)]) d_Mg_putFor_4 rfl (Nat.le_of_ble_eq_true rfl) rfl ?_
  refine z_iload_n 0 d_Mg_putFor_5 rfl rfl ?_
  refine z_if_lt (y := 0) (tgt := 21) d_Mg_putFor_6 (by decide) E (fun E => ?_) (fun E => ?_)
  · refine z_lv [1] rfl ?_
    exact (w_Mg_putFor_b21 hQ (w_Mg_putFor_b22 hQ)) x0 h E
  · refine z_iload_n 0 d_Mg_putFor_9 rfl rfl ?_
    refine z_aload_n 2 d_Mg_putFor_10 rfl rfl ?_
    refine z_alen 0 (fun _ => rfl) d_Mg_putFor_11 E (fun v1 _ E => ?_)
    refine z_ic_ge (tgt := 21) d_Mg_putFor_12 (by decide) E (fun E => ?_) (fun E => ?_)
    · refine z_lv [1] rfl ?_
      exact (w_Mg_putFor_b21 hQ (w_Mg_putFor_b22 hQ)) x0 h E
    · refine z_aload_n 2 d_Mg_putFor_15 rfl rfl ?_
      refine z_iload_n 0 d_Mg_putFor_16 rfl rfl ?_
      refine z_iaload d_Mg_putFor_17 E (fun v2 _ E => ?_)
      refine z_goto (tgt := 22) d_Mg_putFor_18 (by decide) ?_
      refine z_lv [] rfl ?_
      exact (w_Mg_putFor_b22 hQ) v2 h E
theorem m_Mg_putFor {l : Launch} {G : Nat} {x0 : Int32} {x1 : Nat} {h : pH} {r : pR} (E : f_Mg_putFor G x0 x1 h = some r) : zMet l y_Mg_putFor M_Mg_putFor 0 0 [.int x0, .ref x1] h r :=
  zMet_of (by decide) rfl (Nat.le_of_ble_eq_true rfl) (fun p e s m args below meth c D0 cT => w_Mg_putFor_b0 (X := (p, l, e, s, m, args, below, meth, c, D0, cT, h, _, 0, 0)) rfl x0 x1 h E)
def f_Mg_renamed (G : Nat) (x0 : Int32) (x1 : Nat) (h : pH) : Option pR := cI true (f_Mg_subjectOf G x0 h) fun v4 h1 => cI true (f_Mg_putFor G v4 x1 h1) fun v8 h5 => cI true (f_Mg_verbOf G x0 h5) fun v12 h9 => cI true (f_Mg_objectOf G x0 h9) fun v16 h13 => cI true (f_Mg_putFor G v16 x1 h13) fun v20 h17 => cI true (f_Mg_numberOf G v8 v12 v20 h17) fun v24 h21 => some (some (.int v24), h21)
theorem f_Mg_renamed_eq (G : Nat) (x0 : Int32) (x1 : Nat) (h : pH) : f_Mg_renamed G x0 x1 h = (cI true (f_Mg_subjectOf G x0 h) fun v4 h1 => cI true (f_Mg_putFor G v4 x1 h1) fun v8 h5 => cI true (f_Mg_verbOf G x0 h5) fun v12 h9 => cI true (f_Mg_objectOf G x0 h9) fun v16 h13 => cI true (f_Mg_putFor G v16 x1 h13) fun v20 h17 => cI true (f_Mg_numberOf G v8 v12 v20 h17) fun v24 h21 => some (some (.int v24), h21)) := rfl
set_option maxRecDepth 100000 in
set_option maxHeartbeats 4000000 in
theorem w_Mg_renamed_b0 {X : zX} {r : pR} {G : Nat} (hQ : zQ X r) : ∀ (x0 : Int32) (x1 : Nat) (h : pH), f_Mg_renamed G x0 x1 h = some r → Z X M_Mg_renamed 0 0 h 0 [(0, .int x0), (1, .ref x1)] [] := by
  intro x0 x1 h E
  rw [f_Mg_renamed_eq] at E
  refine z_iload_n 0 d_Mg_renamed_0 rfl rfl ?_
  obtain ⟨g2, v4, h1, e3, E⟩ := cI_some E
  refine z_invS (y := y_Mg_subjectOf) (Mc := M_Mg_subjectOf) (av := [.int x0]) (rest := []) ⟨zt_507, zt_330, zt_48⟩ zk_Mg_subjectOf zy_Mg_subjectOf (by decide) (Nat.le_of_ble_eq_true rfl) z00 rfl (Nat.le_of_ble_eq_true rfl) d_Mg_renamed_1 (m_Mg_subjectOf e3) ?_
  show Z X M_Mg_renamed 0 0 h1 4 [(0, .int x0), (1, .ref x1)] [.int v4]
  refine z_aload_n 1 d_Mg_renamed_4 rfl rfl ?_
  obtain ⟨g6, v8, h5, e7, E⟩ := cI_some E
  refine z_invS (y := y_Mg_putFor) (Mc := M_Mg_putFor) (av := [.int v4, .ref x1]) (rest := []) ⟨zt_508, zt_509, zt_48⟩ zk_Mg_putFor zy_Mg_putFor (by decide) (Nat.le_of_ble_eq_true rfl) z00 rfl (Nat.le_of_ble_eq_true rfl) d_Mg_renamed_5 (m_Mg_putFor e7) ?_
  show Z X M_Mg_renamed 0 0 h5 8 [(0, .int x0), (1, .ref x1)] [.int v8]
  refine z_iload_n 0 d_Mg_renamed_8 rfl rfl ?_
  obtain ⟨g10, v12, h9, e11, E⟩ := cI_some E
  refine z_invS (y := y_Mg_verbOf) (Mc := M_Mg_verbOf) (av := [.int x0]) (rest := [.int v8]) ⟨zt_511, zt_380, zt_48⟩ zk_Mg_verbOf zy_Mg_verbOf (by decide) (Nat.le_of_ble_eq_true rfl) z00 rfl (Nat.le_of_ble_eq_true rfl) d_Mg_renamed_9 (m_Mg_verbOf e11) ?_
  show Z X M_Mg_renamed 0 0 h9 12 [(0, .int x0), (1, .ref x1)] [.int v12, .int v8]
  refine z_iload_n 0 d_Mg_renamed_12 rfl rfl ?_
  obtain ⟨g14, v16, h13, e15, E⟩ := cI_some E
  refine z_invS (y := y_Mg_objectOf) (Mc := M_Mg_objectOf) (av := [.int x0]) (rest := [.int v12, .int v8]) ⟨zt_512, zt_333, zt_48⟩ zk_Mg_objectOf zy_Mg_objectOf (by decide) (Nat.le_of_ble_eq_true rfl) z00 rfl (Nat.le_of_ble_eq_true rfl) d_Mg_renamed_13 (m_Mg_objectOf e15) ?_
  show Z X M_Mg_renamed 0 0 h13 16 [(0, .int x0), (1, .ref x1)] [.int v16, .int v12, .int v8]
  refine z_aload_n 1 d_Mg_renamed_16 rfl rfl ?_
  obtain ⟨g18, v20, h17, e19, E⟩ := cI_some E
  refine z_invS (y := y_Mg_putFor) (Mc := M_Mg_putFor) (av := [.int v16, .ref x1]) (rest := [.int v12, .int v8]) ⟨zt_508, zt_509, zt_48⟩ zk_Mg_putFor zy_Mg_putFor (by decide) (Nat.le_of_ble_eq_true rfl) z00 rfl (Nat.le_of_ble_eq_true rfl) d_Mg_renamed_17 (m_Mg_putFor e19) ?_
  show Z X M_Mg_renamed 0 0 h17 20 [(0, .int x0), (1, .ref x1)] [.int v20, .int v12, .int v8]
  obtain ⟨g22, v24, h21, e23, E⟩ := cI_some E
  refine z_invS (y := y_Mg_numberOf) (Mc := M_Mg_numberOf) (av := [.int v8, .int v12, .int v20]) (rest := []) ⟨zt_273, zt_274, zt_48⟩ zk_Mg_numberOf zy_Mg_numberOf (by decide) (Nat.le_of_ble_eq_true rfl) z00 rfl (Nat.le_of_ble_eq_true rfl) d_Mg_renamed_20 (m_Mg_numberOf e23) ?_
  show Z X M_Mg_renamed 0 0 h21 23 [(0, .int x0), (1, .ref x1)] [.int v24]
  exact z_ireturn hQ rfl z00 d_Mg_renamed_23 E
theorem m_Mg_renamed {l : Launch} {G : Nat} {x0 : Int32} {x1 : Nat} {h : pH} {r : pR} (E : f_Mg_renamed G x0 x1 h = some r) : zMet l y_Mg_renamed M_Mg_renamed 0 0 [.int x0, .ref x1] h r :=
  zMet_of (by decide) rfl (Nat.le_of_ble_eq_true rfl) (fun p e s m args below meth c D0 cT => w_Mg_renamed_b0 (X := (p, l, e, s, m, args, below, meth, c, D0, cT, h, _, 0, 0)) rfl x0 x1 h E)
def f_Mg_isBefore_b42 (G : Nat) (s0 : Int32) (h : pH) : Option pR := (if isZ s0 = true then some (some (.int s0), h) else none)
theorem f_Mg_isBefore_b42_eq (G : Nat) (s0 : Int32) (h : pH) : f_Mg_isBefore_b42 G s0 h = ((if isZ s0 = true then some (some (.int s0), h) else none)) := rfl
def f_Mg_isBefore_b49 (G : Nat) (h : pH) : Option pR := (if isZ (0 : Int32) = true then some (some (.int (0 : Int32)), h) else none)
theorem f_Mg_isBefore_b49_eq (G : Nat) (h : pH) : f_Mg_isBefore_b49 G h = ((if isZ (0 : Int32) = true then some (some (.int (0 : Int32)), h) else none)) := rfl
def f_Mg_isBefore_b2 (G : Nat) : Nat → Nat → Nat → Int32 → Int32 → pH → Option pR
  | 0 => fun _ _ _ _ _ => none
  | F + 1 => fun x0 x1 x2 x3 h => if x2 ≤ x3 then ((f_Mg_isBefore_b49 G) h) else ((aL h 0 x0).bind fun v1 => if v1 ≤ x3 then ((f_Mg_isBefore_b49 G) h) else ((aL h 0 x1).bind fun v2 => if v2 ≤ x3 then ((f_Mg_isBefore_b49 G) h) else ((aI h x0 x3).bind fun v3 => (aI h x1 x3).bind fun v4 => if v3 = v4 then ((f_Mg_isBefore_b2 G F) x0 x1 x2 (x3 + 1) h) else ((aI h x0 x3).bind fun v5 => (aI h x1 x3).bind fun v6 => if v6 ≤ v5 then ((f_Mg_isBefore_b42 G) (0 : Int32) h) else ((f_Mg_isBefore_b42 G) (1 : Int32) h)))))
theorem f_Mg_isBefore_b2_eq (G : Nat) (F : Nat) (x0 : Nat) (x1 : Nat) (x2 : Int32) (x3 : Int32) (h : pH) : f_Mg_isBefore_b2 G (F + 1) x0 x1 x2 x3 h = (if x2 ≤ x3 then ((f_Mg_isBefore_b49 G) h) else ((aL h 0 x0).bind fun v1 => if v1 ≤ x3 then ((f_Mg_isBefore_b49 G) h) else ((aL h 0 x1).bind fun v2 => if v2 ≤ x3 then ((f_Mg_isBefore_b49 G) h) else ((aI h x0 x3).bind fun v3 => (aI h x1 x3).bind fun v4 => if v3 = v4 then ((f_Mg_isBefore_b2 G F) x0 x1 x2 (x3 + 1) h) else ((aI h x0 x3).bind fun v5 => (aI h x1 x3).bind fun v6 => if v6 ≤ v5 then ((f_Mg_isBefore_b42 G) (0 : Int32) h) else ((f_Mg_isBefore_b42 G) (1 : Int32) h)))))) := rfl
def f_Mg_isBefore (G : Nat) (x0 : Nat) (x1 : Nat) (x2 : Int32) (h : pH) : Option pR := (f_Mg_isBefore_b2 G G) x0 x1 x2 (0 : Int32) h
theorem f_Mg_isBefore_eq (G : Nat) (x0 : Nat) (x1 : Nat) (x2 : Int32) (h : pH) : f_Mg_isBefore G x0 x1 x2 h = ((f_Mg_isBefore_b2 G G) x0 x1 x2 (0 : Int32) h) := rfl
set_option maxRecDepth 100000 in
set_option maxHeartbeats 4000000 in
theorem w_Mg_isBefore_b42 {X : zX} {r : pR} {G : Nat} (hQ : zQ X r) : ∀ (s0 : Int32) (h : pH), f_Mg_isBefore_b42 G s0 h = some r → Z X M_Mg_isBefore 0 0 h 42 [] [.int s0] := by
  intro s0 h E
  rw [f_Mg_isBefore_b42_eq] at E
  exact z_zreturn hQ rfl z00 d_Mg_isBefore_42 E
set_option maxRecDepth 100000 in
set_option maxHeartbeats 4000000 in
theorem w_Mg_isBefore_b49 {X : zX} {r : pR} {G : Nat} (hQ : zQ X r) : ∀ (h : pH), f_Mg_isBefore_b49 G h = some r → Z X M_Mg_isBefore 0 0 h 49 [] [] := by
  intro h E
  rw [f_Mg_isBefore_b49_eq] at E
  refine z_iconst (v := (0 : Int32)) d_Mg_isBefore_49 (by decide) ?_
  exact z_zreturn hQ rfl z00 d_Mg_isBefore_50 E
set_option maxRecDepth 100000 in
set_option maxHeartbeats 4000000 in
theorem w_Mg_isBefore_b2 {X : zX} {r : pR} {G : Nat} (hQ : zQ X r) : ∀ (F : Nat) (x0 : Nat) (x1 : Nat) (x2 : Int32) (x3 : Int32) (h : pH), f_Mg_isBefore_b2 G F x0 x1 x2 x3 h = some r → Z X M_Mg_isBefore 0 0 h 2 [(0, .ref x0), (1, .ref x1), (2, .int x2), (3, .int x3)] [] := by
  intro F
  induction F with
  | zero => intro x0 x1 x2 x3 h E; exact nomatch (show (none : Option pR) = some _ from E)
  | succ F ih =>
    intro x0 x1 x2 x3 h E
    rw [f_Mg_isBefore_b2_eq] at E
    refine z_iload_n 3 d_Mg_isBefore_2 rfl rfl ?_
    refine z_iload_n 2 d_Mg_isBefore_3 rfl rfl ?_
    refine z_ic_ge (tgt := 49) d_Mg_isBefore_4 (by decide) E (fun E => ?_) (fun E => ?_)
    · refine z_lv [] rfl ?_
      exact (w_Mg_isBefore_b49 hQ) h E
    · refine z_iload_n 3 d_Mg_isBefore_7 rfl rfl ?_
      refine z_aload_n 0 d_Mg_isBefore_8 rfl rfl ?_
      refine z_alen 0 (fun _ => rfl) d_Mg_isBefore_9 E (fun v1 _ E => ?_)
      refine z_ic_ge (tgt := 49) d_Mg_isBefore_10 (by decide) E (fun E => ?_) (fun E => ?_)
      · refine z_lv [] rfl ?_
        exact (w_Mg_isBefore_b49 hQ) h E
      · refine z_iload_n 3 d_Mg_isBefore_13 rfl rfl ?_
        refine z_aload_n 1 d_Mg_isBefore_14 rfl rfl ?_
        refine z_alen 0 (fun _ => rfl) d_Mg_isBefore_15 E (fun v2 _ E => ?_)
        refine z_ic_ge (tgt := 49) d_Mg_isBefore_16 (by decide) E (fun E => ?_) (fun E => ?_)
        · refine z_lv [] rfl ?_
          exact (w_Mg_isBefore_b49 hQ) h E
        · refine z_aload_n 0 d_Mg_isBefore_19 rfl rfl ?_
          refine z_iload_n 3 d_Mg_isBefore_20 rfl rfl ?_
          refine z_iaload d_Mg_isBefore_21 E (fun v3 _ E => ?_)
          refine z_aload_n 1 d_Mg_isBefore_22 rfl rfl ?_
          refine z_iload_n 3 d_Mg_isBefore_23 rfl rfl ?_
          refine z_iaload d_Mg_isBefore_24 E (fun v4 _ E => ?_)
          refine z_ic_eq (tgt := 43) d_Mg_isBefore_25 (by decide) E (fun E => ?_) (fun E => ?_)
          · refine z_iinc (v := (x3 + 1)) (lv2 := [(3, .int (x3 + 1)), (0, .ref x0), (1, .ref x1), (2, .int x2)]) 3 d_Mg_isBefore_43 rfl rfl (Nat.le_of_ble_eq_true rfl) rfl ?_
            refine z_goto (tgt := 2) d_Mg_isBefore_46 (by decide) ?_
            refine z_lv [1, 2, 3, 0] rfl ?_
            exact ih x0 x1 x2 (x3 + 1) h E
          · refine z_aload_n 0 d_Mg_isBefore_28 rfl rfl ?_
            refine z_iload_n 3 d_Mg_isBefore_29 rfl rfl ?_
            refine z_iaload d_Mg_isBefore_30 E (fun v5 _ E => ?_)
            refine z_aload_n 1 d_Mg_isBefore_31 rfl rfl ?_
            refine z_iload_n 3 d_Mg_isBefore_32 rfl rfl ?_
            refine z_iaload d_Mg_isBefore_33 E (fun v6 _ E => ?_)
            refine z_ic_ge (tgt := 41) d_Mg_isBefore_34 (by decide) E (fun E => ?_) (fun E => ?_)
            · refine z_iconst (v := (0 : Int32)) d_Mg_isBefore_41 (by decide) ?_
              refine z_lv [] rfl ?_
              exact (w_Mg_isBefore_b42 hQ) (0 : Int32) h E
            · refine z_iconst (v := (1 : Int32)) d_Mg_isBefore_37 (by decide) ?_
              refine z_goto (tgt := 42) d_Mg_isBefore_38 (by decide) ?_
              refine z_lv [] rfl ?_
              exact (w_Mg_isBefore_b42 hQ) (1 : Int32) h E
set_option maxRecDepth 100000 in
set_option maxHeartbeats 4000000 in
theorem w_Mg_isBefore_b0 {X : zX} {r : pR} {G : Nat} (hQ : zQ X r) : ∀ (x0 : Nat) (x1 : Nat) (x2 : Int32) (h : pH), f_Mg_isBefore G x0 x1 x2 h = some r → Z X M_Mg_isBefore 0 0 h 0 [(0, .ref x0), (1, .ref x1), (2, .int x2)] [] := by
  intro x0 x1 x2 h E
  rw [f_Mg_isBefore_eq] at E
  refine z_iconst (v := (0 : Int32)) d_Mg_isBefore_0 (by decide) ?_
  refine z_istore_n (lv2 := [(3, .int (0 : Int32)), (0, .ref x0), (1, .ref x1), (2, .int x2)]) d_Mg_isBefore_1 rfl (Nat.le_of_ble_eq_true rfl) rfl ?_
  refine z_lv [1, 2, 3, 0] rfl ?_
  exact (w_Mg_isBefore_b2 hQ G) x0 x1 x2 (0 : Int32) h E
theorem m_Mg_isBefore {l : Launch} {G : Nat} {x0 : Nat} {x1 : Nat} {x2 : Int32} {h : pH} {r : pR} (E : f_Mg_isBefore G x0 x1 x2 h = some r) : zMet l y_Mg_isBefore M_Mg_isBefore 0 0 [.ref x0, .ref x1, .int x2] h r :=
  zMet_of (by decide) rfl (Nat.le_of_ble_eq_true rfl) (fun p e s m args below meth c D0 cT => w_Mg_isBefore_b0 (X := (p, l, e, s, m, args, below, meth, c, D0, cT, h, _, 0, 0)) rfl x0 x1 x2 h E)
def f_Mg_lowestOf (G : Nat) (x0 : Int64) (h : pH) : Option pR := cI true (f_Lo_bitCount G ((x0 &&& (-x0)) - (1 : Int64)) h) fun v4 h1 => some (some (.int v4), h1)
theorem f_Mg_lowestOf_eq (G : Nat) (x0 : Int64) (h : pH) : f_Mg_lowestOf G x0 h = (cI true (f_Lo_bitCount G ((x0 &&& (-x0)) - (1 : Int64)) h) fun v4 h1 => some (some (.int v4), h1)) := rfl
set_option maxRecDepth 100000 in
set_option maxHeartbeats 4000000 in
theorem w_Mg_lowestOf_b0 {X : zX} {r : pR} {G : Nat} (hQ : zQ X r) : ∀ (x0 : Int64) (h : pH), f_Mg_lowestOf G x0 h = some r → Z X M_Mg_lowestOf 0 0 h 0 [(0, .long x0)] [] := by
  intro x0 h E
  rw [f_Mg_lowestOf_eq] at E
  refine z_lload_n 0 d_Mg_lowestOf_0 rfl rfl ?_
  refine z_lload_n 0 d_Mg_lowestOf_1 rfl rfl ?_
  refine z_lneg d_Mg_lowestOf_2 ?_
  refine z_land d_Mg_lowestOf_3 ?_
  refine z_lconst (v := (1 : Int64)) d_Mg_lowestOf_4 (by decide) ?_
  refine z_lsub d_Mg_lowestOf_5 ?_
  obtain ⟨g2, v4, h1, e3, E⟩ := cI_some E
  refine z_invS (y := y_Lo_bitCount) (Mc := M_Lo_bitCount) (av := [.long ((x0 &&& (-x0)) - (1 : Int64))]) (rest := []) ⟨zt_336, zt_337, zt_58⟩ zk_Lo_bitCount zy_Lo_bitCount (by decide) (Nat.le_of_ble_eq_true rfl) z00 rfl (Nat.le_of_ble_eq_true rfl) d_Mg_lowestOf_6 (m_Lo_bitCount e3) ?_
  show Z X M_Mg_lowestOf 0 0 h1 9 [(0, .long x0)] [.int v4]
  exact z_ireturn hQ rfl z00 d_Mg_lowestOf_9 E
theorem m_Mg_lowestOf {l : Launch} {G : Nat} {x0 : Int64} {h : pH} {r : pR} (E : f_Mg_lowestOf G x0 h = some r) : zMet l y_Mg_lowestOf M_Mg_lowestOf 0 0 [.long x0] h r :=
  zMet_of (by decide) rfl (Nat.le_of_ble_eq_true rfl) (fun p e s m args below meth c D0 cT => w_Mg_lowestOf_b0 (X := (p, l, e, s, m, args, below, meth, c, D0, cT, h, _, 0, 0)) rfl x0 h E)
def f_Gr_insertRenamed_b2 (G : Nat) : Nat → Nat → Nat → Nat → Int32 → pH → Option pR
  | 0 => fun _ _ _ _ _ => none
  | F + 1 => fun x0 x1 x2 x3 h => (gI h x1 0 1).bind fun v1 => if v1 ≤ x3 then ((if isZ (1 : Int32) = true then some (some (.int (1 : Int32)), h) else none)) else ((gR h x1 0 0).bind fun v2 => (aI h v2 x3).bind fun v3 => cI true (f_Mg_renamed G v3 x2 h) fun v7 h4 => cI (oC h4 x0 0) (f_Gr_insert G x0 v7 h4) fun v11 h8 => if v11 = (-1 : Int32) then ((if isZ (0 : Int32) = true then some (some (.int (0 : Int32)), h8) else none)) else ((f_Gr_insertRenamed_b2 G F) x0 x1 x2 (x3 + 1) h8))
theorem f_Gr_insertRenamed_b2_eq (G : Nat) (F : Nat) (x0 : Nat) (x1 : Nat) (x2 : Nat) (x3 : Int32) (h : pH) : f_Gr_insertRenamed_b2 G (F + 1) x0 x1 x2 x3 h = ((gI h x1 0 1).bind fun v1 => if v1 ≤ x3 then ((if isZ (1 : Int32) = true then some (some (.int (1 : Int32)), h) else none)) else ((gR h x1 0 0).bind fun v2 => (aI h v2 x3).bind fun v3 => cI true (f_Mg_renamed G v3 x2 h) fun v7 h4 => cI (oC h4 x0 0) (f_Gr_insert G x0 v7 h4) fun v11 h8 => if v11 = (-1 : Int32) then ((if isZ (0 : Int32) = true then some (some (.int (0 : Int32)), h8) else none)) else ((f_Gr_insertRenamed_b2 G F) x0 x1 x2 (x3 + 1) h8))) := rfl
def f_Gr_insertRenamed (G : Nat) (x0 : Nat) (x1 : Nat) (x2 : Nat) (h : pH) : Option pR := (f_Gr_insertRenamed_b2 G G) x0 x1 x2 (0 : Int32) h
theorem f_Gr_insertRenamed_eq (G : Nat) (x0 : Nat) (x1 : Nat) (x2 : Nat) (h : pH) : f_Gr_insertRenamed G x0 x1 x2 h = ((f_Gr_insertRenamed_b2 G G) x0 x1 x2 (0 : Int32) h) := rfl
set_option maxRecDepth 100000 in
set_option maxHeartbeats 4000000 in
theorem w_Gr_insertRenamed_b2 {X : zX} {r : pR} {G : Nat} (hQ : zQ X r) : ∀ (F : Nat) (x0 : Nat) (x1 : Nat) (x2 : Nat) (x3 : Int32) (h : pH), f_Gr_insertRenamed_b2 G F x0 x1 x2 x3 h = some r → Z X M_Gr_insertRenamed 0 0 h 2 [(0, .ref x0), (1, .ref x1), (2, .ref x2), (3, .int x3)] [] := by
  intro F
  induction F with
  | zero => intro x0 x1 x2 x3 h E; exact nomatch (show (none : Option pR) = some _ from E)
  | succ F ih =>
    intro x0 x1 x2 x3 h E
    rw [f_Gr_insertRenamed_b2_eq] at E
    refine z_iload_n 3 d_Gr_insertRenamed_2 rfl rfl ?_
    refine z_aload_n 1 d_Gr_insertRenamed_3 rfl rfl ?_
    refine z_getI (ci := 0) (j := 1) rfl (by decide) zf_Gr_15 d_Gr_insertRenamed_4 E (fun v1 _ E => ?_)
    refine z_ic_ge (tgt := 36) d_Gr_insertRenamed_7 (by decide) E (fun E => ?_) (fun E => ?_)
    · refine z_iconst (v := (1 : Int32)) d_Gr_insertRenamed_36 (by decide) ?_
      exact z_zreturn hQ rfl z00 d_Gr_insertRenamed_37 E
    · refine z_aload_n 0 d_Gr_insertRenamed_10 rfl rfl ?_
      refine z_aload_n 1 d_Gr_insertRenamed_11 rfl rfl ?_
      refine z_getR (ci := 0) (j := 0) rfl (by decide) zf_Gr_9 d_Gr_insertRenamed_12 E (fun v2 _ E => ?_)
      refine z_iload_n 3 d_Gr_insertRenamed_15 rfl rfl ?_
      refine z_iaload d_Gr_insertRenamed_16 E (fun v3 _ E => ?_)
      refine z_aload_n 2 d_Gr_insertRenamed_17 rfl rfl ?_
      obtain ⟨g5, v7, h4, e6, E⟩ := cI_some E
      refine z_invSN (y := y_Mg_renamed) (Mc := M_Mg_renamed) (av := [.int v3, .ref x2]) (rest := [.ref x0]) ⟨(List.mem_of_getElem? (i := 17) rfl), zt_505, zt_48⟩ zk_Mg_renamed zy_Mg_renamed (by decide) (Nat.le_of_ble_eq_true rfl) z00 rfl (Nat.le_of_ble_eq_true rfl) d_Gr_insertRenamed_18 (m_Mg_renamed e6) ?_
      show Z X M_Gr_insertRenamed 0 0 h4 21 [(0, .ref x0), (1, .ref x1), (2, .ref x2), (3, .int x3)] [.int v7, .ref x0]
      obtain ⟨g9, v11, h8, e10, E⟩ := cI_some E
      refine z_invV (ci := 0) (y := y_Gr_insert) (Mc := M_Gr_insert) (av := [.int v7]) (rest := []) rfl rfl ⟨zt_577, zt_277, zt_278, zt_49⟩ zk_Gr_insert zy_Gr_insert (by decide) (Nat.le_of_ble_eq_true rfl) z00 rfl (Nat.le_of_ble_eq_true rfl) d_Gr_insertRenamed_21 g9 (m_Gr_insert e10) ?_
      show Z X M_Gr_insertRenamed 0 0 h8 24 [(0, .ref x0), (1, .ref x1), (2, .ref x2), (3, .int x3)] [.int v11]
      refine z_iconst (v := (-1 : Int32)) d_Gr_insertRenamed_24 (by decide) ?_
      refine z_ic_ne (tgt := 30) d_Gr_insertRenamed_25 (by decide) E (fun E => ?_) (fun E => ?_)
      · refine z_iinc (v := (x3 + 1)) (lv2 := [(3, .int (x3 + 1)), (0, .ref x0), (1, .ref x1), (2, .ref x2)]) 3 d_Gr_insertRenamed_30 rfl rfl (Nat.le_of_ble_eq_true rfl) rfl ?_
        refine z_goto (tgt := 2) d_Gr_insertRenamed_33 (by decide) ?_
        refine z_lv [1, 2, 3, 0] rfl ?_
        exact ih x0 x1 x2 (x3 + 1) h8 E
      · refine z_iconst (v := (0 : Int32)) d_Gr_insertRenamed_28 (by decide) ?_
        exact z_zreturn hQ rfl z00 d_Gr_insertRenamed_29 E
set_option maxRecDepth 100000 in
set_option maxHeartbeats 4000000 in
theorem w_Gr_insertRenamed_b0 {X : zX} {r : pR} {G : Nat} (hQ : zQ X r) : ∀ (x0 : Nat) (x1 : Nat) (x2 : Nat) (h : pH), f_Gr_insertRenamed G x0 x1 x2 h = some r → Z X M_Gr_insertRenamed 0 0 h 0 [(0, .ref x0), (1, .ref x1), (2, .ref x2)] [] := by
  intro x0 x1 x2 h E
  rw [f_Gr_insertRenamed_eq] at E
  refine z_iconst (v := (0 : Int32)) d_Gr_insertRenamed_0 (by decide) ?_
  refine z_istore_n (lv2 := [(3, .int (0 : Int32)), (0, .ref x0), (1, .ref x1), (2, .ref x2)]) d_Gr_insertRenamed_1 rfl (Nat.le_of_ble_eq_true rfl) rfl ?_
  refine z_lv [1, 2, 3, 0] rfl ?_
  exact (w_Gr_insertRenamed_b2 hQ G) x0 x1 x2 (0 : Int32) h E
theorem m_Gr_insertRenamed {l : Launch} {G : Nat} {x0 : Nat} {x1 : Nat} {x2 : Nat} {h : pH} {r : pR} (E : f_Gr_insertRenamed G x0 x1 x2 h = some r) : zMet l y_Gr_insertRenamed M_Gr_insertRenamed 0 0 [.ref x0, .ref x1, .ref x2] h r :=
  zMet_of (by decide) rfl (Nat.le_of_ble_eq_true rfl) (fun p e s m args below meth c D0 cT => w_Gr_insertRenamed_b0 (X := (p, l, e, s, m, args, below, meth, c, D0, cT, h, _, 0, 0)) rfl x0 x1 x2 h E)
def f_Gr_subjects_b4 (G : Nat) : Nat → Nat → Int64 → Int32 → pH → Option pR
  | 0 => fun _ _ _ _ => none
  | F + 1 => fun x0 x1 x3 h => (gI h x0 0 1).bind fun v1 => if v1 ≤ x3 then (some (some (.long x1), h)) else ((gR h x0 0 0).bind fun v2 => (aI h v2 x3).bind fun v3 => cI true (f_Mg_subjectOf G v3 h) fun v7 h4 => (f_Gr_subjects_b4 G F) x0 (x1 ||| ((1 : Int64) <<< ((v7).toInt64 &&& 63))) (x3 + 1) h4)
theorem f_Gr_subjects_b4_eq (G : Nat) (F : Nat) (x0 : Nat) (x1 : Int64) (x3 : Int32) (h : pH) : f_Gr_subjects_b4 G (F + 1) x0 x1 x3 h = ((gI h x0 0 1).bind fun v1 => if v1 ≤ x3 then (some (some (.long x1), h)) else ((gR h x0 0 0).bind fun v2 => (aI h v2 x3).bind fun v3 => cI true (f_Mg_subjectOf G v3 h) fun v7 h4 => (f_Gr_subjects_b4 G F) x0 (x1 ||| ((1 : Int64) <<< ((v7).toInt64 &&& 63))) (x3 + 1) h4)) := rfl
def f_Gr_subjects (G : Nat) (x0 : Nat) (h : pH) : Option pR := (f_Gr_subjects_b4 G G) x0 (0 : Int64) (0 : Int32) h
theorem f_Gr_subjects_eq (G : Nat) (x0 : Nat) (h : pH) : f_Gr_subjects G x0 h = ((f_Gr_subjects_b4 G G) x0 (0 : Int64) (0 : Int32) h) := rfl
set_option maxRecDepth 100000 in
set_option maxHeartbeats 4000000 in
theorem w_Gr_subjects_b4 {X : zX} {r : pR} {G : Nat} (hQ : zQ X r) : ∀ (F : Nat) (x0 : Nat) (x1 : Int64) (x3 : Int32) (h : pH), f_Gr_subjects_b4 G F x0 x1 x3 h = some r → Z X M_Gr_subjects 0 0 h 4 [(0, .ref x0), (1, .long x1), (3, .int x3)] [] := by
  intro F
  induction F with
  | zero => intro x0 x1 x3 h E; exact nomatch (show (none : Option pR) = some _ from E)
  | succ F ih =>
    intro x0 x1 x3 h E
    rw [f_Gr_subjects_b4_eq] at E
    refine z_iload_n 2 d_Gr_subjects_4 rfl rfl ?_
    refine z_aload_n 0 d_Gr_subjects_5 rfl rfl ?_
    refine z_getI (ci := 0) (j := 1) rfl (by decide) zf_Gr_15 d_Gr_subjects_6 E (fun v1 _ E => ?_)
    refine z_ic_ge (tgt := 32) d_Gr_subjects_9 (by decide) E (fun E => ?_) (fun E => ?_)
    · refine z_lload_n 1 d_Gr_subjects_32 rfl rfl ?_
      exact z_lreturn hQ rfl z00 d_Gr_subjects_33 E
    · refine z_lload_n 1 d_Gr_subjects_12 rfl rfl ?_
      refine z_lconst (v := (1 : Int64)) d_Gr_subjects_13 (by decide) ?_
      refine z_aload_n 0 d_Gr_subjects_14 rfl rfl ?_
      refine z_getR (ci := 0) (j := 0) rfl (by decide) zf_Gr_9 d_Gr_subjects_15 E (fun v2 _ E => ?_)
      refine z_iload_n 2 d_Gr_subjects_18 rfl rfl ?_
      refine z_iaload d_Gr_subjects_19 E (fun v3 _ E => ?_)
      obtain ⟨g5, v7, h4, e6, E⟩ := cI_some E
      refine z_invSN (y := y_Mg_subjectOf) (Mc := M_Mg_subjectOf) (av := [.int v3]) (rest := [.long (1 : Int64), .long x1]) ⟨(List.mem_of_getElem? (i := 5) rfl), zt_330, zt_48⟩ zk_Mg_subjectOf zy_Mg_subjectOf (by decide) (Nat.le_of_ble_eq_true rfl) z00 rfl (Nat.le_of_ble_eq_true rfl) d_Gr_subjects_20 (m_Mg_subjectOf e6) ?_
      show Z X M_Gr_subjects 0 0 h4 23 [(0, .ref x0), (1, .long x1), (3, .int x3)] [.int v7, .long (1 : Int64), .long x1]
      refine z_lshl d_Gr_subjects_23 ?_
      refine z_lor d_Gr_subjects_24 ?_
      refine z_lstore_n (lv2 := [(1, .long (x1 ||| ((1 : Int64) <<< ((v7).toInt64 &&& 63)))), (0, .ref x0), (3, .int x3)]) d_Gr_subjects_25 rfl (Nat.le_of_ble_eq_true rfl) rfl ?_
      refine z_iinc (v := (x3 + 1)) (lv2 := [(3, .int (x3 + 1)), (1, .long (x1 ||| ((1 : Int64) <<< ((v7).toInt64 &&& 63)))), (0, .ref x0)]) 2 d_Gr_subjects_26 rfl rfl (Nat.le_of_ble_eq_true rfl) rfl ?_
      refine z_goto (tgt := 4) d_Gr_subjects_29 (by decide) ?_
      refine z_lv [2, 1, 0] rfl ?_
      exact ih x0 (x1 ||| ((1 : Int64) <<< ((v7).toInt64 &&& 63))) (x3 + 1) h4 E
set_option maxRecDepth 100000 in
set_option maxHeartbeats 4000000 in
theorem w_Gr_subjects_b0 {X : zX} {r : pR} {G : Nat} (hQ : zQ X r) : ∀ (x0 : Nat) (h : pH), f_Gr_subjects G x0 h = some r → Z X M_Gr_subjects 0 0 h 0 [(0, .ref x0)] [] := by
  intro x0 h E
  rw [f_Gr_subjects_eq] at E
  refine z_lconst (v := (0 : Int64)) d_Gr_subjects_0 (by decide) ?_
  refine z_lstore_n (lv2 := [(1, .long (0 : Int64)), (0, .ref x0)]) d_Gr_subjects_1 rfl (Nat.le_of_ble_eq_true rfl) rfl ?_
  refine z_iconst (v := (0 : Int32)) d_Gr_subjects_2 (by decide) ?_
  refine z_istore_n (lv2 := [(3, .int (0 : Int32)), (1, .long (0 : Int64)), (0, .ref x0)]) d_Gr_subjects_3 rfl (Nat.le_of_ble_eq_true rfl) rfl ?_
  refine z_lv [2, 1, 0] rfl ?_
  exact (w_Gr_subjects_b4 hQ G) x0 (0 : Int64) (0 : Int32) h E
theorem m_Gr_subjects {l : Launch} {G : Nat} {x0 : Nat} {h : pH} {r : pR} (E : f_Gr_subjects G x0 h = some r) : zMet l y_Gr_subjects M_Gr_subjects 0 0 [.ref x0] h r :=
  zMet_of (by decide) rfl (Nat.le_of_ble_eq_true rfl) (fun p e s m args below meth c D0 cT => w_Gr_subjects_b0 (X := (p, l, e, s, m, args, below, meth, c, D0, cT, h, _, 0, 0)) rfl x0 h E)
def f_Gr_terms_b4 (G : Nat) : Nat → Nat → Int64 → Int32 → pH → Option pR
  | 0 => fun _ _ _ _ => none
  | F + 1 => fun x0 x1 x3 h => (gI h x0 0 1).bind fun v1 => if v1 ≤ x3 then (some (some (.long x1), h)) else ((gR h x0 0 0).bind fun v2 => (aI h v2 x3).bind fun v3 => cI true (f_Mg_subjectOf G v3 h) fun v7 h4 => (gR h4 x0 0 0).bind fun v8 => (aI h4 v8 x3).bind fun v9 => cI true (f_Mg_objectOf G v9 h4) fun v13 h10 => (f_Gr_terms_b4 G F) x0 (x1 ||| (((1 : Int64) <<< ((v7).toInt64 &&& 63)) ||| ((1 : Int64) <<< ((v13).toInt64 &&& 63)))) (x3 + 1) h10)
theorem f_Gr_terms_b4_eq (G : Nat) (F : Nat) (x0 : Nat) (x1 : Int64) (x3 : Int32) (h : pH) : f_Gr_terms_b4 G (F + 1) x0 x1 x3 h = ((gI h x0 0 1).bind fun v1 => if v1 ≤ x3 then (some (some (.long x1), h)) else ((gR h x0 0 0).bind fun v2 => (aI h v2 x3).bind fun v3 => cI true (f_Mg_subjectOf G v3 h) fun v7 h4 => (gR h4 x0 0 0).bind fun v8 => (aI h4 v8 x3).bind fun v9 => cI true (f_Mg_objectOf G v9 h4) fun v13 h10 => (f_Gr_terms_b4 G F) x0 (x1 ||| (((1 : Int64) <<< ((v7).toInt64 &&& 63)) ||| ((1 : Int64) <<< ((v13).toInt64 &&& 63)))) (x3 + 1) h10)) := rfl
def f_Gr_terms (G : Nat) (x0 : Nat) (h : pH) : Option pR := (f_Gr_terms_b4 G G) x0 (0 : Int64) (0 : Int32) h
theorem f_Gr_terms_eq (G : Nat) (x0 : Nat) (h : pH) : f_Gr_terms G x0 h = ((f_Gr_terms_b4 G G) x0 (0 : Int64) (0 : Int32) h) := rfl
set_option maxRecDepth 100000 in
set_option maxHeartbeats 4000000 in
theorem w_Gr_terms_b4 {X : zX} {r : pR} {G : Nat} (hQ : zQ X r) : ∀ (F : Nat) (x0 : Nat) (x1 : Int64) (x3 : Int32) (h : pH), f_Gr_terms_b4 G F x0 x1 x3 h = some r → Z X M_Gr_terms 0 0 h 4 [(0, .ref x0), (1, .long x1), (3, .int x3)] [] := by
  intro F
  induction F with
  | zero => intro x0 x1 x3 h E; exact nomatch (show (none : Option pR) = some _ from E)
  | succ F ih =>
    intro x0 x1 x3 h E
    rw [f_Gr_terms_b4_eq] at E
    refine z_iload_n 2 d_Gr_terms_4 rfl rfl ?_
    refine z_aload_n 0 d_Gr_terms_5 rfl rfl ?_
    refine z_getI (ci := 0) (j := 1) rfl (by decide) zf_Gr_15 d_Gr_terms_6 E (fun v1 _ E => ?_)
    refine z_ic_ge (tgt := 44) d_Gr_terms_9 (by decide) E (fun E => ?_) (fun E => ?_)
    · refine z_lload_n 1 d_Gr_terms_44 rfl rfl ?_
      exact z_lreturn hQ rfl z00 d_Gr_terms_45 E
    · refine z_lload_n 1 d_Gr_terms_12 rfl rfl ?_
      refine z_lconst (v := (1 : Int64)) d_Gr_terms_13 (by decide) ?_
      refine z_aload_n 0 d_Gr_terms_14 rfl rfl ?_
      refine z_getR (ci := 0) (j := 0) rfl (by decide) zf_Gr_9 d_Gr_terms_15 E (fun v2 _ E => ?_)
      refine z_iload_n 2 d_Gr_terms_18 rfl rfl ?_
      refine z_iaload d_Gr_terms_19 E (fun v3 _ E => ?_)
      obtain ⟨g5, v7, h4, e6, E⟩ := cI_some E
      refine z_invSN (y := y_Mg_subjectOf) (Mc := M_Mg_subjectOf) (av := [.int v3]) (rest := [.long (1 : Int64), .long x1]) ⟨(List.mem_of_getElem? (i := 5) rfl), zt_330, zt_48⟩ zk_Mg_subjectOf zy_Mg_subjectOf (by decide) (Nat.le_of_ble_eq_true rfl) z00 rfl (Nat.le_of_ble_eq_true rfl) d_Gr_terms_20 (m_Mg_subjectOf e6) ?_
      show Z X M_Gr_terms 0 0 h4 23 [(0, .ref x0), (1, .long x1), (3, .int x3)] [.int v7, .long (1 : Int64), .long x1]
      refine z_lshl d_Gr_terms_23 ?_
      refine z_lconst (v := (1 : Int64)) d_Gr_terms_24 (by decide) ?_
      refine z_aload_n 0 d_Gr_terms_25 rfl rfl ?_
      refine z_getR (ci := 0) (j := 0) rfl (by decide) zf_Gr_9 d_Gr_terms_26 E (fun v8 _ E => ?_)
      refine z_iload_n 2 d_Gr_terms_29 rfl rfl ?_
      refine z_iaload d_Gr_terms_30 E (fun v9 _ E => ?_)
      obtain ⟨g11, v13, h10, e12, E⟩ := cI_some E
      refine z_invSN (y := y_Mg_objectOf) (Mc := M_Mg_objectOf) (av := [.int v9]) (rest := [.long (1 : Int64), .long ((1 : Int64) <<< ((v7).toInt64 &&& 63)), .long x1]) ⟨(List.mem_of_getElem? (i := 6) rfl), zt_333, zt_48⟩ zk_Mg_objectOf zy_Mg_objectOf (by decide) (Nat.le_of_ble_eq_true rfl) z00 rfl (Nat.le_of_ble_eq_true rfl) d_Gr_terms_31 (m_Mg_objectOf e12) ?_
      show Z X M_Gr_terms 0 0 h10 34 [(0, .ref x0), (1, .long x1), (3, .int x3)] [.int v13, .long (1 : Int64), .long ((1 : Int64) <<< ((v7).toInt64 &&& 63)), .long x1]
      refine z_lshl d_Gr_terms_34 ?_
      refine z_lor d_Gr_terms_35 ?_
      refine z_lor d_Gr_terms_36 ?_
      refine z_lstore_n (lv2 := [(1, .long (x1 ||| (((1 : Int64) <<< ((v7).toInt64 &&& 63)) ||| ((1 : Int64) <<< ((v13).toInt64 &&& 63))))), (0, .ref x0), (3, .int x3)]) d_Gr_terms_37 rfl (Nat.le_of_ble_eq_true rfl) rfl ?_
      refine z_iinc (v := (x3 + 1)) (lv2 := [(3, .int (x3 + 1)), (1, .long (x1 ||| (((1 : Int64) <<< ((v7).toInt64 &&& 63)) ||| ((1 : Int64) <<< ((v13).toInt64 &&& 63))))), (0, .ref x0)]) 2 d_Gr_terms_38 rfl rfl (Nat.le_of_ble_eq_true rfl) rfl ?_
      refine z_goto (tgt := 4) d_Gr_terms_41 (by decide) ?_
      refine z_lv [2, 1, 0] rfl ?_
      exact ih x0 (x1 ||| (((1 : Int64) <<< ((v7).toInt64 &&& 63)) ||| ((1 : Int64) <<< ((v13).toInt64 &&& 63)))) (x3 + 1) h10 E
set_option maxRecDepth 100000 in
set_option maxHeartbeats 4000000 in
theorem w_Gr_terms_b0 {X : zX} {r : pR} {G : Nat} (hQ : zQ X r) : ∀ (x0 : Nat) (h : pH), f_Gr_terms G x0 h = some r → Z X M_Gr_terms 0 0 h 0 [(0, .ref x0)] [] := by
  intro x0 h E
  rw [f_Gr_terms_eq] at E
  refine z_lconst (v := (0 : Int64)) d_Gr_terms_0 (by decide) ?_
  refine z_lstore_n (lv2 := [(1, .long (0 : Int64)), (0, .ref x0)]) d_Gr_terms_1 rfl (Nat.le_of_ble_eq_true rfl) rfl ?_
  refine z_iconst (v := (0 : Int32)) d_Gr_terms_2 (by decide) ?_
  refine z_istore_n (lv2 := [(3, .int (0 : Int32)), (1, .long (0 : Int64)), (0, .ref x0)]) d_Gr_terms_3 rfl (Nat.le_of_ble_eq_true rfl) rfl ?_
  refine z_lv [2, 1, 0] rfl ?_
  exact (w_Gr_terms_b4 hQ G) x0 (0 : Int64) (0 : Int32) h E
theorem m_Gr_terms {l : Launch} {G : Nat} {x0 : Nat} {h : pH} {r : pR} (E : f_Gr_terms G x0 h = some r) : zMet l y_Gr_terms M_Gr_terms 0 0 [.ref x0] h r :=
  zMet_of (by decide) rfl (Nat.le_of_ble_eq_true rfl) (fun p e s m args below meth c D0 cT => w_Gr_terms_b0 (X := (p, l, e, s, m, args, below, meth, c, D0, cT, h, _, 0, 0)) rfl x0 h E)
def f_Gr_nodes (G : Nat) (x0 : Nat) (h : pH) : Option pR := cJ (oC h x0 0) (f_Gr_terms G x0 h) fun v4 h1 => some (some (.long (v4 &&& (69269232549888 : Int64))), h1)
theorem f_Gr_nodes_eq (G : Nat) (x0 : Nat) (h : pH) : f_Gr_nodes G x0 h = (cJ (oC h x0 0) (f_Gr_terms G x0 h) fun v4 h1 => some (some (.long (v4 &&& (69269232549888 : Int64))), h1)) := rfl
set_option maxRecDepth 100000 in
set_option maxHeartbeats 4000000 in
theorem w_Gr_nodes_b0 {X : zX} {r : pR} {G : Nat} (hQ : zQ X r) : ∀ (x0 : Nat) (h : pH), f_Gr_nodes G x0 h = some r → Z X M_Gr_nodes 0 0 h 0 [(0, .ref x0)] [] := by
  intro x0 h E
  rw [f_Gr_nodes_eq] at E
  refine z_aload_n 0 d_Gr_nodes_0 rfl rfl ?_
  obtain ⟨g2, v4, h1, e3, E⟩ := cJ_some E
  refine z_invV (ci := 0) (y := y_Gr_terms) (Mc := M_Gr_terms) (av := []) (rest := []) rfl rfl ⟨zt_325, zt_326, zt_327, zt_49⟩ zk_Gr_terms zy_Gr_terms (by decide) (Nat.le_of_ble_eq_true rfl) z00 rfl (Nat.le_of_ble_eq_true rfl) d_Gr_nodes_1 g2 (m_Gr_terms e3) ?_
  show Z X M_Gr_nodes 0 0 h1 4 [(0, .ref x0)] [.long v4]
  refine z_ldc2 (v := (69269232549888 : Int64)) d_Gr_nodes_4 zt_335 ?_
  refine z_land d_Gr_nodes_7 ?_
  exact z_lreturn hQ rfl z00 d_Gr_nodes_8 E
theorem m_Gr_nodes {l : Launch} {G : Nat} {x0 : Nat} {h : pH} {r : pR} (E : f_Gr_nodes G x0 h = some r) : zMet l y_Gr_nodes M_Gr_nodes 0 0 [.ref x0] h r :=
  zMet_of (by decide) rfl (Nat.le_of_ble_eq_true rfl) (fun p e s m args below meth c D0 cT => w_Gr_nodes_b0 (X := (p, l, e, s, m, args, below, meth, c, D0, cT, h, _, 0, 0)) rfl x0 h E)
def f_Gr_termsMissing_b56 (G : Nat) (k5 : Nat → Nat → Int64 → Int32 → pH → Option pR) (x0 : Nat) (x1 : Nat) (x2 : Int64) (x4 : Int32) (h : pH) : Option pR := k5 x0 x1 x2 (x4 + 1) h
theorem f_Gr_termsMissing_b56_eq (G : Nat) (k5 : Nat → Nat → Int64 → Int32 → pH → Option pR) (x0 : Nat) (x1 : Nat) (x2 : Int64) (x4 : Int32) (h : pH) : f_Gr_termsMissing_b56 G k5 x0 x1 x2 x4 h = (k5 x0 x1 x2 (x4 + 1) h) := rfl
def f_Gr_termsMissing_b5 (G : Nat) : Nat → Nat → Nat → Int64 → Int32 → pH → Option pR
  | 0 => fun _ _ _ _ _ => none
  | F + 1 => fun x0 x1 x2 x4 h => (gI h x0 0 1).bind fun v1 => if v1 ≤ x4 then (some (some (.long x2), h)) else ((gR h x0 0 0).bind fun v2 => (aI h v2 x4).bind fun v3 => cI (oC h x1 0) (f_Gr_has G x1 v3 h) fun v7 h4 => if v7 = 0 then ((gR h4 x0 0 0).bind fun v8 => (aI h4 v8 x4).bind fun v9 => cI true (f_Mg_subjectOf G v9 h4) fun v13 h10 => (gR h10 x0 0 0).bind fun v14 => (aI h10 v14 x4).bind fun v15 => cI true (f_Mg_objectOf G v15 h10) fun v19 h16 => (f_Gr_termsMissing_b56 G (f_Gr_termsMissing_b5 G F)) x0 x1 (x2 ||| (((1 : Int64) <<< ((v13).toInt64 &&& 63)) ||| ((1 : Int64) <<< ((v19).toInt64 &&& 63)))) x4 h16) else ((f_Gr_termsMissing_b56 G (f_Gr_termsMissing_b5 G F)) x0 x1 x2 x4 h4))
theorem f_Gr_termsMissing_b5_eq (G : Nat) (F : Nat) (x0 : Nat) (x1 : Nat) (x2 : Int64) (x4 : Int32) (h : pH) : f_Gr_termsMissing_b5 G (F + 1) x0 x1 x2 x4 h = ((gI h x0 0 1).bind fun v1 => if v1 ≤ x4 then (some (some (.long x2), h)) else ((gR h x0 0 0).bind fun v2 => (aI h v2 x4).bind fun v3 => cI (oC h x1 0) (f_Gr_has G x1 v3 h) fun v7 h4 => if v7 = 0 then ((gR h4 x0 0 0).bind fun v8 => (aI h4 v8 x4).bind fun v9 => cI true (f_Mg_subjectOf G v9 h4) fun v13 h10 => (gR h10 x0 0 0).bind fun v14 => (aI h10 v14 x4).bind fun v15 => cI true (f_Mg_objectOf G v15 h10) fun v19 h16 => (f_Gr_termsMissing_b56 G (f_Gr_termsMissing_b5 G F)) x0 x1 (x2 ||| (((1 : Int64) <<< ((v13).toInt64 &&& 63)) ||| ((1 : Int64) <<< ((v19).toInt64 &&& 63)))) x4 h16) else ((f_Gr_termsMissing_b56 G (f_Gr_termsMissing_b5 G F)) x0 x1 x2 x4 h4))) := rfl
def f_Gr_termsMissing (G : Nat) (x0 : Nat) (x1 : Nat) (h : pH) : Option pR := (f_Gr_termsMissing_b5 G G) x0 x1 (0 : Int64) (0 : Int32) h
theorem f_Gr_termsMissing_eq (G : Nat) (x0 : Nat) (x1 : Nat) (h : pH) : f_Gr_termsMissing G x0 x1 h = ((f_Gr_termsMissing_b5 G G) x0 x1 (0 : Int64) (0 : Int32) h) := rfl
set_option maxRecDepth 100000 in
set_option maxHeartbeats 4000000 in
theorem w_Gr_termsMissing_b56 {X : zX} {r : pR} {G : Nat} {k5 : Nat → Nat → Int64 → Int32 → pH → Option pR} (hQ : zQ X r) (hk5 : ∀ (x0 : Nat) (x1 : Nat) (x2 : Int64) (x4 : Int32) (h : pH), k5 x0 x1 x2 x4 h = some r → Z X M_Gr_termsMissing 0 0 h 5 [(0, .ref x0), (1, .ref x1), (2, .long x2), (4, .int x4)] []) : ∀ (x0 : Nat) (x1 : Nat) (x2 : Int64) (x4 : Int32) (h : pH), f_Gr_termsMissing_b56 G k5 x0 x1 x2 x4 h = some r → Z X M_Gr_termsMissing 0 0 h 56 [(0, .ref x0), (1, .ref x1), (2, .long x2), (4, .int x4)] [] := by
  intro x0 x1 x2 x4 h E
  rw [f_Gr_termsMissing_b56_eq] at E
  refine z_iinc (v := (x4 + 1)) (lv2 := [(4, .int (x4 + 1)), (0, .ref x0), (1, .ref x1), (2, .long x2)]) 3 d_Gr_termsMissing_56 rfl rfl (Nat.le_of_ble_eq_true rfl) rfl ?_
  refine z_goto (tgt := 5) d_Gr_termsMissing_59 (by decide) ?_
  refine z_lv [1, 2, 3, 0] rfl ?_
  exact hk5 x0 x1 x2 (x4 + 1) h E
set_option maxRecDepth 100000 in
set_option maxHeartbeats 4000000 in
theorem w_Gr_termsMissing_b5 {X : zX} {r : pR} {G : Nat} (hQ : zQ X r) : ∀ (F : Nat) (x0 : Nat) (x1 : Nat) (x2 : Int64) (x4 : Int32) (h : pH), f_Gr_termsMissing_b5 G F x0 x1 x2 x4 h = some r → Z X M_Gr_termsMissing 0 0 h 5 [(0, .ref x0), (1, .ref x1), (2, .long x2), (4, .int x4)] [] := by
  intro F
  induction F with
  | zero => intro x0 x1 x2 x4 h E; exact nomatch (show (none : Option pR) = some _ from E)
  | succ F ih =>
    intro x0 x1 x2 x4 h E
    rw [f_Gr_termsMissing_b5_eq] at E
    refine z_iload 3 d_Gr_termsMissing_5 rfl ?_
    refine z_aload_n 0 d_Gr_termsMissing_7 rfl rfl ?_
    refine z_getI (ci := 0) (j := 1) rfl (by decide) zf_Gr_15 d_Gr_termsMissing_8 E (fun v1 _ E => ?_)
    refine z_ic_ge (tgt := 62) d_Gr_termsMissing_11 (by decide) E (fun E => ?_) (fun E => ?_)
    · refine z_lload_n 2 d_Gr_termsMissing_62 rfl rfl ?_
      exact z_lreturn hQ rfl z00 d_Gr_termsMissing_63 E
    · refine z_aload_n 1 d_Gr_termsMissing_14 rfl rfl ?_
      refine z_aload_n 0 d_Gr_termsMissing_15 rfl rfl ?_
      refine z_getR (ci := 0) (j := 0) rfl (by decide) zf_Gr_9 d_Gr_termsMissing_16 E (fun v2 _ E => ?_)
      refine z_iload 3 d_Gr_termsMissing_19 rfl ?_
      refine z_iaload d_Gr_termsMissing_21 E (fun v3 _ E => ?_)
      obtain ⟨g5, v7, h4, e6, E⟩ := cI_some E
      refine z_invV (ci := 0) (y := y_Gr_has) (Mc := M_Gr_has) (av := [.int v3]) (rest := []) rfl rfl ⟨zt_606, zt_607, zt_608, zt_49⟩ zk_Gr_has zy_Gr_has (by decide) (Nat.le_of_ble_eq_true rfl) z00 rfl (Nat.le_of_ble_eq_true rfl) d_Gr_termsMissing_22 g5 (m_Gr_has e6) ?_
      show Z X M_Gr_termsMissing 0 0 h4 25 [(0, .ref x0), (1, .ref x1), (2, .long x2), (4, .int x4)] [.int v7]
      refine z_if_ne (y := 0) (tgt := 56) d_Gr_termsMissing_25 (by decide) E (fun E => ?_) (fun E => ?_)
      · exact (w_Gr_termsMissing_b56 hQ ih) x0 x1 x2 x4 h4 E
      · refine z_lload_n 2 d_Gr_termsMissing_28 rfl rfl ?_
        refine z_lconst (v := (1 : Int64)) d_Gr_termsMissing_29 (by decide) ?_
        refine z_aload_n 0 d_Gr_termsMissing_30 rfl rfl ?_
        refine z_getR (ci := 0) (j := 0) rfl (by decide) zf_Gr_9 d_Gr_termsMissing_31 E (fun v8 _ E => ?_)
        refine z_iload 3 d_Gr_termsMissing_34 rfl ?_
        refine z_iaload d_Gr_termsMissing_36 E (fun v9 _ E => ?_)
        obtain ⟨g11, v13, h10, e12, E⟩ := cI_some E
        refine z_invSN (y := y_Mg_subjectOf) (Mc := M_Mg_subjectOf) (av := [.int v9]) (rest := [.long (1 : Int64), .long x2]) ⟨(List.mem_of_getElem? (i := 5) rfl), zt_330, zt_48⟩ zk_Mg_subjectOf zy_Mg_subjectOf (by decide) (Nat.le_of_ble_eq_true rfl) z00 rfl (Nat.le_of_ble_eq_true rfl) d_Gr_termsMissing_37 (m_Mg_subjectOf e12) ?_
        show Z X M_Gr_termsMissing 0 0 h10 40 [(0, .ref x0), (1, .ref x1), (2, .long x2), (4, .int x4)] [.int v13, .long (1 : Int64), .long x2]
        refine z_lshl d_Gr_termsMissing_40 ?_
        refine z_lconst (v := (1 : Int64)) d_Gr_termsMissing_41 (by decide) ?_
        refine z_aload_n 0 d_Gr_termsMissing_42 rfl rfl ?_
        refine z_getR (ci := 0) (j := 0) rfl (by decide) zf_Gr_9 d_Gr_termsMissing_43 E (fun v14 _ E => ?_)
        refine z_iload 3 d_Gr_termsMissing_46 rfl ?_
        refine z_iaload d_Gr_termsMissing_48 E (fun v15 _ E => ?_)
        obtain ⟨g17, v19, h16, e18, E⟩ := cI_some E
        refine z_invSN (y := y_Mg_objectOf) (Mc := M_Mg_objectOf) (av := [.int v15]) (rest := [.long (1 : Int64), .long ((1 : Int64) <<< ((v13).toInt64 &&& 63)), .long x2]) ⟨(List.mem_of_getElem? (i := 6) rfl), zt_333, zt_48⟩ zk_Mg_objectOf zy_Mg_objectOf (by decide) (Nat.le_of_ble_eq_true rfl) z00 rfl (Nat.le_of_ble_eq_true rfl) d_Gr_termsMissing_49 (m_Mg_objectOf e18) ?_
        show Z X M_Gr_termsMissing 0 0 h16 52 [(0, .ref x0), (1, .ref x1), (2, .long x2), (4, .int x4)] [.int v19, .long (1 : Int64), .long ((1 : Int64) <<< ((v13).toInt64 &&& 63)), .long x2]
        refine z_lshl d_Gr_termsMissing_52 ?_
        refine z_lor d_Gr_termsMissing_53 ?_
        refine z_lor d_Gr_termsMissing_54 ?_
        refine z_lstore_n (lv2 := [(2, .long (x2 ||| (((1 : Int64) <<< ((v13).toInt64 &&& 63)) ||| ((1 : Int64) <<< ((v19).toInt64 &&& 63))))), (0, .ref x0), (1, .ref x1), (4, .int x4)]) d_Gr_termsMissing_55 rfl (Nat.le_of_ble_eq_true rfl) rfl ?_
        refine z_lv [1, 2, 0, 3] rfl ?_
        exact (w_Gr_termsMissing_b56 hQ ih) x0 x1 (x2 ||| (((1 : Int64) <<< ((v13).toInt64 &&& 63)) ||| ((1 : Int64) <<< ((v19).toInt64 &&& 63)))) x4 h16 E
set_option maxRecDepth 100000 in
set_option maxHeartbeats 4000000 in
theorem w_Gr_termsMissing_b0 {X : zX} {r : pR} {G : Nat} (hQ : zQ X r) : ∀ (x0 : Nat) (x1 : Nat) (h : pH), f_Gr_termsMissing G x0 x1 h = some r → Z X M_Gr_termsMissing 0 0 h 0 [(0, .ref x0), (1, .ref x1)] [] := by
  intro x0 x1 h E
  rw [f_Gr_termsMissing_eq] at E
  refine z_lconst (v := (0 : Int64)) d_Gr_termsMissing_0 (by decide) ?_
  refine z_lstore_n (lv2 := [(2, .long (0 : Int64)), (0, .ref x0), (1, .ref x1)]) d_Gr_termsMissing_1 rfl (Nat.le_of_ble_eq_true rfl) rfl ?_
  refine z_iconst (v := (0 : Int32)) d_Gr_termsMissing_2 (by decide) ?_
  refine z_istore (lv2 := [(4, .int (0 : Int32)), (2, .long (0 : Int64)), (0, .ref x0), (1, .ref x1)]) d_Gr_termsMissing_3 (Nat.le_of_ble_eq_true rfl) rfl ?_
  refine z_lv [2, 3, 1, 0] rfl ?_
  exact (w_Gr_termsMissing_b5 hQ G) x0 x1 (0 : Int64) (0 : Int32) h E
theorem m_Gr_termsMissing {l : Launch} {G : Nat} {x0 : Nat} {x1 : Nat} {h : pH} {r : pR} (E : f_Gr_termsMissing G x0 x1 h = some r) : zMet l y_Gr_termsMissing M_Gr_termsMissing 0 0 [.ref x0, .ref x1] h r :=
  zMet_of (by decide) rfl (Nat.le_of_ble_eq_true rfl) (fun p e s m args below meth c D0 cT => w_Gr_termsMissing_b0 (X := (p, l, e, s, m, args, below, meth, c, D0, cT, h, _, 0, 0)) rfl x0 x1 h E)

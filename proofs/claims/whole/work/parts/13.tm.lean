def y_Mg_graphAt : MethodName := ⟨"MergeGraphs", "graphAt", "(I)LMergeGraphs$Graph;"⟩
abbrev M_Mg_graphAt : zM := (nR3, prog_1_method_20_code, 2, (some (.object "MergeGraphs$Graph")), 6)
set_option maxRecDepth 100000 in
theorem zk_Mg_graphAt : Cond.code y_Mg_graphAt (M_Mg_graphAt).2.1 (M_Mg_graphAt).2.2.1 (M_Mg_graphAt).2.2.2.1 ∈ zTg := zmem 185 rfl rfl
theorem zy_Mg_graphAt : (y_Mg_graphAt).cls ≠ "java/lang/invoke/MethodHandle" ∧ (y_Mg_graphAt).cls ≠ "java/lang/invoke/VarHandle" ∧ (parseMethodDescriptor (y_Mg_graphAt).desc).map (fun d => d.parameters.length) = some 1 := by decide +kernel
theorem d_Mg_graphAt_0 : decode prog_1_method_20_code 0 = .ok (.iload_n 1, 1) := by decide +kernel
theorem d_Mg_graphAt_1 : decode prog_1_method_20_code 1 = .ok (.ifCond .lt 9, 3) := by decide +kernel
theorem d_Mg_graphAt_4 : decode prog_1_method_20_code 4 = .ok (.iload_n 1, 1) := by decide +kernel
theorem d_Mg_graphAt_5 : decode prog_1_method_20_code 5 = .ok (.bipush 6, 2) := by decide +kernel
theorem d_Mg_graphAt_7 : decode prog_1_method_20_code 7 = .ok (.if_icmp .lt 13, 3) := by decide +kernel
theorem d_Mg_graphAt_10 : decode prog_1_method_20_code 10 = .ok (.new 87, 3) := by decide +kernel
theorem d_Mg_graphAt_13 : decode prog_1_method_20_code 13 = .ok (.dup, 1) := by decide +kernel
theorem d_Mg_graphAt_14 : decode prog_1_method_20_code 14 = .ok (.ldc 164, 2) := by decide +kernel
theorem d_Mg_graphAt_16 : decode prog_1_method_20_code 16 = .ok (.invokespecial 91, 3) := by decide +kernel
theorem d_Mg_graphAt_19 : decode prog_1_method_20_code 19 = .ok (.athrow, 1) := by decide +kernel
theorem d_Mg_graphAt_20 : decode prog_1_method_20_code 20 = .ok (.aload_n 0, 1) := by decide +kernel
theorem d_Mg_graphAt_21 : decode prog_1_method_20_code 21 = .ok (.getfield 11, 3) := by decide +kernel
theorem d_Mg_graphAt_24 : decode prog_1_method_20_code 24 = .ok (.iload_n 1, 1) := by decide +kernel
theorem d_Mg_graphAt_25 : decode prog_1_method_20_code 25 = .ok (.aaload, 1) := by decide +kernel
theorem d_Mg_graphAt_26 : decode prog_1_method_20_code 26 = .ok (.areturn, 1) := by decide +kernel
theorem zf_Mg_11 : Cond.fieldLink nR3 11 (nT3 0).1 (nT3 0).2.1 (nT3 0).2.2.1 ∈ zTg := zmem 145 (by decide +kernel) (by decide +kernel)
theorem zt_56 : (Cond.initialized "java/lang/IndexOutOfBoundsException") ∈ zTg := zmem 56 (by decide +kernel) (by decide +kernel)
theorem zt_186 : (Cond.classLink "MergeGraphs" (87 : Nat) "java/lang/IndexOutOfBoundsException") ∈ zTg := zmem 186 (by decide +kernel) (by decide +kernel)
def y_Mg_checkFact : MethodName := ⟨"MergeGraphs", "checkFact", "(LMergeGraphs$Graph;I)V"⟩
abbrev M_Mg_checkFact : zM := (nR3, prog_1_method_21_code, 2, none, 6)
set_option maxRecDepth 100000 in
theorem zk_Mg_checkFact : Cond.code y_Mg_checkFact (M_Mg_checkFact).2.1 (M_Mg_checkFact).2.2.1 (M_Mg_checkFact).2.2.2.1 ∈ zTg := zmem 353 rfl rfl
theorem zy_Mg_checkFact : (y_Mg_checkFact).cls ≠ "java/lang/invoke/MethodHandle" ∧ (y_Mg_checkFact).cls ≠ "java/lang/invoke/VarHandle" ∧ (parseMethodDescriptor (y_Mg_checkFact).desc).map (fun d => d.parameters.length) = some 2 := by decide +kernel
theorem d_Mg_checkFact_0 : decode prog_1_method_21_code 0 = .ok (.iload_n 1, 1) := by decide +kernel
theorem d_Mg_checkFact_1 : decode prog_1_method_21_code 1 = .ok (.ifCond .lt 11, 3) := by decide +kernel
theorem d_Mg_checkFact_4 : decode prog_1_method_21_code 4 = .ok (.iload_n 1, 1) := by decide +kernel
theorem d_Mg_checkFact_5 : decode prog_1_method_21_code 5 = .ok (.aload_n 0, 1) := by decide +kernel
theorem d_Mg_checkFact_6 : decode prog_1_method_21_code 6 = .ok (.invokevirtual 70, 3) := by decide +kernel
theorem d_Mg_checkFact_9 : decode prog_1_method_21_code 9 = .ok (.if_icmp .lt 13, 3) := by decide +kernel
theorem d_Mg_checkFact_12 : decode prog_1_method_21_code 12 = .ok (.new 87, 3) := by decide +kernel
theorem d_Mg_checkFact_15 : decode prog_1_method_21_code 15 = .ok (.dup, 1) := by decide +kernel
theorem d_Mg_checkFact_16 : decode prog_1_method_21_code 16 = .ok (.ldc 152, 2) := by decide +kernel
theorem d_Mg_checkFact_18 : decode prog_1_method_21_code 18 = .ok (.invokespecial 91, 3) := by decide +kernel
theorem d_Mg_checkFact_21 : decode prog_1_method_21_code 21 = .ok (.athrow, 1) := by decide +kernel
theorem d_Mg_checkFact_22 : decode prog_1_method_21_code 22 = .ok (.return_, 1) := by decide +kernel
def y_Mg_checkOneOfTwo : MethodName := ⟨"MergeGraphs", "checkOneOfTwo", "(I)V"⟩
abbrev M_Mg_checkOneOfTwo : zM := (nR3, prog_1_method_22_code, 1, none, 6)
set_option maxRecDepth 100000 in
theorem zk_Mg_checkOneOfTwo : Cond.code y_Mg_checkOneOfTwo (M_Mg_checkOneOfTwo).2.1 (M_Mg_checkOneOfTwo).2.2.1 (M_Mg_checkOneOfTwo).2.2.2.1 ∈ zTg := zmem 639 rfl rfl
theorem zy_Mg_checkOneOfTwo : (y_Mg_checkOneOfTwo).cls ≠ "java/lang/invoke/MethodHandle" ∧ (y_Mg_checkOneOfTwo).cls ≠ "java/lang/invoke/VarHandle" ∧ (parseMethodDescriptor (y_Mg_checkOneOfTwo).desc).map (fun d => d.parameters.length) = some 1 := by decide +kernel
theorem d_Mg_checkOneOfTwo_0 : decode prog_1_method_22_code 0 = .ok (.iload_n 0, 1) := by decide +kernel
theorem d_Mg_checkOneOfTwo_1 : decode prog_1_method_22_code 1 = .ok (.ifCond .eq 18, 3) := by decide +kernel
theorem d_Mg_checkOneOfTwo_4 : decode prog_1_method_22_code 4 = .ok (.iload_n 0, 1) := by decide +kernel
theorem d_Mg_checkOneOfTwo_5 : decode prog_1_method_22_code 5 = .ok (.iconst 1, 1) := by decide +kernel
theorem d_Mg_checkOneOfTwo_6 : decode prog_1_method_22_code 6 = .ok (.if_icmp .eq 13, 3) := by decide +kernel
theorem d_Mg_checkOneOfTwo_9 : decode prog_1_method_22_code 9 = .ok (.new 87, 3) := by decide +kernel
theorem d_Mg_checkOneOfTwo_12 : decode prog_1_method_22_code 12 = .ok (.dup, 1) := by decide +kernel
theorem d_Mg_checkOneOfTwo_13 : decode prog_1_method_22_code 13 = .ok (.ldc 89, 2) := by decide +kernel
theorem d_Mg_checkOneOfTwo_15 : decode prog_1_method_22_code 15 = .ok (.invokespecial 91, 3) := by decide +kernel
theorem d_Mg_checkOneOfTwo_18 : decode prog_1_method_22_code 18 = .ok (.athrow, 1) := by decide +kernel
theorem d_Mg_checkOneOfTwo_19 : decode prog_1_method_22_code 19 = .ok (.return_, 1) := by decide +kernel
def y_Mg_checkedNumber : MethodName := ⟨"MergeGraphs", "checkedNumber", "(III)I"⟩
abbrev M_Mg_checkedNumber : zM := (nR3, prog_1_method_23_code, 3, (some .int), 6)
set_option maxRecDepth 100000 in
theorem zk_Mg_checkedNumber : Cond.code y_Mg_checkedNumber (M_Mg_checkedNumber).2.1 (M_Mg_checkedNumber).2.2.1 (M_Mg_checkedNumber).2.2.2.1 ∈ zTg := zmem 255 rfl rfl
theorem zy_Mg_checkedNumber : (y_Mg_checkedNumber).cls ≠ "java/lang/invoke/MethodHandle" ∧ (y_Mg_checkedNumber).cls ≠ "java/lang/invoke/VarHandle" ∧ (parseMethodDescriptor (y_Mg_checkedNumber).desc).map (fun d => d.parameters.length) = some 3 := by decide +kernel
theorem d_Mg_checkedNumber_0 : decode prog_1_method_23_code 0 = .ok (.iload_n 0, 1) := by decide +kernel
theorem d_Mg_checkedNumber_1 : decode prog_1_method_23_code 1 = .ok (.ifCond .lt 19, 3) := by decide +kernel
theorem d_Mg_checkedNumber_4 : decode prog_1_method_23_code 4 = .ok (.iload_n 0, 1) := by decide +kernel
theorem d_Mg_checkedNumber_5 : decode prog_1_method_23_code 5 = .ok (.bipush 46, 2) := by decide +kernel
theorem d_Mg_checkedNumber_7 : decode prog_1_method_23_code 7 = .ok (.if_icmp .ge 13, 3) := by decide +kernel
theorem d_Mg_checkedNumber_10 : decode prog_1_method_23_code 10 = .ok (.iload_n 2, 1) := by decide +kernel
theorem d_Mg_checkedNumber_11 : decode prog_1_method_23_code 11 = .ok (.ifCond .lt 9, 3) := by decide +kernel
theorem d_Mg_checkedNumber_14 : decode prog_1_method_23_code 14 = .ok (.iload_n 2, 1) := by decide +kernel
theorem d_Mg_checkedNumber_15 : decode prog_1_method_23_code 15 = .ok (.bipush 46, 2) := by decide +kernel
theorem d_Mg_checkedNumber_17 : decode prog_1_method_23_code 17 = .ok (.if_icmp .lt 13, 3) := by decide +kernel
theorem d_Mg_checkedNumber_20 : decode prog_1_method_23_code 20 = .ok (.new 166, 3) := by decide +kernel
theorem d_Mg_checkedNumber_23 : decode prog_1_method_23_code 23 = .ok (.dup, 1) := by decide +kernel
theorem d_Mg_checkedNumber_24 : decode prog_1_method_23_code 24 = .ok (.ldc 168, 2) := by decide +kernel
theorem d_Mg_checkedNumber_26 : decode prog_1_method_23_code 26 = .ok (.invokespecial 170, 3) := by decide +kernel
theorem d_Mg_checkedNumber_29 : decode prog_1_method_23_code 29 = .ok (.athrow, 1) := by decide +kernel
theorem d_Mg_checkedNumber_30 : decode prog_1_method_23_code 30 = .ok (.iload_n 1, 1) := by decide +kernel
theorem d_Mg_checkedNumber_31 : decode prog_1_method_23_code 31 = .ok (.ifCond .lt 9, 3) := by decide +kernel
theorem d_Mg_checkedNumber_34 : decode prog_1_method_23_code 34 = .ok (.iload_n 1, 1) := by decide +kernel
theorem d_Mg_checkedNumber_35 : decode prog_1_method_23_code 35 = .ok (.bipush 40, 2) := by decide +kernel
theorem d_Mg_checkedNumber_37 : decode prog_1_method_23_code 37 = .ok (.if_icmp .lt 13, 3) := by decide +kernel
theorem d_Mg_checkedNumber_40 : decode prog_1_method_23_code 40 = .ok (.new 166, 3) := by decide +kernel
theorem d_Mg_checkedNumber_43 : decode prog_1_method_23_code 43 = .ok (.dup, 1) := by decide +kernel
theorem d_Mg_checkedNumber_44 : decode prog_1_method_23_code 44 = .ok (.ldc 171, 2) := by decide +kernel
theorem d_Mg_checkedNumber_46 : decode prog_1_method_23_code 46 = .ok (.invokespecial 170, 3) := by decide +kernel
theorem d_Mg_checkedNumber_49 : decode prog_1_method_23_code 49 = .ok (.athrow, 1) := by decide +kernel
theorem d_Mg_checkedNumber_50 : decode prog_1_method_23_code 50 = .ok (.iload_n 0, 1) := by decide +kernel
theorem d_Mg_checkedNumber_51 : decode prog_1_method_23_code 51 = .ok (.iload_n 1, 1) := by decide +kernel
theorem d_Mg_checkedNumber_52 : decode prog_1_method_23_code 52 = .ok (.iload_n 2, 1) := by decide +kernel
theorem d_Mg_checkedNumber_53 : decode prog_1_method_23_code 53 = .ok (.invokestatic 173, 3) := by decide +kernel
theorem d_Mg_checkedNumber_56 : decode prog_1_method_23_code 56 = .ok (.ireturn, 1) := by decide +kernel
theorem zt_57 : (Cond.initialized "java/lang/IllegalArgumentException") ∈ zTg := zmem 57 (by decide +kernel) (by decide +kernel)
theorem zt_256 : (Cond.classLink "MergeGraphs" (166 : Nat) "java/lang/IllegalArgumentException") ∈ zTg := zmem 256 (by decide +kernel) (by decide +kernel)
def y_Mg_put : MethodName := ⟨"MergeGraphs", "put", "(IIII)I"⟩
abbrev M_Mg_put : zM := (nR3, prog_1_method_2_code, 6, (some .int), 7)
set_option maxRecDepth 100000 in
theorem zk_Mg_put : Cond.code y_Mg_put (M_Mg_put).2.1 (M_Mg_put).2.2.1 (M_Mg_put).2.2.2.1 ∈ zTg := zmem 181 rfl rfl
theorem zy_Mg_put : (y_Mg_put).cls ≠ "java/lang/invoke/MethodHandle" ∧ (y_Mg_put).cls ≠ "java/lang/invoke/VarHandle" ∧ (parseMethodDescriptor (y_Mg_put).desc).map (fun d => d.parameters.length) = some 4 := by decide +kernel
theorem d_Mg_put_0 : decode prog_1_method_2_code 0 = .ok (.aload_n 0, 1) := by decide +kernel
theorem d_Mg_put_1 : decode prog_1_method_2_code 1 = .ok (.iload_n 1, 1) := by decide +kernel
theorem d_Mg_put_2 : decode prog_1_method_2_code 2 = .ok (.invokevirtual 51, 3) := by decide +kernel
theorem d_Mg_put_5 : decode prog_1_method_2_code 5 = .ok (.astore 5, 2) := by decide +kernel
theorem d_Mg_put_7 : decode prog_1_method_2_code 7 = .ok (.aload 5, 2) := by decide +kernel
theorem d_Mg_put_9 : decode prog_1_method_2_code 9 = .ok (.iload_n 2, 1) := by decide +kernel
theorem d_Mg_put_10 : decode prog_1_method_2_code 10 = .ok (.iload_n 3, 1) := by decide +kernel
theorem d_Mg_put_11 : decode prog_1_method_2_code 11 = .ok (.iload 4, 2) := by decide +kernel
theorem d_Mg_put_13 : decode prog_1_method_2_code 13 = .ok (.invokestatic 55, 3) := by decide +kernel
theorem d_Mg_put_16 : decode prog_1_method_2_code 16 = .ok (.invokevirtual 59, 3) := by decide +kernel
theorem d_Mg_put_19 : decode prog_1_method_2_code 19 = .ok (.ireturn, 1) := by decide +kernel
theorem zt_0 : (Cond.selects "MergeGraphs" (⟨"MergeGraphs", "graphAt", "(I)LMergeGraphs$Graph;"⟩ : MethodName) (⟨"MergeGraphs", "graphAt", "(I)LMergeGraphs$Graph;"⟩ : MethodName)) ∈ zTg := zmem 0 (by decide +kernel) (by decide +kernel)
theorem zt_182 : (Cond.methodLink "MergeGraphs" (51 : Nat) (⟨"MergeGraphs", "graphAt", "(I)LMergeGraphs$Graph;"⟩ : MethodName)) ∈ zTg := zmem 182 (by decide +kernel) (by decide +kernel)
theorem zt_184 : (Cond.instanceMethod (⟨"MergeGraphs", "graphAt", "(I)LMergeGraphs$Graph;"⟩ : MethodName)) ∈ zTg := zmem 184 (by decide +kernel) (by decide +kernel)
theorem zt_253 : (Cond.methodLink "MergeGraphs" (55 : Nat) (⟨"MergeGraphs", "checkedNumber", "(III)I"⟩ : MethodName)) ∈ zTg := zmem 253 (by decide +kernel) (by decide +kernel)
theorem zt_254 : (Cond.static (⟨"MergeGraphs", "checkedNumber", "(III)I"⟩ : MethodName)) ∈ zTg := zmem 254 (by decide +kernel) (by decide +kernel)
theorem zt_276 : (Cond.methodLink "MergeGraphs" (59 : Nat) (⟨"MergeGraphs$Graph", "insert", "(I)I"⟩ : MethodName)) ∈ zTg := zmem 276 (by decide +kernel) (by decide +kernel)
def y_Mg_drop : MethodName := ⟨"MergeGraphs", "drop", "(IIII)I"⟩
abbrev M_Mg_drop : zM := (nR3, prog_1_method_3_code, 6, (some .int), 7)
set_option maxRecDepth 100000 in
theorem zk_Mg_drop : Cond.code y_Mg_drop (M_Mg_drop).2.1 (M_Mg_drop).2.2.1 (M_Mg_drop).2.2.2.1 ∈ zTg := zmem 294 rfl rfl
theorem zy_Mg_drop : (y_Mg_drop).cls ≠ "java/lang/invoke/MethodHandle" ∧ (y_Mg_drop).cls ≠ "java/lang/invoke/VarHandle" ∧ (parseMethodDescriptor (y_Mg_drop).desc).map (fun d => d.parameters.length) = some 4 := by decide +kernel
theorem d_Mg_drop_0 : decode prog_1_method_3_code 0 = .ok (.aload_n 0, 1) := by decide +kernel
theorem d_Mg_drop_1 : decode prog_1_method_3_code 1 = .ok (.iload_n 1, 1) := by decide +kernel
theorem d_Mg_drop_2 : decode prog_1_method_3_code 2 = .ok (.invokevirtual 51, 3) := by decide +kernel
theorem d_Mg_drop_5 : decode prog_1_method_3_code 5 = .ok (.astore 5, 2) := by decide +kernel
theorem d_Mg_drop_7 : decode prog_1_method_3_code 7 = .ok (.aload 5, 2) := by decide +kernel
theorem d_Mg_drop_9 : decode prog_1_method_3_code 9 = .ok (.iload_n 2, 1) := by decide +kernel
theorem d_Mg_drop_10 : decode prog_1_method_3_code 10 = .ok (.iload_n 3, 1) := by decide +kernel
theorem d_Mg_drop_11 : decode prog_1_method_3_code 11 = .ok (.iload 4, 2) := by decide +kernel
theorem d_Mg_drop_13 : decode prog_1_method_3_code 13 = .ok (.invokestatic 55, 3) := by decide +kernel
theorem d_Mg_drop_16 : decode prog_1_method_3_code 16 = .ok (.invokevirtual 63, 3) := by decide +kernel
theorem d_Mg_drop_19 : decode prog_1_method_3_code 19 = .ok (.ireturn, 1) := by decide +kernel
theorem zt_295 : (Cond.methodLink "MergeGraphs" (63 : Nat) (⟨"MergeGraphs$Graph", "erase", "(I)I"⟩ : MethodName)) ∈ zTg := zmem 295 (by decide +kernel) (by decide +kernel)
def y_Mg_copy : MethodName := ⟨"MergeGraphs", "copy", "(II)I"⟩
abbrev M_Mg_copy : zM := (nR3, prog_1_method_4_code, 5, (some .int), 7)
set_option maxRecDepth 100000 in
theorem zk_Mg_copy : Cond.code y_Mg_copy (M_Mg_copy).2.1 (M_Mg_copy).2.2.1 (M_Mg_copy).2.2.2.1 ∈ zTg := zmem 305 rfl rfl
theorem zy_Mg_copy : (y_Mg_copy).cls ≠ "java/lang/invoke/MethodHandle" ∧ (y_Mg_copy).cls ≠ "java/lang/invoke/VarHandle" ∧ (parseMethodDescriptor (y_Mg_copy).desc).map (fun d => d.parameters.length) = some 2 := by decide +kernel
theorem d_Mg_copy_0 : decode prog_1_method_4_code 0 = .ok (.aload_n 0, 1) := by decide +kernel
theorem d_Mg_copy_1 : decode prog_1_method_4_code 1 = .ok (.iload_n 1, 1) := by decide +kernel
theorem d_Mg_copy_2 : decode prog_1_method_4_code 2 = .ok (.invokevirtual 51, 3) := by decide +kernel
theorem d_Mg_copy_5 : decode prog_1_method_4_code 5 = .ok (.astore_n 3, 1) := by decide +kernel
theorem d_Mg_copy_6 : decode prog_1_method_4_code 6 = .ok (.aload_n 0, 1) := by decide +kernel
theorem d_Mg_copy_7 : decode prog_1_method_4_code 7 = .ok (.iload_n 2, 1) := by decide +kernel
theorem d_Mg_copy_8 : decode prog_1_method_4_code 8 = .ok (.invokevirtual 51, 3) := by decide +kernel
theorem d_Mg_copy_11 : decode prog_1_method_4_code 11 = .ok (.astore 4, 2) := by decide +kernel
theorem d_Mg_copy_13 : decode prog_1_method_4_code 13 = .ok (.aload 4, 2) := by decide +kernel
theorem d_Mg_copy_15 : decode prog_1_method_4_code 15 = .ok (.aload_n 3, 1) := by decide +kernel
theorem d_Mg_copy_16 : decode prog_1_method_4_code 16 = .ok (.invokevirtual 66, 3) := by decide +kernel
theorem d_Mg_copy_19 : decode prog_1_method_4_code 19 = .ok (.aload 4, 2) := by decide +kernel
theorem d_Mg_copy_21 : decode prog_1_method_4_code 21 = .ok (.invokevirtual 70, 3) := by decide +kernel
theorem d_Mg_copy_24 : decode prog_1_method_4_code 24 = .ok (.ireturn, 1) := by decide +kernel
theorem zt_306 : (Cond.methodLink "MergeGraphs" (66 : Nat) (⟨"MergeGraphs$Graph", "become", "(LMergeGraphs$Graph;)V"⟩ : MethodName)) ∈ zTg := zmem 306 (by decide +kernel) (by decide +kernel)
def y_Mg_size : MethodName := ⟨"MergeGraphs", "size", "(II)I"⟩
abbrev M_Mg_size : zM := (nR3, prog_1_method_5_code, 4, (some .int), 7)
set_option maxRecDepth 100000 in
theorem zk_Mg_size : Cond.code y_Mg_size (M_Mg_size).2.1 (M_Mg_size).2.2.1 (M_Mg_size).2.2.2.1 ∈ zTg := zmem 320 rfl rfl
theorem zy_Mg_size : (y_Mg_size).cls ≠ "java/lang/invoke/MethodHandle" ∧ (y_Mg_size).cls ≠ "java/lang/invoke/VarHandle" ∧ (parseMethodDescriptor (y_Mg_size).desc).map (fun d => d.parameters.length) = some 2 := by decide +kernel
theorem d_Mg_size_0 : decode prog_1_method_5_code 0 = .ok (.aload_n 0, 1) := by decide +kernel
theorem d_Mg_size_1 : decode prog_1_method_5_code 1 = .ok (.iload_n 1, 1) := by decide +kernel
theorem d_Mg_size_2 : decode prog_1_method_5_code 2 = .ok (.invokevirtual 51, 3) := by decide +kernel
theorem d_Mg_size_5 : decode prog_1_method_5_code 5 = .ok (.astore_n 3, 1) := by decide +kernel
theorem d_Mg_size_6 : decode prog_1_method_5_code 6 = .ok (.iload_n 2, 1) := by decide +kernel
theorem d_Mg_size_7 : decode prog_1_method_5_code 7 = .ok (.tableswitch 46 0 2 #[25, 30, 38], 25) := by decide +kernel
theorem d_Mg_size_32 : decode prog_1_method_5_code 32 = .ok (.aload_n 3, 1) := by decide +kernel
theorem d_Mg_size_33 : decode prog_1_method_5_code 33 = .ok (.invokevirtual 70, 3) := by decide +kernel
theorem d_Mg_size_36 : decode prog_1_method_5_code 36 = .ok (.ireturn, 1) := by decide +kernel
theorem d_Mg_size_37 : decode prog_1_method_5_code 37 = .ok (.aload_n 3, 1) := by decide +kernel
theorem d_Mg_size_38 : decode prog_1_method_5_code 38 = .ok (.invokevirtual 74, 3) := by decide +kernel
theorem d_Mg_size_41 : decode prog_1_method_5_code 41 = .ok (.invokestatic 78, 3) := by decide +kernel
theorem d_Mg_size_44 : decode prog_1_method_5_code 44 = .ok (.ireturn, 1) := by decide +kernel
theorem d_Mg_size_45 : decode prog_1_method_5_code 45 = .ok (.aload_n 3, 1) := by decide +kernel
theorem d_Mg_size_46 : decode prog_1_method_5_code 46 = .ok (.invokevirtual 84, 3) := by decide +kernel
theorem d_Mg_size_49 : decode prog_1_method_5_code 49 = .ok (.invokestatic 78, 3) := by decide +kernel
theorem d_Mg_size_52 : decode prog_1_method_5_code 52 = .ok (.ireturn, 1) := by decide +kernel
theorem d_Mg_size_53 : decode prog_1_method_5_code 53 = .ok (.new 87, 3) := by decide +kernel
theorem d_Mg_size_56 : decode prog_1_method_5_code 56 = .ok (.dup, 1) := by decide +kernel
theorem d_Mg_size_57 : decode prog_1_method_5_code 57 = .ok (.ldc 89, 2) := by decide +kernel
theorem d_Mg_size_59 : decode prog_1_method_5_code 59 = .ok (.invokespecial 91, 3) := by decide +kernel
theorem d_Mg_size_62 : decode prog_1_method_5_code 62 = .ok (.athrow, 1) := by decide +kernel
def y_Mg_fact : MethodName := ⟨"MergeGraphs", "fact", "(II)I"⟩
abbrev M_Mg_fact : zM := (nR3, prog_1_method_6_code, 4, (some .int), 7)
set_option maxRecDepth 100000 in
theorem zk_Mg_fact : Cond.code y_Mg_fact (M_Mg_fact).2.1 (M_Mg_fact).2.2.1 (M_Mg_fact).2.2.2.1 ∈ zTg := zmem 350 rfl rfl
theorem zy_Mg_fact : (y_Mg_fact).cls ≠ "java/lang/invoke/MethodHandle" ∧ (y_Mg_fact).cls ≠ "java/lang/invoke/VarHandle" ∧ (parseMethodDescriptor (y_Mg_fact).desc).map (fun d => d.parameters.length) = some 2 := by decide +kernel
theorem d_Mg_fact_0 : decode prog_1_method_6_code 0 = .ok (.aload_n 0, 1) := by decide +kernel
theorem d_Mg_fact_1 : decode prog_1_method_6_code 1 = .ok (.iload_n 1, 1) := by decide +kernel
theorem d_Mg_fact_2 : decode prog_1_method_6_code 2 = .ok (.invokevirtual 51, 3) := by decide +kernel
theorem d_Mg_fact_5 : decode prog_1_method_6_code 5 = .ok (.astore_n 3, 1) := by decide +kernel
theorem d_Mg_fact_6 : decode prog_1_method_6_code 6 = .ok (.aload_n 3, 1) := by decide +kernel
theorem d_Mg_fact_7 : decode prog_1_method_6_code 7 = .ok (.iload_n 2, 1) := by decide +kernel
theorem d_Mg_fact_8 : decode prog_1_method_6_code 8 = .ok (.invokestatic 94, 3) := by decide +kernel
theorem d_Mg_fact_11 : decode prog_1_method_6_code 11 = .ok (.aload_n 3, 1) := by decide +kernel
theorem d_Mg_fact_12 : decode prog_1_method_6_code 12 = .ok (.iload_n 2, 1) := by decide +kernel
theorem d_Mg_fact_13 : decode prog_1_method_6_code 13 = .ok (.invokevirtual 98, 3) := by decide +kernel
theorem d_Mg_fact_16 : decode prog_1_method_6_code 16 = .ok (.ireturn, 1) := by decide +kernel
theorem zt_351 : (Cond.methodLink "MergeGraphs" (94 : Nat) (⟨"MergeGraphs", "checkFact", "(LMergeGraphs$Graph;I)V"⟩ : MethodName)) ∈ zTg := zmem 351 (by decide +kernel) (by decide +kernel)
theorem zt_352 : (Cond.static (⟨"MergeGraphs", "checkFact", "(LMergeGraphs$Graph;I)V"⟩ : MethodName)) ∈ zTg := zmem 352 (by decide +kernel) (by decide +kernel)
theorem zt_355 : (Cond.methodLink "MergeGraphs" (98 : Nat) (⟨"MergeGraphs$Graph", "at", "(I)I"⟩ : MethodName)) ∈ zTg := zmem 355 (by decide +kernel) (by decide +kernel)
def y_Mg_alike : MethodName := ⟨"MergeGraphs", "alike", "(II)Z"⟩
abbrev M_Mg_alike : zM := (nR3, prog_1_method_7_code, 5, (some .boolean), 15)
set_option maxRecDepth 100000 in
theorem zk_Mg_alike : Cond.code y_Mg_alike (M_Mg_alike).2.1 (M_Mg_alike).2.2.1 (M_Mg_alike).2.2.2.1 ∈ zTg := zmem 362 rfl rfl
theorem zy_Mg_alike : (y_Mg_alike).cls ≠ "java/lang/invoke/MethodHandle" ∧ (y_Mg_alike).cls ≠ "java/lang/invoke/VarHandle" ∧ (parseMethodDescriptor (y_Mg_alike).desc).map (fun d => d.parameters.length) = some 2 := by decide +kernel
theorem d_Mg_alike_0 : decode prog_1_method_7_code 0 = .ok (.aload_n 0, 1) := by decide +kernel
theorem d_Mg_alike_1 : decode prog_1_method_7_code 1 = .ok (.iload_n 1, 1) := by decide +kernel
theorem d_Mg_alike_2 : decode prog_1_method_7_code 2 = .ok (.invokevirtual 51, 3) := by decide +kernel
theorem d_Mg_alike_5 : decode prog_1_method_7_code 5 = .ok (.astore_n 3, 1) := by decide +kernel
theorem d_Mg_alike_6 : decode prog_1_method_7_code 6 = .ok (.aload_n 0, 1) := by decide +kernel
theorem d_Mg_alike_7 : decode prog_1_method_7_code 7 = .ok (.iload_n 2, 1) := by decide +kernel
theorem d_Mg_alike_8 : decode prog_1_method_7_code 8 = .ok (.invokevirtual 51, 3) := by decide +kernel
theorem d_Mg_alike_11 : decode prog_1_method_7_code 11 = .ok (.astore 4, 2) := by decide +kernel
theorem d_Mg_alike_13 : decode prog_1_method_7_code 13 = .ok (.aload_n 0, 1) := by decide +kernel
theorem d_Mg_alike_14 : decode prog_1_method_7_code 14 = .ok (.aload_n 3, 1) := by decide +kernel
theorem d_Mg_alike_15 : decode prog_1_method_7_code 15 = .ok (.aload 4, 2) := by decide +kernel
theorem d_Mg_alike_17 : decode prog_1_method_7_code 17 = .ok (.invokevirtual 101, 3) := by decide +kernel
theorem d_Mg_alike_20 : decode prog_1_method_7_code 20 = .ok (.ireturn, 1) := by decide +kernel
theorem zt_3 : (Cond.selects "MergeGraphs" (⟨"MergeGraphs", "findImage", "(LMergeGraphs$Graph;LMergeGraphs$Graph;)Z"⟩ : MethodName) (⟨"MergeGraphs", "findImage", "(LMergeGraphs$Graph;LMergeGraphs$Graph;)Z"⟩ : MethodName)) ∈ zTg := zmem 3 (by decide +kernel) (by decide +kernel)
theorem zt_363 : (Cond.methodLink "MergeGraphs" (101 : Nat) (⟨"MergeGraphs", "findImage", "(LMergeGraphs$Graph;LMergeGraphs$Graph;)Z"⟩ : MethodName)) ∈ zTg := zmem 363 (by decide +kernel) (by decide +kernel)
theorem zt_365 : (Cond.instanceMethod (⟨"MergeGraphs", "findImage", "(LMergeGraphs$Graph;LMergeGraphs$Graph;)Z"⟩ : MethodName)) ∈ zTg := zmem 365 (by decide +kernel) (by decide +kernel)
def y_Mg_image : MethodName := ⟨"MergeGraphs", "image", "(III)I"⟩
abbrev M_Mg_image : zM := (nR3, prog_1_method_8_code, 6, (some .int), 15)
set_option maxRecDepth 100000 in
theorem zk_Mg_image : Cond.code y_Mg_image (M_Mg_image).2.1 (M_Mg_image).2.2.1 (M_Mg_image).2.2.2.1 ∈ zTg := zmem 459 rfl rfl
theorem zy_Mg_image : (y_Mg_image).cls ≠ "java/lang/invoke/MethodHandle" ∧ (y_Mg_image).cls ≠ "java/lang/invoke/VarHandle" ∧ (parseMethodDescriptor (y_Mg_image).desc).map (fun d => d.parameters.length) = some 3 := by decide +kernel
theorem d_Mg_image_0 : decode prog_1_method_8_code 0 = .ok (.aload_n 0, 1) := by decide +kernel
theorem d_Mg_image_1 : decode prog_1_method_8_code 1 = .ok (.iload_n 1, 1) := by decide +kernel
theorem d_Mg_image_2 : decode prog_1_method_8_code 2 = .ok (.invokevirtual 51, 3) := by decide +kernel
theorem d_Mg_image_5 : decode prog_1_method_8_code 5 = .ok (.astore 4, 2) := by decide +kernel
theorem d_Mg_image_7 : decode prog_1_method_8_code 7 = .ok (.aload_n 0, 1) := by decide +kernel
theorem d_Mg_image_8 : decode prog_1_method_8_code 8 = .ok (.iload_n 2, 1) := by decide +kernel
theorem d_Mg_image_9 : decode prog_1_method_8_code 9 = .ok (.invokevirtual 51, 3) := by decide +kernel
theorem d_Mg_image_12 : decode prog_1_method_8_code 12 = .ok (.astore 5, 2) := by decide +kernel
theorem d_Mg_image_14 : decode prog_1_method_8_code 14 = .ok (.aload_n 0, 1) := by decide +kernel
theorem d_Mg_image_15 : decode prog_1_method_8_code 15 = .ok (.aload 4, 2) := by decide +kernel
theorem d_Mg_image_17 : decode prog_1_method_8_code 17 = .ok (.aload 5, 2) := by decide +kernel
theorem d_Mg_image_19 : decode prog_1_method_8_code 19 = .ok (.invokevirtual 101, 3) := by decide +kernel
theorem d_Mg_image_22 : decode prog_1_method_8_code 22 = .ok (.ifCond .eq 14, 3) := by decide +kernel
theorem d_Mg_image_25 : decode prog_1_method_8_code 25 = .ok (.aload_n 0, 1) := by decide +kernel
theorem d_Mg_image_26 : decode prog_1_method_8_code 26 = .ok (.getfield 40, 3) := by decide +kernel
theorem d_Mg_image_29 : decode prog_1_method_8_code 29 = .ok (.iload_n 3, 1) := by decide +kernel
theorem d_Mg_image_30 : decode prog_1_method_8_code 30 = .ok (.invokevirtual 105, 3) := by decide +kernel
theorem d_Mg_image_33 : decode prog_1_method_8_code 33 = .ok (.goto 4, 3) := by decide +kernel
theorem d_Mg_image_36 : decode prog_1_method_8_code 36 = .ok (.iconst (-1), 1) := by decide +kernel
theorem d_Mg_image_37 : decode prog_1_method_8_code 37 = .ok (.ireturn, 1) := by decide +kernel
theorem zt_460 : (Cond.methodLink "MergeGraphs" (105 : Nat) (⟨"MergeGraphs$Search", "termFor", "(I)I"⟩ : MethodName)) ∈ zTg := zmem 460 (by decide +kernel) (by decide +kernel)
theorem zt_461 : (Cond.instanceMethod (⟨"MergeGraphs$Search", "termFor", "(I)I"⟩ : MethodName)) ∈ zTg := zmem 461 (by decide +kernel) (by decide +kernel)
theorem zt_462 : (Cond.selects "MergeGraphs$Search" (⟨"MergeGraphs$Search", "termFor", "(I)I"⟩ : MethodName) (⟨"MergeGraphs$Search", "termFor", "(I)I"⟩ : MethodName)) ∈ zTg := zmem 462 (by decide +kernel) (by decide +kernel)
def y_Mg_form : MethodName := ⟨"MergeGraphs", "form", "(II)I"⟩
abbrev M_Mg_form : zM := (nR3, prog_1_method_9_code, 4, (some .int), 13)
set_option maxRecDepth 100000 in
theorem zk_Mg_form : Cond.code y_Mg_form (M_Mg_form).2.1 (M_Mg_form).2.2.1 (M_Mg_form).2.2.2.1 ∈ zTg := zmem 470 rfl rfl
theorem zy_Mg_form : (y_Mg_form).cls ≠ "java/lang/invoke/MethodHandle" ∧ (y_Mg_form).cls ≠ "java/lang/invoke/VarHandle" ∧ (parseMethodDescriptor (y_Mg_form).desc).map (fun d => d.parameters.length) = some 2 := by decide +kernel
theorem d_Mg_form_0 : decode prog_1_method_9_code 0 = .ok (.aload_n 0, 1) := by decide +kernel
theorem d_Mg_form_1 : decode prog_1_method_9_code 1 = .ok (.iload_n 1, 1) := by decide +kernel
theorem d_Mg_form_2 : decode prog_1_method_9_code 2 = .ok (.invokevirtual 51, 3) := by decide +kernel
theorem d_Mg_form_5 : decode prog_1_method_9_code 5 = .ok (.astore_n 3, 1) := by decide +kernel
theorem d_Mg_form_6 : decode prog_1_method_9_code 6 = .ok (.aload_n 3, 1) := by decide +kernel
theorem d_Mg_form_7 : decode prog_1_method_9_code 7 = .ok (.iload_n 2, 1) := by decide +kernel
theorem d_Mg_form_8 : decode prog_1_method_9_code 8 = .ok (.invokestatic 94, 3) := by decide +kernel
theorem d_Mg_form_11 : decode prog_1_method_9_code 11 = .ok (.aload_n 0, 1) := by decide +kernel
theorem d_Mg_form_12 : decode prog_1_method_9_code 12 = .ok (.getfield 47, 3) := by decide +kernel
theorem d_Mg_form_15 : decode prog_1_method_9_code 15 = .ok (.aload_n 3, 1) := by decide +kernel
theorem d_Mg_form_16 : decode prog_1_method_9_code 16 = .ok (.iload_n 2, 1) := by decide +kernel
theorem d_Mg_form_17 : decode prog_1_method_9_code 17 = .ok (.invokevirtual 108, 3) := by decide +kernel
theorem d_Mg_form_20 : decode prog_1_method_9_code 20 = .ok (.ireturn, 1) := by decide +kernel
theorem zf_Mg_47 : Cond.fieldLink nR3 47 (nT3 8).1 (nT3 8).2.1 (nT3 8).2.2.1 ∈ zTg := zmem 153 (by decide +kernel) (by decide +kernel)
theorem zt_471 : (Cond.methodLink "MergeGraphs" (108 : Nat) (⟨"MergeGraphs$FormFinder", "numberAt", "(LMergeGraphs$Graph;I)I"⟩ : MethodName)) ∈ zTg := zmem 471 (by decide +kernel) (by decide +kernel)
theorem zt_472 : (Cond.instanceMethod (⟨"MergeGraphs$FormFinder", "numberAt", "(LMergeGraphs$Graph;I)I"⟩ : MethodName)) ∈ zTg := zmem 472 (by decide +kernel) (by decide +kernel)
theorem zt_473 : (Cond.selects "MergeGraphs$FormFinder" (⟨"MergeGraphs$FormFinder", "numberAt", "(LMergeGraphs$Graph;I)I"⟩ : MethodName) (⟨"MergeGraphs$FormFinder", "numberAt", "(LMergeGraphs$Graph;I)I"⟩ : MethodName)) ∈ zTg := zmem 473 (by decide +kernel) (by decide +kernel)
def y_Mg_follows : MethodName := ⟨"MergeGraphs", "follows", "(II)Z"⟩
abbrev M_Mg_follows : zM := (nR3, prog_1_method_10_code, 5, (some .boolean), 14)
set_option maxRecDepth 100000 in
theorem zk_Mg_follows : Cond.code y_Mg_follows (M_Mg_follows).2.1 (M_Mg_follows).2.2.1 (M_Mg_follows).2.2.2.1 ∈ zTg := zmem 531 rfl rfl
theorem zy_Mg_follows : (y_Mg_follows).cls ≠ "java/lang/invoke/MethodHandle" ∧ (y_Mg_follows).cls ≠ "java/lang/invoke/VarHandle" ∧ (parseMethodDescriptor (y_Mg_follows).desc).map (fun d => d.parameters.length) = some 2 := by decide +kernel
theorem d_Mg_follows_0 : decode prog_1_method_10_code 0 = .ok (.aload_n 0, 1) := by decide +kernel
theorem d_Mg_follows_1 : decode prog_1_method_10_code 1 = .ok (.iload_n 1, 1) := by decide +kernel
theorem d_Mg_follows_2 : decode prog_1_method_10_code 2 = .ok (.invokevirtual 51, 3) := by decide +kernel
theorem d_Mg_follows_5 : decode prog_1_method_10_code 5 = .ok (.astore_n 3, 1) := by decide +kernel
theorem d_Mg_follows_6 : decode prog_1_method_10_code 6 = .ok (.aload_n 0, 1) := by decide +kernel
theorem d_Mg_follows_7 : decode prog_1_method_10_code 7 = .ok (.iload_n 2, 1) := by decide +kernel
theorem d_Mg_follows_8 : decode prog_1_method_10_code 8 = .ok (.invokevirtual 51, 3) := by decide +kernel
theorem d_Mg_follows_11 : decode prog_1_method_10_code 11 = .ok (.astore 4, 2) := by decide +kernel
theorem d_Mg_follows_13 : decode prog_1_method_10_code 13 = .ok (.aload_n 0, 1) := by decide +kernel
theorem d_Mg_follows_14 : decode prog_1_method_10_code 14 = .ok (.getfield 40, 3) := by decide +kernel
theorem d_Mg_follows_17 : decode prog_1_method_10_code 17 = .ok (.aload 4, 2) := by decide +kernel
theorem d_Mg_follows_19 : decode prog_1_method_10_code 19 = .ok (.aload_n 3, 1) := by decide +kernel
theorem d_Mg_follows_20 : decode prog_1_method_10_code 20 = .ok (.aload_n 3, 1) := by decide +kernel
theorem d_Mg_follows_21 : decode prog_1_method_10_code 21 = .ok (.invokevirtual 84, 3) := by decide +kernel
theorem d_Mg_follows_24 : decode prog_1_method_10_code 24 = .ok (.iconst 0, 1) := by decide +kernel
theorem d_Mg_follows_25 : decode prog_1_method_10_code 25 = .ok (.invokevirtual 112, 3) := by decide +kernel
theorem d_Mg_follows_28 : decode prog_1_method_10_code 28 = .ok (.ireturn, 1) := by decide +kernel
def y_Mg_putting : MethodName := ⟨"MergeGraphs", "putting", "(III)I"⟩
abbrev M_Mg_putting : zM := (nR3, prog_1_method_11_code, 6, (some .int), 14)
set_option maxRecDepth 100000 in
theorem zk_Mg_putting : Cond.code y_Mg_putting (M_Mg_putting).2.1 (M_Mg_putting).2.2.1 (M_Mg_putting).2.2.2.1 ∈ zTg := zmem 538 rfl rfl
theorem zy_Mg_putting : (y_Mg_putting).cls ≠ "java/lang/invoke/MethodHandle" ∧ (y_Mg_putting).cls ≠ "java/lang/invoke/VarHandle" ∧ (parseMethodDescriptor (y_Mg_putting).desc).map (fun d => d.parameters.length) = some 3 := by decide +kernel
theorem d_Mg_putting_0 : decode prog_1_method_11_code 0 = .ok (.aload_n 0, 1) := by decide +kernel
theorem d_Mg_putting_1 : decode prog_1_method_11_code 1 = .ok (.iload_n 1, 1) := by decide +kernel
theorem d_Mg_putting_2 : decode prog_1_method_11_code 2 = .ok (.invokevirtual 51, 3) := by decide +kernel
theorem d_Mg_putting_5 : decode prog_1_method_11_code 5 = .ok (.astore 4, 2) := by decide +kernel
theorem d_Mg_putting_7 : decode prog_1_method_11_code 7 = .ok (.aload_n 0, 1) := by decide +kernel
theorem d_Mg_putting_8 : decode prog_1_method_11_code 8 = .ok (.iload_n 2, 1) := by decide +kernel
theorem d_Mg_putting_9 : decode prog_1_method_11_code 9 = .ok (.invokevirtual 51, 3) := by decide +kernel
theorem d_Mg_putting_12 : decode prog_1_method_11_code 12 = .ok (.astore 5, 2) := by decide +kernel
theorem d_Mg_putting_14 : decode prog_1_method_11_code 14 = .ok (.aload_n 0, 1) := by decide +kernel
theorem d_Mg_putting_15 : decode prog_1_method_11_code 15 = .ok (.getfield 40, 3) := by decide +kernel
theorem d_Mg_putting_18 : decode prog_1_method_11_code 18 = .ok (.aload 5, 2) := by decide +kernel
theorem d_Mg_putting_20 : decode prog_1_method_11_code 20 = .ok (.aload 4, 2) := by decide +kernel
theorem d_Mg_putting_22 : decode prog_1_method_11_code 22 = .ok (.aload 4, 2) := by decide +kernel
theorem d_Mg_putting_24 : decode prog_1_method_11_code 24 = .ok (.invokevirtual 84, 3) := by decide +kernel
theorem d_Mg_putting_27 : decode prog_1_method_11_code 27 = .ok (.iconst 0, 1) := by decide +kernel
theorem d_Mg_putting_28 : decode prog_1_method_11_code 28 = .ok (.invokevirtual 112, 3) := by decide +kernel
theorem d_Mg_putting_31 : decode prog_1_method_11_code 31 = .ok (.ifCond .eq 14, 3) := by decide +kernel
theorem d_Mg_putting_34 : decode prog_1_method_11_code 34 = .ok (.aload_n 0, 1) := by decide +kernel
theorem d_Mg_putting_35 : decode prog_1_method_11_code 35 = .ok (.getfield 40, 3) := by decide +kernel
theorem d_Mg_putting_38 : decode prog_1_method_11_code 38 = .ok (.iload_n 3, 1) := by decide +kernel
theorem d_Mg_putting_39 : decode prog_1_method_11_code 39 = .ok (.invokevirtual 105, 3) := by decide +kernel
theorem d_Mg_putting_42 : decode prog_1_method_11_code 42 = .ok (.goto 4, 3) := by decide +kernel
theorem d_Mg_putting_45 : decode prog_1_method_11_code 45 = .ok (.iconst (-1), 1) := by decide +kernel
theorem d_Mg_putting_46 : decode prog_1_method_11_code 46 = .ok (.ireturn, 1) := by decide +kernel
def y_Mg_lean : MethodName := ⟨"MergeGraphs", "lean", "(I)Z"⟩
abbrev M_Mg_lean : zM := (nR3, prog_1_method_12_code, 3, (some .boolean), 15)
set_option maxRecDepth 100000 in
theorem zk_Mg_lean : Cond.code y_Mg_lean (M_Mg_lean).2.1 (M_Mg_lean).2.2.1 (M_Mg_lean).2.2.2.1 ∈ zTg := zmem 545 rfl rfl
theorem zy_Mg_lean : (y_Mg_lean).cls ≠ "java/lang/invoke/MethodHandle" ∧ (y_Mg_lean).cls ≠ "java/lang/invoke/VarHandle" ∧ (parseMethodDescriptor (y_Mg_lean).desc).map (fun d => d.parameters.length) = some 1 := by decide +kernel
theorem d_Mg_lean_0 : decode prog_1_method_12_code 0 = .ok (.aload_n 0, 1) := by decide +kernel
theorem d_Mg_lean_1 : decode prog_1_method_12_code 1 = .ok (.iload_n 1, 1) := by decide +kernel
theorem d_Mg_lean_2 : decode prog_1_method_12_code 2 = .ok (.invokevirtual 51, 3) := by decide +kernel
theorem d_Mg_lean_5 : decode prog_1_method_12_code 5 = .ok (.astore_n 2, 1) := by decide +kernel
theorem d_Mg_lean_6 : decode prog_1_method_12_code 6 = .ok (.aload_n 0, 1) := by decide +kernel
theorem d_Mg_lean_7 : decode prog_1_method_12_code 7 = .ok (.aload_n 2, 1) := by decide +kernel
theorem d_Mg_lean_8 : decode prog_1_method_12_code 8 = .ok (.iconst 1, 1) := by decide +kernel
theorem d_Mg_lean_9 : decode prog_1_method_12_code 9 = .ok (.invokevirtual 116, 3) := by decide +kernel
theorem d_Mg_lean_12 : decode prog_1_method_12_code 12 = .ok (.ifCond .ne 7, 3) := by decide +kernel
theorem d_Mg_lean_15 : decode prog_1_method_12_code 15 = .ok (.iconst 1, 1) := by decide +kernel
theorem d_Mg_lean_16 : decode prog_1_method_12_code 16 = .ok (.goto 4, 3) := by decide +kernel
theorem d_Mg_lean_19 : decode prog_1_method_12_code 19 = .ok (.iconst 0, 1) := by decide +kernel
theorem d_Mg_lean_20 : decode prog_1_method_12_code 20 = .ok (.ireturn, 1) := by decide +kernel
theorem zt_21 : (Cond.selects "MergeGraphs" (⟨"MergeGraphs", "findShrinkingRow", "(LMergeGraphs$Graph;Z)Z"⟩ : MethodName) (⟨"MergeGraphs", "findShrinkingRow", "(LMergeGraphs$Graph;Z)Z"⟩ : MethodName)) ∈ zTg := zmem 21 (by decide +kernel) (by decide +kernel)
theorem zt_546 : (Cond.methodLink "MergeGraphs" (116 : Nat) (⟨"MergeGraphs", "findShrinkingRow", "(LMergeGraphs$Graph;Z)Z"⟩ : MethodName)) ∈ zTg := zmem 546 (by decide +kernel) (by decide +kernel)
theorem zt_548 : (Cond.instanceMethod (⟨"MergeGraphs", "findShrinkingRow", "(LMergeGraphs$Graph;Z)Z"⟩ : MethodName)) ∈ zTg := zmem 548 (by decide +kernel) (by decide +kernel)
def y_Mg_core : MethodName := ⟨"MergeGraphs", "core", "(I)I"⟩
abbrev M_Mg_core : zM := (nR3, prog_1_method_13_code, 4, (some .int), 15)
set_option maxRecDepth 100000 in
theorem zk_Mg_core : Cond.code y_Mg_core (M_Mg_core).2.1 (M_Mg_core).2.2.1 (M_Mg_core).2.2.2.1 ∈ zTg := zmem 567 rfl rfl
theorem zy_Mg_core : (y_Mg_core).cls ≠ "java/lang/invoke/MethodHandle" ∧ (y_Mg_core).cls ≠ "java/lang/invoke/VarHandle" ∧ (parseMethodDescriptor (y_Mg_core).desc).map (fun d => d.parameters.length) = some 1 := by decide +kernel
theorem d_Mg_core_0 : decode prog_1_method_13_code 0 = .ok (.aload_n 0, 1) := by decide +kernel
theorem d_Mg_core_1 : decode prog_1_method_13_code 1 = .ok (.iload_n 1, 1) := by decide +kernel
theorem d_Mg_core_2 : decode prog_1_method_13_code 2 = .ok (.invokevirtual 51, 3) := by decide +kernel
theorem d_Mg_core_5 : decode prog_1_method_13_code 5 = .ok (.astore_n 2, 1) := by decide +kernel
theorem d_Mg_core_6 : decode prog_1_method_13_code 6 = .ok (.iconst 0, 1) := by decide +kernel
theorem d_Mg_core_7 : decode prog_1_method_13_code 7 = .ok (.istore_n 3, 1) := by decide +kernel
theorem d_Mg_core_8 : decode prog_1_method_13_code 8 = .ok (.iload_n 3, 1) := by decide +kernel
theorem d_Mg_core_9 : decode prog_1_method_13_code 9 = .ok (.bipush 6, 2) := by decide +kernel
theorem d_Mg_core_11 : decode prog_1_method_13_code 11 = .ok (.if_icmp .ge 46, 3) := by decide +kernel
theorem d_Mg_core_14 : decode prog_1_method_13_code 14 = .ok (.aload_n 0, 1) := by decide +kernel
theorem d_Mg_core_15 : decode prog_1_method_13_code 15 = .ok (.aload_n 2, 1) := by decide +kernel
theorem d_Mg_core_16 : decode prog_1_method_13_code 16 = .ok (.iconst 0, 1) := by decide +kernel
theorem d_Mg_core_17 : decode prog_1_method_13_code 17 = .ok (.invokevirtual 116, 3) := by decide +kernel
theorem d_Mg_core_20 : decode prog_1_method_13_code 20 = .ok (.ifCond .eq 37, 3) := by decide +kernel
theorem d_Mg_core_23 : decode prog_1_method_13_code 23 = .ok (.aload_n 0, 1) := by decide +kernel
theorem d_Mg_core_24 : decode prog_1_method_13_code 24 = .ok (.getfield 16, 3) := by decide +kernel
theorem d_Mg_core_27 : decode prog_1_method_13_code 27 = .ok (.invokevirtual 120, 3) := by decide +kernel
theorem d_Mg_core_30 : decode prog_1_method_13_code 30 = .ok (.aload_n 0, 1) := by decide +kernel
theorem d_Mg_core_31 : decode prog_1_method_13_code 31 = .ok (.getfield 16, 3) := by decide +kernel
theorem d_Mg_core_34 : decode prog_1_method_13_code 34 = .ok (.aload_n 2, 1) := by decide +kernel
theorem d_Mg_core_35 : decode prog_1_method_13_code 35 = .ok (.aload_n 0, 1) := by decide +kernel
theorem d_Mg_core_36 : decode prog_1_method_13_code 36 = .ok (.getfield 34, 3) := by decide +kernel
theorem d_Mg_core_39 : decode prog_1_method_13_code 39 = .ok (.invokevirtual 123, 3) := by decide +kernel
theorem d_Mg_core_42 : decode prog_1_method_13_code 42 = .ok (.pop, 1) := by decide +kernel
theorem d_Mg_core_43 : decode prog_1_method_13_code 43 = .ok (.aload_n 2, 1) := by decide +kernel
theorem d_Mg_core_44 : decode prog_1_method_13_code 44 = .ok (.aload_n 0, 1) := by decide +kernel
theorem d_Mg_core_45 : decode prog_1_method_13_code 45 = .ok (.getfield 16, 3) := by decide +kernel
theorem d_Mg_core_48 : decode prog_1_method_13_code 48 = .ok (.invokevirtual 66, 3) := by decide +kernel
theorem d_Mg_core_51 : decode prog_1_method_13_code 51 = .ok (.iinc 3 1, 3) := by decide +kernel
theorem d_Mg_core_54 : decode prog_1_method_13_code 54 = .ok (.goto (-46), 3) := by decide +kernel
theorem d_Mg_core_57 : decode prog_1_method_13_code 57 = .ok (.iload_n 3, 1) := by decide +kernel
theorem d_Mg_core_58 : decode prog_1_method_13_code 58 = .ok (.ireturn, 1) := by decide +kernel
theorem zt_572 : (Cond.methodLink "MergeGraphs" (123 : Nat) (⟨"MergeGraphs$Graph", "insertRenamed", "(LMergeGraphs$Graph;[I)Z"⟩ : MethodName)) ∈ zTg := zmem 572 (by decide +kernel) (by decide +kernel)
theorem zt_573 : (Cond.instanceMethod (⟨"MergeGraphs$Graph", "insertRenamed", "(LMergeGraphs$Graph;[I)Z"⟩ : MethodName)) ∈ zTg := zmem 573 (by decide +kernel) (by decide +kernel)
theorem zt_574 : (Cond.selects "MergeGraphs$Graph" (⟨"MergeGraphs$Graph", "insertRenamed", "(LMergeGraphs$Graph;[I)Z"⟩ : MethodName) (⟨"MergeGraphs$Graph", "insertRenamed", "(LMergeGraphs$Graph;[I)Z"⟩ : MethodName)) ∈ zTg := zmem 574 (by decide +kernel) (by decide +kernel)
def y_Mg_join : MethodName := ⟨"MergeGraphs", "join", "(III)I"⟩
abbrev M_Mg_join : zM := (nR3, prog_1_method_14_code, 7, (some .int), 7)
set_option maxRecDepth 100000 in
theorem zk_Mg_join : Cond.code y_Mg_join (M_Mg_join).2.1 (M_Mg_join).2.2.1 (M_Mg_join).2.2.2.1 ∈ zTg := zmem 584 rfl rfl
theorem zy_Mg_join : (y_Mg_join).cls ≠ "java/lang/invoke/MethodHandle" ∧ (y_Mg_join).cls ≠ "java/lang/invoke/VarHandle" ∧ (parseMethodDescriptor (y_Mg_join).desc).map (fun d => d.parameters.length) = some 3 := by decide +kernel
theorem d_Mg_join_0 : decode prog_1_method_14_code 0 = .ok (.aload_n 0, 1) := by decide +kernel
theorem d_Mg_join_1 : decode prog_1_method_14_code 1 = .ok (.iload_n 1, 1) := by decide +kernel
theorem d_Mg_join_2 : decode prog_1_method_14_code 2 = .ok (.invokevirtual 51, 3) := by decide +kernel
theorem d_Mg_join_5 : decode prog_1_method_14_code 5 = .ok (.astore 4, 2) := by decide +kernel
theorem d_Mg_join_7 : decode prog_1_method_14_code 7 = .ok (.aload_n 0, 1) := by decide +kernel
theorem d_Mg_join_8 : decode prog_1_method_14_code 8 = .ok (.iload_n 2, 1) := by decide +kernel
theorem d_Mg_join_9 : decode prog_1_method_14_code 9 = .ok (.invokevirtual 51, 3) := by decide +kernel
theorem d_Mg_join_12 : decode prog_1_method_14_code 12 = .ok (.astore 5, 2) := by decide +kernel
theorem d_Mg_join_14 : decode prog_1_method_14_code 14 = .ok (.aload_n 0, 1) := by decide +kernel
theorem d_Mg_join_15 : decode prog_1_method_14_code 15 = .ok (.iload_n 3, 1) := by decide +kernel
theorem d_Mg_join_16 : decode prog_1_method_14_code 16 = .ok (.invokevirtual 51, 3) := by decide +kernel
theorem d_Mg_join_19 : decode prog_1_method_14_code 19 = .ok (.astore 6, 2) := by decide +kernel
theorem d_Mg_join_21 : decode prog_1_method_14_code 21 = .ok (.aload_n 0, 1) := by decide +kernel
theorem d_Mg_join_22 : decode prog_1_method_14_code 22 = .ok (.aload 4, 2) := by decide +kernel
theorem d_Mg_join_24 : decode prog_1_method_14_code 24 = .ok (.invokevirtual 74, 3) := by decide +kernel
theorem d_Mg_join_27 : decode prog_1_method_14_code 27 = .ok (.aload 5, 2) := by decide +kernel
theorem d_Mg_join_29 : decode prog_1_method_14_code 29 = .ok (.invokevirtual 74, 3) := by decide +kernel
theorem d_Mg_join_32 : decode prog_1_method_14_code 32 = .ok (.invokevirtual 127, 3) := by decide +kernel
theorem d_Mg_join_35 : decode prog_1_method_14_code 35 = .ok (.ifCond .ne 5, 3) := by decide +kernel
theorem d_Mg_join_38 : decode prog_1_method_14_code 38 = .ok (.iconst (-1), 1) := by decide +kernel
theorem d_Mg_join_39 : decode prog_1_method_14_code 39 = .ok (.ireturn, 1) := by decide +kernel
theorem d_Mg_join_40 : decode prog_1_method_14_code 40 = .ok (.aload_n 0, 1) := by decide +kernel
theorem d_Mg_join_41 : decode prog_1_method_14_code 41 = .ok (.getfield 16, 3) := by decide +kernel
theorem d_Mg_join_44 : decode prog_1_method_14_code 44 = .ok (.aload 4, 2) := by decide +kernel
theorem d_Mg_join_46 : decode prog_1_method_14_code 46 = .ok (.invokevirtual 66, 3) := by decide +kernel
theorem d_Mg_join_49 : decode prog_1_method_14_code 49 = .ok (.aload_n 0, 1) := by decide +kernel
theorem d_Mg_join_50 : decode prog_1_method_14_code 50 = .ok (.getfield 16, 3) := by decide +kernel
theorem d_Mg_join_53 : decode prog_1_method_14_code 53 = .ok (.aload 5, 2) := by decide +kernel
theorem d_Mg_join_55 : decode prog_1_method_14_code 55 = .ok (.aload_n 0, 1) := by decide +kernel
theorem d_Mg_join_56 : decode prog_1_method_14_code 56 = .ok (.getfield 34, 3) := by decide +kernel
theorem d_Mg_join_59 : decode prog_1_method_14_code 59 = .ok (.invokevirtual 123, 3) := by decide +kernel
theorem d_Mg_join_62 : decode prog_1_method_14_code 62 = .ok (.ifCond .ne 5, 3) := by decide +kernel
theorem d_Mg_join_65 : decode prog_1_method_14_code 65 = .ok (.iconst (-1), 1) := by decide +kernel
theorem d_Mg_join_66 : decode prog_1_method_14_code 66 = .ok (.ireturn, 1) := by decide +kernel
theorem d_Mg_join_67 : decode prog_1_method_14_code 67 = .ok (.aload 6, 2) := by decide +kernel
theorem d_Mg_join_69 : decode prog_1_method_14_code 69 = .ok (.aload_n 0, 1) := by decide +kernel
theorem d_Mg_join_70 : decode prog_1_method_14_code 70 = .ok (.getfield 16, 3) := by decide +kernel
theorem d_Mg_join_73 : decode prog_1_method_14_code 73 = .ok (.invokevirtual 66, 3) := by decide +kernel
theorem d_Mg_join_76 : decode prog_1_method_14_code 76 = .ok (.aload 6, 2) := by decide +kernel
theorem d_Mg_join_78 : decode prog_1_method_14_code 78 = .ok (.invokevirtual 70, 3) := by decide +kernel
theorem d_Mg_join_81 : decode prog_1_method_14_code 81 = .ok (.ireturn, 1) := by decide +kernel
theorem zt_22 : (Cond.selects "MergeGraphs" (⟨"MergeGraphs", "chooseOtherNodes", "(JJ)Z"⟩ : MethodName) (⟨"MergeGraphs", "chooseOtherNodes", "(JJ)Z"⟩ : MethodName)) ∈ zTg := zmem 22 (by decide +kernel) (by decide +kernel)
theorem zt_585 : (Cond.methodLink "MergeGraphs" (127 : Nat) (⟨"MergeGraphs", "chooseOtherNodes", "(JJ)Z"⟩ : MethodName)) ∈ zTg := zmem 585 (by decide +kernel) (by decide +kernel)
theorem zt_587 : (Cond.instanceMethod (⟨"MergeGraphs", "chooseOtherNodes", "(JJ)Z"⟩ : MethodName)) ∈ zTg := zmem 587 (by decide +kernel) (by decide +kernel)
def y_Mg_merge : MethodName := ⟨"MergeGraphs", "merge", "(IIII)I"⟩
abbrev M_Mg_merge : zM := (nR3, prog_1_method_15_code, 9, (some .int), 7)
set_option maxRecDepth 100000 in
theorem zk_Mg_merge : Cond.code y_Mg_merge (M_Mg_merge).2.1 (M_Mg_merge).2.2.1 (M_Mg_merge).2.2.2.1 ∈ zTg := zmem 597 rfl rfl
theorem zy_Mg_merge : (y_Mg_merge).cls ≠ "java/lang/invoke/MethodHandle" ∧ (y_Mg_merge).cls ≠ "java/lang/invoke/VarHandle" ∧ (parseMethodDescriptor (y_Mg_merge).desc).map (fun d => d.parameters.length) = some 4 := by decide +kernel
theorem d_Mg_merge_0 : decode prog_1_method_15_code 0 = .ok (.aload_n 0, 1) := by decide +kernel
theorem d_Mg_merge_1 : decode prog_1_method_15_code 1 = .ok (.iload_n 1, 1) := by decide +kernel
theorem d_Mg_merge_2 : decode prog_1_method_15_code 2 = .ok (.invokevirtual 51, 3) := by decide +kernel
theorem d_Mg_merge_5 : decode prog_1_method_15_code 5 = .ok (.astore 5, 2) := by decide +kernel
theorem d_Mg_merge_7 : decode prog_1_method_15_code 7 = .ok (.aload_n 0, 1) := by decide +kernel
theorem d_Mg_merge_8 : decode prog_1_method_15_code 8 = .ok (.iload_n 2, 1) := by decide +kernel
theorem d_Mg_merge_9 : decode prog_1_method_15_code 9 = .ok (.invokevirtual 51, 3) := by decide +kernel
theorem d_Mg_merge_12 : decode prog_1_method_15_code 12 = .ok (.astore 6, 2) := by decide +kernel
theorem d_Mg_merge_14 : decode prog_1_method_15_code 14 = .ok (.aload_n 0, 1) := by decide +kernel
theorem d_Mg_merge_15 : decode prog_1_method_15_code 15 = .ok (.iload_n 3, 1) := by decide +kernel
theorem d_Mg_merge_16 : decode prog_1_method_15_code 16 = .ok (.invokevirtual 51, 3) := by decide +kernel
theorem d_Mg_merge_19 : decode prog_1_method_15_code 19 = .ok (.astore 7, 2) := by decide +kernel
theorem d_Mg_merge_21 : decode prog_1_method_15_code 21 = .ok (.aload_n 0, 1) := by decide +kernel
theorem d_Mg_merge_22 : decode prog_1_method_15_code 22 = .ok (.iload 4, 2) := by decide +kernel
theorem d_Mg_merge_24 : decode prog_1_method_15_code 24 = .ok (.invokevirtual 51, 3) := by decide +kernel
theorem d_Mg_merge_27 : decode prog_1_method_15_code 27 = .ok (.astore 8, 2) := by decide +kernel
theorem d_Mg_merge_29 : decode prog_1_method_15_code 29 = .ok (.aload_n 0, 1) := by decide +kernel
theorem d_Mg_merge_30 : decode prog_1_method_15_code 30 = .ok (.aload 5, 2) := by decide +kernel
theorem d_Mg_merge_32 : decode prog_1_method_15_code 32 = .ok (.aload 6, 2) := by decide +kernel
theorem d_Mg_merge_34 : decode prog_1_method_15_code 34 = .ok (.aload 7, 2) := by decide +kernel
theorem d_Mg_merge_36 : decode prog_1_method_15_code 36 = .ok (.invokevirtual 131, 3) := by decide +kernel
theorem d_Mg_merge_39 : decode prog_1_method_15_code 39 = .ok (.ifCond .ne 5, 3) := by decide +kernel
theorem d_Mg_merge_42 : decode prog_1_method_15_code 42 = .ok (.iconst (-1), 1) := by decide +kernel
theorem d_Mg_merge_43 : decode prog_1_method_15_code 43 = .ok (.ireturn, 1) := by decide +kernel
theorem d_Mg_merge_44 : decode prog_1_method_15_code 44 = .ok (.aload_n 0, 1) := by decide +kernel
theorem d_Mg_merge_45 : decode prog_1_method_15_code 45 = .ok (.aload 5, 2) := by decide +kernel
theorem d_Mg_merge_47 : decode prog_1_method_15_code 47 = .ok (.aload 6, 2) := by decide +kernel
theorem d_Mg_merge_49 : decode prog_1_method_15_code 49 = .ok (.aload 7, 2) := by decide +kernel
theorem d_Mg_merge_51 : decode prog_1_method_15_code 51 = .ok (.invokestatic 135, 3) := by decide +kernel
theorem d_Mg_merge_54 : decode prog_1_method_15_code 54 = .ok (.aload 5, 2) := by decide +kernel
theorem d_Mg_merge_56 : decode prog_1_method_15_code 56 = .ok (.aload 7, 2) := by decide +kernel
theorem d_Mg_merge_58 : decode prog_1_method_15_code 58 = .ok (.aload 6, 2) := by decide +kernel
theorem d_Mg_merge_60 : decode prog_1_method_15_code 60 = .ok (.invokestatic 135, 3) := by decide +kernel
theorem d_Mg_merge_63 : decode prog_1_method_15_code 63 = .ok (.invokevirtual 139, 3) := by decide +kernel
theorem d_Mg_merge_66 : decode prog_1_method_15_code 66 = .ok (.aload 8, 2) := by decide +kernel
theorem d_Mg_merge_68 : decode prog_1_method_15_code 68 = .ok (.aload_n 0, 1) := by decide +kernel
theorem d_Mg_merge_69 : decode prog_1_method_15_code 69 = .ok (.getfield 16, 3) := by decide +kernel
theorem d_Mg_merge_72 : decode prog_1_method_15_code 72 = .ok (.invokevirtual 66, 3) := by decide +kernel
theorem d_Mg_merge_75 : decode prog_1_method_15_code 75 = .ok (.aload_n 0, 1) := by decide +kernel
theorem d_Mg_merge_76 : decode prog_1_method_15_code 76 = .ok (.getfield 30, 3) := by decide +kernel
theorem d_Mg_merge_79 : decode prog_1_method_15_code 79 = .ok (.ireturn, 1) := by decide +kernel
theorem zt_23 : (Cond.selects "MergeGraphs" (⟨"MergeGraphs", "draftMerged", "(LMergeGraphs$Graph;LMergeGraphs$Graph;LMergeGraphs$Graph;)Z"⟩ : MethodName) (⟨"MergeGraphs", "draftMerged", "(LMergeGraphs$Graph;LMergeGraphs$Graph;LMergeGraphs$Graph;)Z"⟩ : MethodName)) ∈ zTg := zmem 23 (by decide +kernel) (by decide +kernel)
theorem zt_24 : (Cond.selects "MergeGraphs" (⟨"MergeGraphs", "noteClashes", "(JJ)V"⟩ : MethodName) (⟨"MergeGraphs", "noteClashes", "(JJ)V"⟩ : MethodName)) ∈ zTg := zmem 24 (by decide +kernel) (by decide +kernel)
theorem zt_598 : (Cond.methodLink "MergeGraphs" (131 : Nat) (⟨"MergeGraphs", "draftMerged", "(LMergeGraphs$Graph;LMergeGraphs$Graph;LMergeGraphs$Graph;)Z"⟩ : MethodName)) ∈ zTg := zmem 598 (by decide +kernel) (by decide +kernel)
theorem zt_600 : (Cond.instanceMethod (⟨"MergeGraphs", "draftMerged", "(LMergeGraphs$Graph;LMergeGraphs$Graph;LMergeGraphs$Graph;)Z"⟩ : MethodName)) ∈ zTg := zmem 600 (by decide +kernel) (by decide +kernel)
theorem zt_614 : (Cond.methodLink "MergeGraphs" (135 : Nat) (⟨"MergeGraphs", "clashTerms", "(LMergeGraphs$Graph;LMergeGraphs$Graph;LMergeGraphs$Graph;)J"⟩ : MethodName)) ∈ zTg := zmem 614 (by decide +kernel) (by decide +kernel)
theorem zt_615 : (Cond.static (⟨"MergeGraphs", "clashTerms", "(LMergeGraphs$Graph;LMergeGraphs$Graph;LMergeGraphs$Graph;)J"⟩ : MethodName)) ∈ zTg := zmem 615 (by decide +kernel) (by decide +kernel)
theorem zt_625 : (Cond.methodLink "MergeGraphs" (139 : Nat) (⟨"MergeGraphs", "noteClashes", "(JJ)V"⟩ : MethodName)) ∈ zTg := zmem 625 (by decide +kernel) (by decide +kernel)
theorem zt_627 : (Cond.instanceMethod (⟨"MergeGraphs", "noteClashes", "(JJ)V"⟩ : MethodName)) ∈ zTg := zmem 627 (by decide +kernel) (by decide +kernel)
def y_Mg_clash : MethodName := ⟨"MergeGraphs", "clash", "(II)I"⟩
abbrev M_Mg_clash : zM := (nR3, prog_1_method_16_code, 3, (some .int), 7)
set_option maxRecDepth 100000 in
theorem zk_Mg_clash : Cond.code y_Mg_clash (M_Mg_clash).2.1 (M_Mg_clash).2.2.1 (M_Mg_clash).2.2.2.1 ∈ zTg := zmem 635 rfl rfl
theorem zy_Mg_clash : (y_Mg_clash).cls ≠ "java/lang/invoke/MethodHandle" ∧ (y_Mg_clash).cls ≠ "java/lang/invoke/VarHandle" ∧ (parseMethodDescriptor (y_Mg_clash).desc).map (fun d => d.parameters.length) = some 2 := by decide +kernel
theorem d_Mg_clash_0 : decode prog_1_method_16_code 0 = .ok (.iload_n 1, 1) := by decide +kernel
theorem d_Mg_clash_1 : decode prog_1_method_16_code 1 = .ok (.ifCond .lt 11, 3) := by decide +kernel
theorem d_Mg_clash_4 : decode prog_1_method_16_code 4 = .ok (.iload_n 1, 1) := by decide +kernel
theorem d_Mg_clash_5 : decode prog_1_method_16_code 5 = .ok (.aload_n 0, 1) := by decide +kernel
theorem d_Mg_clash_6 : decode prog_1_method_16_code 6 = .ok (.getfield 30, 3) := by decide +kernel
theorem d_Mg_clash_9 : decode prog_1_method_16_code 9 = .ok (.if_icmp .lt 13, 3) := by decide +kernel
theorem d_Mg_clash_12 : decode prog_1_method_16_code 12 = .ok (.new 87, 3) := by decide +kernel
theorem d_Mg_clash_15 : decode prog_1_method_16_code 15 = .ok (.dup, 1) := by decide +kernel
theorem d_Mg_clash_16 : decode prog_1_method_16_code 16 = .ok (.ldc 143, 2) := by decide +kernel
theorem d_Mg_clash_18 : decode prog_1_method_16_code 18 = .ok (.invokespecial 91, 3) := by decide +kernel
theorem d_Mg_clash_21 : decode prog_1_method_16_code 21 = .ok (.athrow, 1) := by decide +kernel
theorem d_Mg_clash_22 : decode prog_1_method_16_code 22 = .ok (.iload_n 2, 1) := by decide +kernel
theorem d_Mg_clash_23 : decode prog_1_method_16_code 23 = .ok (.invokestatic 145, 3) := by decide +kernel
theorem d_Mg_clash_26 : decode prog_1_method_16_code 26 = .ok (.iload_n 2, 1) := by decide +kernel
theorem d_Mg_clash_27 : decode prog_1_method_16_code 27 = .ok (.ifCond .ne 14, 3) := by decide +kernel
theorem d_Mg_clash_30 : decode prog_1_method_16_code 30 = .ok (.aload_n 0, 1) := by decide +kernel
theorem d_Mg_clash_31 : decode prog_1_method_16_code 31 = .ok (.getfield 26, 3) := by decide +kernel
theorem d_Mg_clash_34 : decode prog_1_method_16_code 34 = .ok (.iload_n 1, 1) := by decide +kernel
theorem d_Mg_clash_35 : decode prog_1_method_16_code 35 = .ok (.iaload, 1) := by decide +kernel
theorem d_Mg_clash_36 : decode prog_1_method_16_code 36 = .ok (.iconst 1, 1) := by decide +kernel
theorem d_Mg_clash_37 : decode prog_1_method_16_code 37 = .ok (.ishr, 1) := by decide +kernel
theorem d_Mg_clash_38 : decode prog_1_method_16_code 38 = .ok (.goto 11, 3) := by decide +kernel
theorem d_Mg_clash_41 : decode prog_1_method_16_code 41 = .ok (.aload_n 0, 1) := by decide +kernel
theorem d_Mg_clash_42 : decode prog_1_method_16_code 42 = .ok (.getfield 26, 3) := by decide +kernel
theorem d_Mg_clash_45 : decode prog_1_method_16_code 45 = .ok (.iload_n 1, 1) := by decide +kernel
theorem d_Mg_clash_46 : decode prog_1_method_16_code 46 = .ok (.iaload, 1) := by decide +kernel
theorem d_Mg_clash_47 : decode prog_1_method_16_code 47 = .ok (.iconst 1, 1) := by decide +kernel
theorem d_Mg_clash_48 : decode prog_1_method_16_code 48 = .ok (.iand, 1) := by decide +kernel
theorem d_Mg_clash_49 : decode prog_1_method_16_code 49 = .ok (.ireturn, 1) := by decide +kernel
theorem zt_637 : (Cond.methodLink "MergeGraphs" (145 : Nat) (⟨"MergeGraphs", "checkOneOfTwo", "(I)V"⟩ : MethodName)) ∈ zTg := zmem 637 (by decide +kernel) (by decide +kernel)
theorem zt_638 : (Cond.static (⟨"MergeGraphs", "checkOneOfTwo", "(I)V"⟩ : MethodName)) ∈ zTg := zmem 638 (by decide +kernel) (by decide +kernel)
def y_Mg_change : MethodName := ⟨"MergeGraphs", "change", "(II)I"⟩
abbrev M_Mg_change : zM := (nR3, prog_1_method_17_code, 5, (some .int), 7)
set_option maxRecDepth 100000 in
theorem zk_Mg_change : Cond.code y_Mg_change (M_Mg_change).2.1 (M_Mg_change).2.2.1 (M_Mg_change).2.2.2.1 ∈ zTg := zmem 646 rfl rfl
theorem zy_Mg_change : (y_Mg_change).cls ≠ "java/lang/invoke/MethodHandle" ∧ (y_Mg_change).cls ≠ "java/lang/invoke/VarHandle" ∧ (parseMethodDescriptor (y_Mg_change).desc).map (fun d => d.parameters.length) = some 2 := by decide +kernel
theorem d_Mg_change_0 : decode prog_1_method_17_code 0 = .ok (.aload_n 0, 1) := by decide +kernel
theorem d_Mg_change_1 : decode prog_1_method_17_code 1 = .ok (.iload_n 1, 1) := by decide +kernel
theorem d_Mg_change_2 : decode prog_1_method_17_code 2 = .ok (.invokevirtual 51, 3) := by decide +kernel
theorem d_Mg_change_5 : decode prog_1_method_17_code 5 = .ok (.astore_n 3, 1) := by decide +kernel
theorem d_Mg_change_6 : decode prog_1_method_17_code 6 = .ok (.aload_n 0, 1) := by decide +kernel
theorem d_Mg_change_7 : decode prog_1_method_17_code 7 = .ok (.iload_n 2, 1) := by decide +kernel
theorem d_Mg_change_8 : decode prog_1_method_17_code 8 = .ok (.invokevirtual 51, 3) := by decide +kernel
theorem d_Mg_change_11 : decode prog_1_method_17_code 11 = .ok (.astore 4, 2) := by decide +kernel
theorem d_Mg_change_13 : decode prog_1_method_17_code 13 = .ok (.aload_n 0, 1) := by decide +kernel
theorem d_Mg_change_14 : decode prog_1_method_17_code 14 = .ok (.getfield 20, 3) := by decide +kernel
theorem d_Mg_change_17 : decode prog_1_method_17_code 17 = .ok (.invokevirtual 120, 3) := by decide +kernel
theorem d_Mg_change_20 : decode prog_1_method_17_code 20 = .ok (.aload_n 0, 1) := by decide +kernel
theorem d_Mg_change_21 : decode prog_1_method_17_code 21 = .ok (.getfield 20, 3) := by decide +kernel
theorem d_Mg_change_24 : decode prog_1_method_17_code 24 = .ok (.aload_n 3, 1) := by decide +kernel
theorem d_Mg_change_25 : decode prog_1_method_17_code 25 = .ok (.aload 4, 2) := by decide +kernel
theorem d_Mg_change_27 : decode prog_1_method_17_code 27 = .ok (.invokevirtual 149, 3) := by decide +kernel
theorem d_Mg_change_30 : decode prog_1_method_17_code 30 = .ok (.pop, 1) := by decide +kernel
theorem d_Mg_change_31 : decode prog_1_method_17_code 31 = .ok (.aload_n 0, 1) := by decide +kernel
theorem d_Mg_change_32 : decode prog_1_method_17_code 32 = .ok (.getfield 23, 3) := by decide +kernel
theorem d_Mg_change_35 : decode prog_1_method_17_code 35 = .ok (.invokevirtual 120, 3) := by decide +kernel
theorem d_Mg_change_38 : decode prog_1_method_17_code 38 = .ok (.aload_n 0, 1) := by decide +kernel
theorem d_Mg_change_39 : decode prog_1_method_17_code 39 = .ok (.getfield 23, 3) := by decide +kernel
theorem d_Mg_change_42 : decode prog_1_method_17_code 42 = .ok (.aload 4, 2) := by decide +kernel
theorem d_Mg_change_44 : decode prog_1_method_17_code 44 = .ok (.aload_n 3, 1) := by decide +kernel
theorem d_Mg_change_45 : decode prog_1_method_17_code 45 = .ok (.invokevirtual 149, 3) := by decide +kernel
theorem d_Mg_change_48 : decode prog_1_method_17_code 48 = .ok (.pop, 1) := by decide +kernel
theorem d_Mg_change_49 : decode prog_1_method_17_code 49 = .ok (.aload_n 0, 1) := by decide +kernel
theorem d_Mg_change_50 : decode prog_1_method_17_code 50 = .ok (.getfield 20, 3) := by decide +kernel
theorem d_Mg_change_53 : decode prog_1_method_17_code 53 = .ok (.invokevirtual 70, 3) := by decide +kernel
theorem d_Mg_change_56 : decode prog_1_method_17_code 56 = .ok (.aload_n 0, 1) := by decide +kernel
theorem d_Mg_change_57 : decode prog_1_method_17_code 57 = .ok (.getfield 23, 3) := by decide +kernel
theorem d_Mg_change_60 : decode prog_1_method_17_code 60 = .ok (.invokevirtual 70, 3) := by decide +kernel
theorem d_Mg_change_63 : decode prog_1_method_17_code 63 = .ok (.iadd, 1) := by decide +kernel
theorem d_Mg_change_64 : decode prog_1_method_17_code 64 = .ok (.ireturn, 1) := by decide +kernel
theorem zf_Mg_20 : Cond.fieldLink nR3 20 (nT3 2).1 (nT3 2).2.1 (nT3 2).2.2.1 ∈ zTg := zmem 147 (by decide +kernel) (by decide +kernel)
theorem zf_Mg_23 : Cond.fieldLink nR3 23 (nT3 3).1 (nT3 3).2.1 (nT3 3).2.2.1 ∈ zTg := zmem 148 (by decide +kernel) (by decide +kernel)
def y_Mg_part : MethodName := ⟨"MergeGraphs", "part", "(II)I"⟩
abbrev M_Mg_part : zM := (nR3, prog_1_method_18_code, 3, (some .int), 7)
set_option maxRecDepth 100000 in
theorem zk_Mg_part : Cond.code y_Mg_part (M_Mg_part).2.1 (M_Mg_part).2.2.1 (M_Mg_part).2.2.2.1 ∈ zTg := zmem 653 rfl rfl
theorem zy_Mg_part : (y_Mg_part).cls ≠ "java/lang/invoke/MethodHandle" ∧ (y_Mg_part).cls ≠ "java/lang/invoke/VarHandle" ∧ (parseMethodDescriptor (y_Mg_part).desc).map (fun d => d.parameters.length) = some 2 := by decide +kernel
theorem d_Mg_part_0 : decode prog_1_method_18_code 0 = .ok (.iload_n 1, 1) := by decide +kernel
theorem d_Mg_part_1 : decode prog_1_method_18_code 1 = .ok (.invokestatic 145, 3) := by decide +kernel
theorem d_Mg_part_4 : decode prog_1_method_18_code 4 = .ok (.iload_n 2, 1) := by decide +kernel
theorem d_Mg_part_5 : decode prog_1_method_18_code 5 = .ok (.ifCond .ge 13, 3) := by decide +kernel
theorem d_Mg_part_8 : decode prog_1_method_18_code 8 = .ok (.new 87, 3) := by decide +kernel
theorem d_Mg_part_11 : decode prog_1_method_18_code 11 = .ok (.dup, 1) := by decide +kernel
theorem d_Mg_part_12 : decode prog_1_method_18_code 12 = .ok (.ldc 152, 2) := by decide +kernel
theorem d_Mg_part_14 : decode prog_1_method_18_code 14 = .ok (.invokespecial 91, 3) := by decide +kernel
theorem d_Mg_part_17 : decode prog_1_method_18_code 17 = .ok (.athrow, 1) := by decide +kernel
theorem d_Mg_part_18 : decode prog_1_method_18_code 18 = .ok (.iload_n 1, 1) := by decide +kernel
theorem d_Mg_part_19 : decode prog_1_method_18_code 19 = .ok (.ifCond .ne 14, 3) := by decide +kernel
theorem d_Mg_part_22 : decode prog_1_method_18_code 22 = .ok (.aload_n 0, 1) := by decide +kernel
theorem d_Mg_part_23 : decode prog_1_method_18_code 23 = .ok (.getfield 20, 3) := by decide +kernel
theorem d_Mg_part_26 : decode prog_1_method_18_code 26 = .ok (.iload_n 2, 1) := by decide +kernel
theorem d_Mg_part_27 : decode prog_1_method_18_code 27 = .ok (.invokevirtual 98, 3) := by decide +kernel
theorem d_Mg_part_30 : decode prog_1_method_18_code 30 = .ok (.goto 11, 3) := by decide +kernel
theorem d_Mg_part_33 : decode prog_1_method_18_code 33 = .ok (.aload_n 0, 1) := by decide +kernel
theorem d_Mg_part_34 : decode prog_1_method_18_code 34 = .ok (.getfield 23, 3) := by decide +kernel
theorem d_Mg_part_37 : decode prog_1_method_18_code 37 = .ok (.iload_n 2, 1) := by decide +kernel
theorem d_Mg_part_38 : decode prog_1_method_18_code 38 = .ok (.invokevirtual 98, 3) := by decide +kernel
theorem d_Mg_part_41 : decode prog_1_method_18_code 41 = .ok (.ireturn, 1) := by decide +kernel
def y_Mg_apply : MethodName := ⟨"MergeGraphs", "apply", "(IZ)I"⟩
abbrev M_Mg_apply : zM := (nR3, prog_1_method_19_code, 7, (some .int), 7)
set_option maxRecDepth 100000 in
theorem zk_Mg_apply : Cond.code y_Mg_apply (M_Mg_apply).2.1 (M_Mg_apply).2.2.1 (M_Mg_apply).2.2.2.1 ∈ zTg := zmem 660 rfl rfl
theorem zy_Mg_apply : (y_Mg_apply).cls ≠ "java/lang/invoke/MethodHandle" ∧ (y_Mg_apply).cls ≠ "java/lang/invoke/VarHandle" ∧ (parseMethodDescriptor (y_Mg_apply).desc).map (fun d => d.parameters.length) = some 2 := by decide +kernel
theorem d_Mg_apply_0 : decode prog_1_method_19_code 0 = .ok (.aload_n 0, 1) := by decide +kernel
theorem d_Mg_apply_1 : decode prog_1_method_19_code 1 = .ok (.iload_n 1, 1) := by decide +kernel
theorem d_Mg_apply_2 : decode prog_1_method_19_code 2 = .ok (.invokevirtual 51, 3) := by decide +kernel
theorem d_Mg_apply_5 : decode prog_1_method_19_code 5 = .ok (.astore_n 3, 1) := by decide +kernel
theorem d_Mg_apply_6 : decode prog_1_method_19_code 6 = .ok (.iload_n 2, 1) := by decide +kernel
theorem d_Mg_apply_7 : decode prog_1_method_19_code 7 = .ok (.ifCond .eq 10, 3) := by decide +kernel
theorem d_Mg_apply_10 : decode prog_1_method_19_code 10 = .ok (.aload_n 0, 1) := by decide +kernel
theorem d_Mg_apply_11 : decode prog_1_method_19_code 11 = .ok (.getfield 23, 3) := by decide +kernel
theorem d_Mg_apply_14 : decode prog_1_method_19_code 14 = .ok (.goto 7, 3) := by decide +kernel
theorem d_Mg_apply_17 : decode prog_1_method_19_code 17 = .ok (.aload_n 0, 1) := by decide +kernel
theorem d_Mg_apply_18 : decode prog_1_method_19_code 18 = .ok (.getfield 20, 3) := by decide +kernel
theorem d_Mg_apply_21 : decode prog_1_method_19_code 21 = .ok (.astore 4, 2) := by decide +kernel
theorem d_Mg_apply_23 : decode prog_1_method_19_code 23 = .ok (.iload_n 2, 1) := by decide +kernel
theorem d_Mg_apply_24 : decode prog_1_method_19_code 24 = .ok (.ifCond .eq 10, 3) := by decide +kernel
theorem d_Mg_apply_27 : decode prog_1_method_19_code 27 = .ok (.aload_n 0, 1) := by decide +kernel
theorem d_Mg_apply_28 : decode prog_1_method_19_code 28 = .ok (.getfield 20, 3) := by decide +kernel
theorem d_Mg_apply_31 : decode prog_1_method_19_code 31 = .ok (.goto 7, 3) := by decide +kernel
theorem d_Mg_apply_34 : decode prog_1_method_19_code 34 = .ok (.aload_n 0, 1) := by decide +kernel
theorem d_Mg_apply_35 : decode prog_1_method_19_code 35 = .ok (.getfield 23, 3) := by decide +kernel
theorem d_Mg_apply_38 : decode prog_1_method_19_code 38 = .ok (.astore 5, 2) := by decide +kernel
theorem d_Mg_apply_40 : decode prog_1_method_19_code 40 = .ok (.aload_n 3, 1) := by decide +kernel
theorem d_Mg_apply_41 : decode prog_1_method_19_code 41 = .ok (.invokevirtual 70, 3) := by decide +kernel
theorem d_Mg_apply_44 : decode prog_1_method_19_code 44 = .ok (.aload 4, 2) := by decide +kernel
theorem d_Mg_apply_46 : decode prog_1_method_19_code 46 = .ok (.invokevirtual 70, 3) := by decide +kernel
theorem d_Mg_apply_49 : decode prog_1_method_19_code 49 = .ok (.isub, 1) := by decide +kernel
theorem d_Mg_apply_50 : decode prog_1_method_19_code 50 = .ok (.aload 5, 2) := by decide +kernel
theorem d_Mg_apply_52 : decode prog_1_method_19_code 52 = .ok (.invokevirtual 70, 3) := by decide +kernel
theorem d_Mg_apply_55 : decode prog_1_method_19_code 55 = .ok (.iadd, 1) := by decide +kernel
theorem d_Mg_apply_56 : decode prog_1_method_19_code 56 = .ok (.bipush 30, 2) := by decide +kernel
theorem d_Mg_apply_58 : decode prog_1_method_19_code 58 = .ok (.if_icmp .gt 7, 3) := by decide +kernel
theorem d_Mg_apply_61 : decode prog_1_method_19_code 61 = .ok (.iconst 1, 1) := by decide +kernel
theorem d_Mg_apply_62 : decode prog_1_method_19_code 62 = .ok (.goto 4, 3) := by decide +kernel
theorem d_Mg_apply_65 : decode prog_1_method_19_code 65 = .ok (.iconst 0, 1) := by decide +kernel
theorem d_Mg_apply_66 : decode prog_1_method_19_code 66 = .ok (.istore 6, 2) := by decide +kernel
theorem d_Mg_apply_68 : decode prog_1_method_19_code 68 = .ok (.iload 6, 2) := by decide +kernel
theorem d_Mg_apply_70 : decode prog_1_method_19_code 70 = .ok (.ifCond .eq 26, 3) := by decide +kernel
theorem d_Mg_apply_73 : decode prog_1_method_19_code 73 = .ok (.aload_n 3, 1) := by decide +kernel
theorem d_Mg_apply_74 : decode prog_1_method_19_code 74 = .ok (.aload 4, 2) := by decide +kernel
theorem d_Mg_apply_76 : decode prog_1_method_19_code 76 = .ok (.invokevirtual 154, 3) := by decide +kernel
theorem d_Mg_apply_79 : decode prog_1_method_19_code 79 = .ok (.aload 4, 2) := by decide +kernel
theorem d_Mg_apply_81 : decode prog_1_method_19_code 81 = .ok (.invokevirtual 70, 3) := by decide +kernel
theorem d_Mg_apply_84 : decode prog_1_method_19_code 84 = .ok (.if_icmp .ne 12, 3) := by decide +kernel
theorem d_Mg_apply_87 : decode prog_1_method_19_code 87 = .ok (.aload_n 3, 1) := by decide +kernel
theorem d_Mg_apply_88 : decode prog_1_method_19_code 88 = .ok (.aload 5, 2) := by decide +kernel
theorem d_Mg_apply_90 : decode prog_1_method_19_code 90 = .ok (.invokevirtual 154, 3) := by decide +kernel
theorem d_Mg_apply_93 : decode prog_1_method_19_code 93 = .ok (.ifCond .eq 5, 3) := by decide +kernel
theorem d_Mg_apply_96 : decode prog_1_method_19_code 96 = .ok (.iconst 0, 1) := by decide +kernel
theorem d_Mg_apply_97 : decode prog_1_method_19_code 97 = .ok (.ireturn, 1) := by decide +kernel
theorem d_Mg_apply_98 : decode prog_1_method_19_code 98 = .ok (.aload_n 3, 1) := by decide +kernel
theorem d_Mg_apply_99 : decode prog_1_method_19_code 99 = .ok (.aload 4, 2) := by decide +kernel
theorem d_Mg_apply_101 : decode prog_1_method_19_code 101 = .ok (.invokevirtual 158, 3) := by decide +kernel
theorem d_Mg_apply_104 : decode prog_1_method_19_code 104 = .ok (.aload_n 3, 1) := by decide +kernel
theorem d_Mg_apply_105 : decode prog_1_method_19_code 105 = .ok (.aload 5, 2) := by decide +kernel
theorem d_Mg_apply_107 : decode prog_1_method_19_code 107 = .ok (.invokevirtual 161, 3) := by decide +kernel
theorem d_Mg_apply_110 : decode prog_1_method_19_code 110 = .ok (.iconst 1, 1) := by decide +kernel
theorem d_Mg_apply_111 : decode prog_1_method_19_code 111 = .ok (.ireturn, 1) := by decide +kernel
theorem zt_661 : (Cond.methodLink "MergeGraphs" (154 : Nat) (⟨"MergeGraphs$Graph", "countShared", "(LMergeGraphs$Graph;)I"⟩ : MethodName)) ∈ zTg := zmem 661 (by decide +kernel) (by decide +kernel)
theorem zt_662 : (Cond.instanceMethod (⟨"MergeGraphs$Graph", "countShared", "(LMergeGraphs$Graph;)I"⟩ : MethodName)) ∈ zTg := zmem 662 (by decide +kernel) (by decide +kernel)
theorem zt_663 : (Cond.selects "MergeGraphs$Graph" (⟨"MergeGraphs$Graph", "countShared", "(LMergeGraphs$Graph;)I"⟩ : MethodName) (⟨"MergeGraphs$Graph", "countShared", "(LMergeGraphs$Graph;)I"⟩ : MethodName)) ∈ zTg := zmem 663 (by decide +kernel) (by decide +kernel)
theorem zt_665 : (Cond.methodLink "MergeGraphs" (158 : Nat) (⟨"MergeGraphs$Graph", "eraseAll", "(LMergeGraphs$Graph;)V"⟩ : MethodName)) ∈ zTg := zmem 665 (by decide +kernel) (by decide +kernel)
theorem zt_666 : (Cond.instanceMethod (⟨"MergeGraphs$Graph", "eraseAll", "(LMergeGraphs$Graph;)V"⟩ : MethodName)) ∈ zTg := zmem 666 (by decide +kernel) (by decide +kernel)
theorem zt_667 : (Cond.selects "MergeGraphs$Graph" (⟨"MergeGraphs$Graph", "eraseAll", "(LMergeGraphs$Graph;)V"⟩ : MethodName) (⟨"MergeGraphs$Graph", "eraseAll", "(LMergeGraphs$Graph;)V"⟩ : MethodName)) ∈ zTg := zmem 667 (by decide +kernel) (by decide +kernel)
theorem zt_670 : (Cond.methodLink "MergeGraphs" (161 : Nat) (⟨"MergeGraphs$Graph", "insertAll", "(LMergeGraphs$Graph;)V"⟩ : MethodName)) ∈ zTg := zmem 670 (by decide +kernel) (by decide +kernel)
theorem zt_671 : (Cond.instanceMethod (⟨"MergeGraphs$Graph", "insertAll", "(LMergeGraphs$Graph;)V"⟩ : MethodName)) ∈ zTg := zmem 671 (by decide +kernel) (by decide +kernel)
theorem zt_672 : (Cond.selects "MergeGraphs$Graph" (⟨"MergeGraphs$Graph", "insertAll", "(LMergeGraphs$Graph;)V"⟩ : MethodName) (⟨"MergeGraphs$Graph", "insertAll", "(LMergeGraphs$Graph;)V"⟩ : MethodName)) ∈ zTg := zmem 672 (by decide +kernel) (by decide +kernel)
def f_Mg_graphAt_b10 (G : Nat) (h : pH) : Option pT := some (.inl 1, h)
theorem f_Mg_graphAt_b10_eq (G : Nat) (h : pH) : f_Mg_graphAt_b10 G h = (some (.inl 1, h)) := rfl
def f_Mg_graphAt (G : Nat) (x0 : Nat) (x1 : Int32) (h : pH) : Option pT := if x1 < 0 then ((f_Mg_graphAt_b10 G) h) else (if x1 < (6 : Int32) then ((gR h x0 3 0).bind fun v3 => (aR h 2 v3 x1).bind fun v4 => some (.inr (some (.ref v4)), h)) else ((f_Mg_graphAt_b10 G) h))
theorem f_Mg_graphAt_eq (G : Nat) (x0 : Nat) (x1 : Int32) (h : pH) : f_Mg_graphAt G x0 x1 h = (if x1 < 0 then ((f_Mg_graphAt_b10 G) h) else (if x1 < (6 : Int32) then ((gR h x0 3 0).bind fun v3 => (aR h 2 v3 x1).bind fun v4 => some (.inr (some (.ref v4)), h)) else ((f_Mg_graphAt_b10 G) h))) := rfl
set_option maxRecDepth 100000 in
set_option maxHeartbeats 4000000 in
theorem w_Mg_graphAt_b10 {X : zX} {r : pT} {G : Nat} (hQ : zQx X r) (hT : zTOK X) (hkn : zkn X 1 6) : ∀ (h : pH), f_Mg_graphAt_b10 G h = some r → Z X M_Mg_graphAt 0 0 h 10 [] [] := by
  intro h E
  rw [f_Mg_graphAt_b10_eq] at E
  exact x_throw (kd := 1) (text := "there is no such graph") hQ hT E xf1 zt_186 zt_56 (by decide +kernel) rfl xg1 xn1 xo1 d_Mg_graphAt_10 d_Mg_graphAt_13 d_Mg_graphAt_14 d_Mg_graphAt_16 d_Mg_graphAt_19 (Nat.le_of_ble_eq_true rfl) (zkn_le hkn (Nat.le_of_ble_eq_true rfl) (Nat.le_of_ble_eq_true rfl)) (Nat.le_of_ble_eq_true rfl)
set_option maxRecDepth 100000 in
set_option maxHeartbeats 4000000 in
theorem w_Mg_graphAt_b0 {X : zX} {r : pT} {G : Nat} (hQ : zQx X r) (hT : zTOK X) (hkn : zkn X 1 6) : ∀ (x0 : Nat) (x1 : Int32) (h : pH), f_Mg_graphAt G x0 x1 h = some r → Z X M_Mg_graphAt 0 0 h 0 [(0, .ref x0), (1, .int x1)] [] := by
  intro x0 x1 h E
  rw [f_Mg_graphAt_eq] at E
  refine z_iload_n 1 d_Mg_graphAt_0 rfl rfl ?_
  refine z_if_lt (y := 0) (tgt := 10) d_Mg_graphAt_1 (by decide) E (fun E => ?_) (fun E => ?_)
  · refine z_lv [] rfl ?_
    exact (w_Mg_graphAt_b10 hQ hT hkn) h E
  · refine z_iload_n 1 d_Mg_graphAt_4 rfl rfl ?_
    refine z_bipush (v := (6 : Int32)) d_Mg_graphAt_5 (by decide) ?_
    refine z_ic_lt (tgt := 20) d_Mg_graphAt_7 (by decide) E (fun E => ?_) (fun E => ?_)
    · refine z_aload_n 0 d_Mg_graphAt_20 rfl rfl ?_
      refine z_getR (ci := 3) (j := 0) rfl (by decide) zf_Mg_11 d_Mg_graphAt_21 E (fun v3 _ E => ?_)
      refine z_iload_n 1 d_Mg_graphAt_24 rfl rfl ?_
      refine z_aaload 2 (fun _ => rfl) rfl d_Mg_graphAt_25 E (fun v4 _ E => ?_)
      exact x_areturn hQ rfl (zkn_le hkn (Nat.le_of_ble_eq_true rfl) (Nat.le_of_ble_eq_true rfl)) d_Mg_graphAt_26 E
    · refine z_lv [] rfl ?_
      exact (w_Mg_graphAt_b10 hQ hT hkn) h E
theorem m_Mg_graphAt {l : Launch} (hl0 : l.stackTraces = false) {G : Nat} {x0 : Nat} {x1 : Int32} {h : pH} {r : pT} (E : f_Mg_graphAt G x0 x1 h = some r) : zMetT l y_Mg_graphAt M_Mg_graphAt 1 6 [.ref x0, .int x1] h r :=
  zMetT_of hl0 (by decide) rfl (Nat.le_of_ble_eq_true rfl) (fun X hT hQ hkn _ => w_Mg_graphAt_b0 hQ hT hkn x0 x1 h E)
def f_Mg_checkFact_b12 (G : Nat) (h : pH) : Option pT := some (.inl 1, h)
theorem f_Mg_checkFact_b12_eq (G : Nat) (h : pH) : f_Mg_checkFact_b12 G h = (some (.inl 1, h)) := rfl
def f_Mg_checkFact (G : Nat) (x0 : Nat) (x1 : Int32) (h : pH) : Option pT := if x1 < 0 then ((f_Mg_checkFact_b12 G) h) else (cI (oC h x0 0) (f_Gr_count G x0 h) fun v8 h5 => if x1 < v8 then (some (.inr none, h5)) else ((f_Mg_checkFact_b12 G) h5))
theorem f_Mg_checkFact_eq (G : Nat) (x0 : Nat) (x1 : Int32) (h : pH) : f_Mg_checkFact G x0 x1 h = (if x1 < 0 then ((f_Mg_checkFact_b12 G) h) else (cI (oC h x0 0) (f_Gr_count G x0 h) fun v8 h5 => if x1 < v8 then (some (.inr none, h5)) else ((f_Mg_checkFact_b12 G) h5))) := rfl
set_option maxRecDepth 100000 in
set_option maxHeartbeats 4000000 in
theorem w_Mg_checkFact_b12 {X : zX} {r : pT} {G : Nat} (hQ : zQx X r) (hT : zTOK X) (hkn : zkn X 1 6) : ∀ (h : pH), f_Mg_checkFact_b12 G h = some r → Z X M_Mg_checkFact 0 0 h 12 [] [] := by
  intro h E
  rw [f_Mg_checkFact_b12_eq] at E
  exact x_throw (kd := 1) (text := "there is no such fact") hQ hT E xf1 zt_186 zt_56 (by decide +kernel) rfl xg1 xn1 xo1 d_Mg_checkFact_12 d_Mg_checkFact_15 d_Mg_checkFact_16 d_Mg_checkFact_18 d_Mg_checkFact_21 (Nat.le_of_ble_eq_true rfl) (zkn_le hkn (Nat.le_of_ble_eq_true rfl) (Nat.le_of_ble_eq_true rfl)) (Nat.le_of_ble_eq_true rfl)
set_option maxRecDepth 100000 in
set_option maxHeartbeats 4000000 in
theorem w_Mg_checkFact_b0 {X : zX} {r : pT} {G : Nat} (hQ : zQx X r) (hT : zTOK X) (hkn : zkn X 1 6) : ∀ (x0 : Nat) (x1 : Int32) (h : pH), f_Mg_checkFact G x0 x1 h = some r → Z X M_Mg_checkFact 0 0 h 0 [(0, .ref x0), (1, .int x1)] [] := by
  intro x0 x1 h E
  rw [f_Mg_checkFact_eq] at E
  refine z_iload_n 1 d_Mg_checkFact_0 rfl rfl ?_
  refine z_if_lt (y := 0) (tgt := 12) d_Mg_checkFact_1 (by decide) E (fun E => ?_) (fun E => ?_)
  · refine z_lv [] rfl ?_
    exact (w_Mg_checkFact_b12 hQ hT hkn) h E
  · refine z_iload_n 1 d_Mg_checkFact_4 rfl rfl ?_
    refine z_aload_n 0 d_Mg_checkFact_5 rfl rfl ?_
    obtain ⟨g6, v8, h5, e7, E⟩ := cI_some E
    refine z_invV (ci := 0) (y := y_Gr_count) (Mc := M_Gr_count) (av := []) (rest := [.int x1]) rfl rfl ⟨zt_310, zt_311, zt_312, zt_49⟩ zk_Gr_count zy_Gr_count (by decide) (Nat.le_of_ble_eq_true rfl) (zkn_le hkn (Nat.le_of_ble_eq_true rfl) (Nat.le_of_ble_eq_true rfl)) rfl (Nat.le_of_ble_eq_true rfl) d_Mg_checkFact_6 g6 (m_Gr_count e7) ?_
    show Z X M_Mg_checkFact 0 0 h5 9 [(0, .ref x0), (1, .int x1)] [.int v8, .int x1]
    refine z_ic_lt (tgt := 22) d_Mg_checkFact_9 (by decide) E (fun E => ?_) (fun E => ?_)
    · exact x_return hQ rfl (zkn_le hkn (Nat.le_of_ble_eq_true rfl) (Nat.le_of_ble_eq_true rfl)) d_Mg_checkFact_22 E
    · refine z_lv [] rfl ?_
      exact (w_Mg_checkFact_b12 hQ hT hkn) h5 E
theorem m_Mg_checkFact {l : Launch} (hl0 : l.stackTraces = false) {G : Nat} {x0 : Nat} {x1 : Int32} {h : pH} {r : pT} (E : f_Mg_checkFact G x0 x1 h = some r) : zMetT l y_Mg_checkFact M_Mg_checkFact 1 6 [.ref x0, .int x1] h r :=
  zMetT_of hl0 (by decide) rfl (Nat.le_of_ble_eq_true rfl) (fun X hT hQ hkn _ => w_Mg_checkFact_b0 hQ hT hkn x0 x1 h E)
def f_Mg_checkOneOfTwo_b19 (G : Nat) (h : pH) : Option pT := some (.inr none, h)
theorem f_Mg_checkOneOfTwo_b19_eq (G : Nat) (h : pH) : f_Mg_checkOneOfTwo_b19 G h = (some (.inr none, h)) := rfl
def f_Mg_checkOneOfTwo (G : Nat) (x0 : Int32) (h : pH) : Option pT := if x0 = 0 then ((f_Mg_checkOneOfTwo_b19 G) h) else (if x0 = (1 : Int32) then ((f_Mg_checkOneOfTwo_b19 G) h) else (some (.inl 1, h)))
theorem f_Mg_checkOneOfTwo_eq (G : Nat) (x0 : Int32) (h : pH) : f_Mg_checkOneOfTwo G x0 h = (if x0 = 0 then ((f_Mg_checkOneOfTwo_b19 G) h) else (if x0 = (1 : Int32) then ((f_Mg_checkOneOfTwo_b19 G) h) else (some (.inl 1, h)))) := rfl
set_option maxRecDepth 100000 in
set_option maxHeartbeats 4000000 in
theorem w_Mg_checkOneOfTwo_b19 {X : zX} {r : pT} {G : Nat} (hQ : zQx X r) (hT : zTOK X) (hkn : zkn X 1 6) : ∀ (h : pH), f_Mg_checkOneOfTwo_b19 G h = some r → Z X M_Mg_checkOneOfTwo 0 0 h 19 [] [] := by
  intro h E
  rw [f_Mg_checkOneOfTwo_b19_eq] at E
  exact x_return hQ rfl (zkn_le hkn (Nat.le_of_ble_eq_true rfl) (Nat.le_of_ble_eq_true rfl)) d_Mg_checkOneOfTwo_19 E
set_option maxRecDepth 100000 in
set_option maxHeartbeats 4000000 in
theorem w_Mg_checkOneOfTwo_b0 {X : zX} {r : pT} {G : Nat} (hQ : zQx X r) (hT : zTOK X) (hkn : zkn X 1 6) : ∀ (x0 : Int32) (h : pH), f_Mg_checkOneOfTwo G x0 h = some r → Z X M_Mg_checkOneOfTwo 0 0 h 0 [(0, .int x0)] [] := by
  intro x0 h E
  rw [f_Mg_checkOneOfTwo_eq] at E
  refine z_iload_n 0 d_Mg_checkOneOfTwo_0 rfl rfl ?_
  refine z_if_eq (y := 0) (tgt := 19) d_Mg_checkOneOfTwo_1 (by decide) E (fun E => ?_) (fun E => ?_)
  · refine z_lv [] rfl ?_
    exact (w_Mg_checkOneOfTwo_b19 hQ hT hkn) h E
  · refine z_iload_n 0 d_Mg_checkOneOfTwo_4 rfl rfl ?_
    refine z_iconst (v := (1 : Int32)) d_Mg_checkOneOfTwo_5 (by decide) ?_
    refine z_ic_eq (tgt := 19) d_Mg_checkOneOfTwo_6 (by decide) E (fun E => ?_) (fun E => ?_)
    · refine z_lv [] rfl ?_
      exact (w_Mg_checkOneOfTwo_b19 hQ hT hkn) h E
    · exact x_throw (kd := 1) (text := "there is no such what") hQ hT E xf1 zt_186 zt_56 (by decide +kernel) rfl xg1 xn1 xo1 d_Mg_checkOneOfTwo_9 d_Mg_checkOneOfTwo_12 d_Mg_checkOneOfTwo_13 d_Mg_checkOneOfTwo_15 d_Mg_checkOneOfTwo_18 (Nat.le_of_ble_eq_true rfl) (zkn_le hkn (Nat.le_of_ble_eq_true rfl) (Nat.le_of_ble_eq_true rfl)) (Nat.le_of_ble_eq_true rfl)
theorem m_Mg_checkOneOfTwo {l : Launch} (hl0 : l.stackTraces = false) {G : Nat} {x0 : Int32} {h : pH} {r : pT} (E : f_Mg_checkOneOfTwo G x0 h = some r) : zMetT l y_Mg_checkOneOfTwo M_Mg_checkOneOfTwo 1 6 [.int x0] h r :=
  zMetT_of hl0 (by decide) rfl (Nat.le_of_ble_eq_true rfl) (fun X hT hQ hkn _ => w_Mg_checkOneOfTwo_b0 hQ hT hkn x0 h E)
def f_Mg_checkedNumber_b20 (G : Nat) (h : pH) : Option pT := some (.inl 2, h)
theorem f_Mg_checkedNumber_b20_eq (G : Nat) (h : pH) : f_Mg_checkedNumber_b20 G h = (some (.inl 2, h)) := rfl
def f_Mg_checkedNumber_b40 (G : Nat) (h : pH) : Option pT := some (.inl 2, h)
theorem f_Mg_checkedNumber_b40_eq (G : Nat) (h : pH) : f_Mg_checkedNumber_b40 G h = (some (.inl 2, h)) := rfl
def f_Mg_checkedNumber (G : Nat) (x0 : Int32) (x1 : Int32) (x2 : Int32) (h : pH) : Option pT := if x0 < 0 then ((f_Mg_checkedNumber_b20 G) h) else (if (46 : Int32) ≤ x0 then ((f_Mg_checkedNumber_b20 G) h) else (if x2 < 0 then ((f_Mg_checkedNumber_b20 G) h) else (if x2 < (46 : Int32) then (if x1 < 0 then ((f_Mg_checkedNumber_b40 G) h) else (if x1 < (40 : Int32) then (cI true (f_Mg_numberOf G x0 x1 x2 h) fun v8 h5 => some (.inr (some (.int v8)), h5)) else ((f_Mg_checkedNumber_b40 G) h))) else ((f_Mg_checkedNumber_b20 G) h))))
theorem f_Mg_checkedNumber_eq (G : Nat) (x0 : Int32) (x1 : Int32) (x2 : Int32) (h : pH) : f_Mg_checkedNumber G x0 x1 x2 h = (if x0 < 0 then ((f_Mg_checkedNumber_b20 G) h) else (if (46 : Int32) ≤ x0 then ((f_Mg_checkedNumber_b20 G) h) else (if x2 < 0 then ((f_Mg_checkedNumber_b20 G) h) else (if x2 < (46 : Int32) then (if x1 < 0 then ((f_Mg_checkedNumber_b40 G) h) else (if x1 < (40 : Int32) then (cI true (f_Mg_numberOf G x0 x1 x2 h) fun v8 h5 => some (.inr (some (.int v8)), h5)) else ((f_Mg_checkedNumber_b40 G) h))) else ((f_Mg_checkedNumber_b20 G) h))))) := rfl
set_option maxRecDepth 100000 in
set_option maxHeartbeats 4000000 in
theorem w_Mg_checkedNumber_b20 {X : zX} {r : pT} {G : Nat} (hQ : zQx X r) (hT : zTOK X) (hkn : zkn X 1 6) : ∀ (h : pH), f_Mg_checkedNumber_b20 G h = some r → Z X M_Mg_checkedNumber 0 0 h 20 [] [] := by
  intro h E
  rw [f_Mg_checkedNumber_b20_eq] at E
  exact x_throw (kd := 2) (text := "there is no such term") hQ hT E xf2 zt_256 zt_57 (by decide +kernel) rfl xg2 xn2 xo2 d_Mg_checkedNumber_20 d_Mg_checkedNumber_23 d_Mg_checkedNumber_24 d_Mg_checkedNumber_26 d_Mg_checkedNumber_29 (Nat.le_of_ble_eq_true rfl) (zkn_le hkn (Nat.le_of_ble_eq_true rfl) (Nat.le_of_ble_eq_true rfl)) (Nat.le_of_ble_eq_true rfl)
set_option maxRecDepth 100000 in
set_option maxHeartbeats 4000000 in
theorem w_Mg_checkedNumber_b40 {X : zX} {r : pT} {G : Nat} (hQ : zQx X r) (hT : zTOK X) (hkn : zkn X 1 6) : ∀ (h : pH), f_Mg_checkedNumber_b40 G h = some r → Z X M_Mg_checkedNumber 0 0 h 40 [] [] := by
  intro h E
  rw [f_Mg_checkedNumber_b40_eq] at E
  exact x_throw (kd := 2) (text := "there is no such verb") hQ hT E xf2 zt_256 zt_57 (by decide +kernel) rfl xg2 xn2 xo2 d_Mg_checkedNumber_40 d_Mg_checkedNumber_43 d_Mg_checkedNumber_44 d_Mg_checkedNumber_46 d_Mg_checkedNumber_49 (Nat.le_of_ble_eq_true rfl) (zkn_le hkn (Nat.le_of_ble_eq_true rfl) (Nat.le_of_ble_eq_true rfl)) (Nat.le_of_ble_eq_true rfl)
set_option maxRecDepth 100000 in
set_option maxHeartbeats 4000000 in
theorem w_Mg_checkedNumber_b0 {X : zX} {r : pT} {G : Nat} (hQ : zQx X r) (hT : zTOK X) (hkn : zkn X 1 6) : ∀ (x0 : Int32) (x1 : Int32) (x2 : Int32) (h : pH), f_Mg_checkedNumber G x0 x1 x2 h = some r → Z X M_Mg_checkedNumber 0 0 h 0 [(0, .int x0), (1, .int x1), (2, .int x2)] [] := by
  intro x0 x1 x2 h E
  rw [f_Mg_checkedNumber_eq] at E
  refine z_iload_n 0 d_Mg_checkedNumber_0 rfl rfl ?_
  refine z_if_lt (y := 0) (tgt := 20) d_Mg_checkedNumber_1 (by decide) E (fun E => ?_) (fun E => ?_)
  · refine z_lv [] rfl ?_
    exact (w_Mg_checkedNumber_b20 hQ hT hkn) h E
  · refine z_iload_n 0 d_Mg_checkedNumber_4 rfl rfl ?_
    refine z_bipush (v := (46 : Int32)) d_Mg_checkedNumber_5 (by decide) ?_
    refine z_ic_ge (tgt := 20) d_Mg_checkedNumber_7 (by decide) E (fun E => ?_) (fun E => ?_)
    · refine z_lv [] rfl ?_
      exact (w_Mg_checkedNumber_b20 hQ hT hkn) h E
    · refine z_iload_n 2 d_Mg_checkedNumber_10 rfl rfl ?_
      refine z_if_lt (y := 0) (tgt := 20) d_Mg_checkedNumber_11 (by decide) E (fun E => ?_) (fun E => ?_)
      · refine z_lv [] rfl ?_
        exact (w_Mg_checkedNumber_b20 hQ hT hkn) h E
      · refine z_iload_n 2 d_Mg_checkedNumber_14 rfl rfl ?_
        refine z_bipush (v := (46 : Int32)) d_Mg_checkedNumber_15 (by decide) ?_
        refine z_ic_lt (tgt := 30) d_Mg_checkedNumber_17 (by decide) E (fun E => ?_) (fun E => ?_)
        · refine z_iload_n 1 d_Mg_checkedNumber_30 rfl rfl ?_
          refine z_if_lt (y := 0) (tgt := 40) d_Mg_checkedNumber_31 (by decide) E (fun E => ?_) (fun E => ?_)
          · refine z_lv [] rfl ?_
            exact (w_Mg_checkedNumber_b40 hQ hT hkn) h E
          · refine z_iload_n 1 d_Mg_checkedNumber_34 rfl rfl ?_
            refine z_bipush (v := (40 : Int32)) d_Mg_checkedNumber_35 (by decide) ?_
            refine z_ic_lt (tgt := 50) d_Mg_checkedNumber_37 (by decide) E (fun E => ?_) (fun E => ?_)
            · refine z_iload_n 0 d_Mg_checkedNumber_50 rfl rfl ?_
              refine z_iload_n 1 d_Mg_checkedNumber_51 rfl rfl ?_
              refine z_iload_n 2 d_Mg_checkedNumber_52 rfl rfl ?_
              obtain ⟨g6, v8, h5, e7, E⟩ := cI_some E
              refine z_invS (y := y_Mg_numberOf) (Mc := M_Mg_numberOf) (av := [.int x0, .int x1, .int x2]) (rest := []) ⟨zt_273, zt_274, zt_48⟩ zk_Mg_numberOf zy_Mg_numberOf (by decide) (Nat.le_of_ble_eq_true rfl) (zkn_le hkn (Nat.le_of_ble_eq_true rfl) (Nat.le_of_ble_eq_true rfl)) rfl (Nat.le_of_ble_eq_true rfl) d_Mg_checkedNumber_53 (m_Mg_numberOf e7) ?_
              show Z X M_Mg_checkedNumber 0 0 h5 56 [(0, .int x0), (1, .int x1), (2, .int x2)] [.int v8]
              exact x_ireturn hQ rfl (zkn_le hkn (Nat.le_of_ble_eq_true rfl) (Nat.le_of_ble_eq_true rfl)) d_Mg_checkedNumber_56 E
            · refine z_lv [] rfl ?_
              exact (w_Mg_checkedNumber_b40 hQ hT hkn) h E
        · refine z_lv [] rfl ?_
          exact (w_Mg_checkedNumber_b20 hQ hT hkn) h E
theorem m_Mg_checkedNumber {l : Launch} (hl0 : l.stackTraces = false) {G : Nat} {x0 : Int32} {x1 : Int32} {x2 : Int32} {h : pH} {r : pT} (E : f_Mg_checkedNumber G x0 x1 x2 h = some r) : zMetT l y_Mg_checkedNumber M_Mg_checkedNumber 1 6 [.int x0, .int x1, .int x2] h r :=
  zMetT_of hl0 (by decide) rfl (Nat.le_of_ble_eq_true rfl) (fun X hT hQ hkn _ => w_Mg_checkedNumber_b0 hQ hT hkn x0 x1 x2 h E)
def f_Mg_put (G : Nat) (x0 : Nat) (x1 : Int32) (x2 : Int32) (x3 : Int32) (x4 : Int32) (h : pH) : Option pT := tR (oC h x0 3) (f_Mg_graphAt G x0 x1 h) fun v25 h19 => tI true (f_Mg_checkedNumber G x2 x3 x4 h19) fun v32 h26 => cI (oC h26 v25 0) (f_Gr_insert G v25 v32 h26) fun v36 h33 => some (.inr (some (.int v36)), h33)
theorem f_Mg_put_eq (G : Nat) (x0 : Nat) (x1 : Int32) (x2 : Int32) (x3 : Int32) (x4 : Int32) (h : pH) : f_Mg_put G x0 x1 x2 x3 x4 h = (tR (oC h x0 3) (f_Mg_graphAt G x0 x1 h) fun v25 h19 => tI true (f_Mg_checkedNumber G x2 x3 x4 h19) fun v32 h26 => cI (oC h26 v25 0) (f_Gr_insert G v25 v32 h26) fun v36 h33 => some (.inr (some (.int v36)), h33)) := rfl
set_option maxRecDepth 100000 in
set_option maxHeartbeats 4000000 in
theorem w_Mg_put_b0 {X : zX} {r : pT} {G : Nat} (hQ : zQx X r) (hT : zTOK X) (hkn : zkn X 2 12) : ∀ (x0 : Nat) (x1 : Int32) (x2 : Int32) (x3 : Int32) (x4 : Int32) (h : pH), f_Mg_put G x0 x1 x2 x3 x4 h = some r → Z X M_Mg_put 0 0 h 0 [(0, .ref x0), (1, .int x1), (2, .int x2), (3, .int x3), (4, .int x4)] [] := by
  intro x0 x1 x2 x3 x4 h E
  rw [f_Mg_put_eq] at E
  refine z_aload_n 0 d_Mg_put_0 rfl rfl ?_
  refine z_iload_n 1 d_Mg_put_1 rfl rfl ?_
  obtain ⟨g20, ⟨rc22, h19⟩, e21, kx23, kk24⟩ := tR_some E
  dsimp only at kx23 kk24
  refine x_invV (ci := 3) (y := y_Mg_graphAt) (Mc := M_Mg_graphAt) (av := [.int x1]) (rest := []) (mc1 := 1) (ms1 := 6) hQ hT rfl rfl ⟨zt_182, zt_184, zt_0, zt_48⟩ zk_Mg_graphAt zy_Mg_graphAt (by decide) (Nat.le_of_ble_eq_true rfl) (zkn_le hkn (Nat.le_of_ble_eq_true rfl) (Nat.le_of_ble_eq_true rfl)) rfl (Nat.le_of_ble_eq_true rfl) d_Mg_put_2 g20 (m_Mg_graphAt (zTOK_l hT) e21) kx23 (fun w9 hw9 => ?_)
  obtain ⟨v25, rfl, E⟩ := kk24 w9 hw9
  show Z X M_Mg_put 1 6 h19 5 [(0, .ref x0), (1, .int x1), (2, .int x2), (3, .int x3), (4, .int x4)] [.ref v25]
  refine z_astore (lv2 := [(5, .ref v25), (0, .ref x0), (1, .int x1), (2, .int x2), (3, .int x3), (4, .int x4)]) d_Mg_put_5 (Nat.le_of_ble_eq_true rfl) rfl ?_
  refine z_aload 0 d_Mg_put_7 rfl ?_
  refine z_iload_n 3 d_Mg_put_9 rfl rfl ?_
  refine z_iload_n 4 d_Mg_put_10 rfl rfl ?_
  refine z_iload 5 d_Mg_put_11 rfl ?_
  obtain ⟨g27, ⟨rc29, h26⟩, e28, kx30, kk31⟩ := tI_some E
  dsimp only at kx30 kk31
  refine x_invS (y := y_Mg_checkedNumber) (Mc := M_Mg_checkedNumber) (av := [.int x2, .int x3, .int x4]) (rest := [.ref v25]) (mc1 := 1) (ms1 := 6) hQ hT ⟨zt_253, zt_254, zt_48⟩ zk_Mg_checkedNumber zy_Mg_checkedNumber (by decide) (Nat.le_of_ble_eq_true rfl) (zkn_le hkn (Nat.le_of_ble_eq_true rfl) (Nat.le_of_ble_eq_true rfl)) rfl (Nat.le_of_ble_eq_true rfl) d_Mg_put_13 (m_Mg_checkedNumber (zTOK_l hT) e28) kx30 (fun w9 hw9 => ?_)
  obtain ⟨v32, rfl, E⟩ := kk31 w9 hw9
  show Z X M_Mg_put 2 12 h26 16 [(5, .ref v25), (0, .ref x0), (1, .int x1), (2, .int x2), (3, .int x3), (4, .int x4)] [.int v32, .ref v25]
  obtain ⟨g34, v36, h33, e35, E⟩ := cI_some E
  refine z_invV (ci := 0) (y := y_Gr_insert) (Mc := M_Gr_insert) (av := [.int v32]) (rest := []) rfl rfl ⟨zt_276, zt_277, zt_278, zt_49⟩ zk_Gr_insert zy_Gr_insert (by decide) (Nat.le_of_ble_eq_true rfl) (zkn_le hkn (Nat.le_of_ble_eq_true rfl) (Nat.le_of_ble_eq_true rfl)) rfl (Nat.le_of_ble_eq_true rfl) d_Mg_put_16 g34 (m_Gr_insert e35) ?_
  show Z X M_Mg_put 2 12 h33 19 [(5, .ref v25), (0, .ref x0), (1, .int x1), (2, .int x2), (3, .int x3), (4, .int x4)] [.int v36]
  exact x_ireturn hQ rfl (zkn_le hkn (Nat.le_of_ble_eq_true rfl) (Nat.le_of_ble_eq_true rfl)) d_Mg_put_19 E
theorem m_Mg_put {l : Launch} (hl0 : l.stackTraces = false) {G : Nat} {x0 : Nat} {x1 : Int32} {x2 : Int32} {x3 : Int32} {x4 : Int32} {h : pH} {r : pT} (E : f_Mg_put G x0 x1 x2 x3 x4 h = some r) : zMetT l y_Mg_put M_Mg_put 2 12 [.ref x0, .int x1, .int x2, .int x3, .int x4] h r :=
  zMetT_of hl0 (by decide) rfl (Nat.le_of_ble_eq_true rfl) (fun X hT hQ hkn _ => w_Mg_put_b0 hQ hT hkn x0 x1 x2 x3 x4 h E)
def f_Mg_drop (G : Nat) (x0 : Nat) (x1 : Int32) (x2 : Int32) (x3 : Int32) (x4 : Int32) (h : pH) : Option pT := tR (oC h x0 3) (f_Mg_graphAt G x0 x1 h) fun v25 h19 => tI true (f_Mg_checkedNumber G x2 x3 x4 h19) fun v32 h26 => cI (oC h26 v25 0) (f_Gr_erase G v25 v32 h26) fun v36 h33 => some (.inr (some (.int v36)), h33)
theorem f_Mg_drop_eq (G : Nat) (x0 : Nat) (x1 : Int32) (x2 : Int32) (x3 : Int32) (x4 : Int32) (h : pH) : f_Mg_drop G x0 x1 x2 x3 x4 h = (tR (oC h x0 3) (f_Mg_graphAt G x0 x1 h) fun v25 h19 => tI true (f_Mg_checkedNumber G x2 x3 x4 h19) fun v32 h26 => cI (oC h26 v25 0) (f_Gr_erase G v25 v32 h26) fun v36 h33 => some (.inr (some (.int v36)), h33)) := rfl
set_option maxRecDepth 100000 in
set_option maxHeartbeats 4000000 in
theorem w_Mg_drop_b0 {X : zX} {r : pT} {G : Nat} (hQ : zQx X r) (hT : zTOK X) (hkn : zkn X 2 12) : ∀ (x0 : Nat) (x1 : Int32) (x2 : Int32) (x3 : Int32) (x4 : Int32) (h : pH), f_Mg_drop G x0 x1 x2 x3 x4 h = some r → Z X M_Mg_drop 0 0 h 0 [(0, .ref x0), (1, .int x1), (2, .int x2), (3, .int x3), (4, .int x4)] [] := by
  intro x0 x1 x2 x3 x4 h E
  rw [f_Mg_drop_eq] at E
  refine z_aload_n 0 d_Mg_drop_0 rfl rfl ?_
  refine z_iload_n 1 d_Mg_drop_1 rfl rfl ?_
  obtain ⟨g20, ⟨rc22, h19⟩, e21, kx23, kk24⟩ := tR_some E
  dsimp only at kx23 kk24
  refine x_invV (ci := 3) (y := y_Mg_graphAt) (Mc := M_Mg_graphAt) (av := [.int x1]) (rest := []) (mc1 := 1) (ms1 := 6) hQ hT rfl rfl ⟨zt_182, zt_184, zt_0, zt_48⟩ zk_Mg_graphAt zy_Mg_graphAt (by decide) (Nat.le_of_ble_eq_true rfl) (zkn_le hkn (Nat.le_of_ble_eq_true rfl) (Nat.le_of_ble_eq_true rfl)) rfl (Nat.le_of_ble_eq_true rfl) d_Mg_drop_2 g20 (m_Mg_graphAt (zTOK_l hT) e21) kx23 (fun w9 hw9 => ?_)
  obtain ⟨v25, rfl, E⟩ := kk24 w9 hw9
  show Z X M_Mg_drop 1 6 h19 5 [(0, .ref x0), (1, .int x1), (2, .int x2), (3, .int x3), (4, .int x4)] [.ref v25]
  refine z_astore (lv2 := [(5, .ref v25), (0, .ref x0), (1, .int x1), (2, .int x2), (3, .int x3), (4, .int x4)]) d_Mg_drop_5 (Nat.le_of_ble_eq_true rfl) rfl ?_
  refine z_aload 0 d_Mg_drop_7 rfl ?_
  refine z_iload_n 3 d_Mg_drop_9 rfl rfl ?_
  refine z_iload_n 4 d_Mg_drop_10 rfl rfl ?_
  refine z_iload 5 d_Mg_drop_11 rfl ?_
  obtain ⟨g27, ⟨rc29, h26⟩, e28, kx30, kk31⟩ := tI_some E
  dsimp only at kx30 kk31
  refine x_invS (y := y_Mg_checkedNumber) (Mc := M_Mg_checkedNumber) (av := [.int x2, .int x3, .int x4]) (rest := [.ref v25]) (mc1 := 1) (ms1 := 6) hQ hT ⟨zt_253, zt_254, zt_48⟩ zk_Mg_checkedNumber zy_Mg_checkedNumber (by decide) (Nat.le_of_ble_eq_true rfl) (zkn_le hkn (Nat.le_of_ble_eq_true rfl) (Nat.le_of_ble_eq_true rfl)) rfl (Nat.le_of_ble_eq_true rfl) d_Mg_drop_13 (m_Mg_checkedNumber (zTOK_l hT) e28) kx30 (fun w9 hw9 => ?_)
  obtain ⟨v32, rfl, E⟩ := kk31 w9 hw9
  show Z X M_Mg_drop 2 12 h26 16 [(5, .ref v25), (0, .ref x0), (1, .int x1), (2, .int x2), (3, .int x3), (4, .int x4)] [.int v32, .ref v25]
  obtain ⟨g34, v36, h33, e35, E⟩ := cI_some E
  refine z_invV (ci := 0) (y := y_Gr_erase) (Mc := M_Gr_erase) (av := [.int v32]) (rest := []) rfl rfl ⟨zt_295, zt_296, zt_297, zt_49⟩ zk_Gr_erase zy_Gr_erase (by decide) (Nat.le_of_ble_eq_true rfl) (zkn_le hkn (Nat.le_of_ble_eq_true rfl) (Nat.le_of_ble_eq_true rfl)) rfl (Nat.le_of_ble_eq_true rfl) d_Mg_drop_16 g34 (m_Gr_erase e35) ?_
  show Z X M_Mg_drop 2 12 h33 19 [(5, .ref v25), (0, .ref x0), (1, .int x1), (2, .int x2), (3, .int x3), (4, .int x4)] [.int v36]
  exact x_ireturn hQ rfl (zkn_le hkn (Nat.le_of_ble_eq_true rfl) (Nat.le_of_ble_eq_true rfl)) d_Mg_drop_19 E
theorem m_Mg_drop {l : Launch} (hl0 : l.stackTraces = false) {G : Nat} {x0 : Nat} {x1 : Int32} {x2 : Int32} {x3 : Int32} {x4 : Int32} {h : pH} {r : pT} (E : f_Mg_drop G x0 x1 x2 x3 x4 h = some r) : zMetT l y_Mg_drop M_Mg_drop 2 12 [.ref x0, .int x1, .int x2, .int x3, .int x4] h r :=
  zMetT_of hl0 (by decide) rfl (Nat.le_of_ble_eq_true rfl) (fun X hT hQ hkn _ => w_Mg_drop_b0 hQ hT hkn x0 x1 x2 x3 x4 h E)
def f_Mg_copy (G : Nat) (x0 : Nat) (x1 : Int32) (x2 : Int32) (h : pH) : Option pT := tR (oC h x0 3) (f_Mg_graphAt G x0 x1 h) fun v28 h22 => tR (oC h22 x0 3) (f_Mg_graphAt G x0 x2 h22) fun v35 h29 => cV (oC h29 v35 0) (f_Gr_become G v35 v28 h29) fun h36 => cI (oC h36 v35 0) (f_Gr_count G v35 h36) fun v42 h39 => some (.inr (some (.int v42)), h39)
theorem f_Mg_copy_eq (G : Nat) (x0 : Nat) (x1 : Int32) (x2 : Int32) (h : pH) : f_Mg_copy G x0 x1 x2 h = (tR (oC h x0 3) (f_Mg_graphAt G x0 x1 h) fun v28 h22 => tR (oC h22 x0 3) (f_Mg_graphAt G x0 x2 h22) fun v35 h29 => cV (oC h29 v35 0) (f_Gr_become G v35 v28 h29) fun h36 => cI (oC h36 v35 0) (f_Gr_count G v35 h36) fun v42 h39 => some (.inr (some (.int v42)), h39)) := rfl
set_option maxRecDepth 100000 in
set_option maxHeartbeats 4000000 in
theorem w_Mg_copy_b0 {X : zX} {r : pT} {G : Nat} (hQ : zQx X r) (hT : zTOK X) (hkn : zkn X 2 12) : ∀ (x0 : Nat) (x1 : Int32) (x2 : Int32) (h : pH), f_Mg_copy G x0 x1 x2 h = some r → Z X M_Mg_copy 0 0 h 0 [(0, .ref x0), (1, .int x1), (2, .int x2)] [] := by
  intro x0 x1 x2 h E
  rw [f_Mg_copy_eq] at E
  refine z_aload_n 0 d_Mg_copy_0 rfl rfl ?_
  refine z_iload_n 1 d_Mg_copy_1 rfl rfl ?_
  obtain ⟨g23, ⟨rc25, h22⟩, e24, kx26, kk27⟩ := tR_some E
  dsimp only at kx26 kk27
  refine x_invV (ci := 3) (y := y_Mg_graphAt) (Mc := M_Mg_graphAt) (av := [.int x1]) (rest := []) (mc1 := 1) (ms1 := 6) hQ hT rfl rfl ⟨zt_182, zt_184, zt_0, zt_48⟩ zk_Mg_graphAt zy_Mg_graphAt (by decide) (Nat.le_of_ble_eq_true rfl) (zkn_le hkn (Nat.le_of_ble_eq_true rfl) (Nat.le_of_ble_eq_true rfl)) rfl (Nat.le_of_ble_eq_true rfl) d_Mg_copy_2 g23 (m_Mg_graphAt (zTOK_l hT) e24) kx26 (fun w9 hw9 => ?_)
  obtain ⟨v28, rfl, E⟩ := kk27 w9 hw9
  show Z X M_Mg_copy 1 6 h22 5 [(0, .ref x0), (1, .int x1), (2, .int x2)] [.ref v28]
  refine z_astore_n (lv2 := [(3, .ref v28), (0, .ref x0), (1, .int x1), (2, .int x2)]) d_Mg_copy_5 rfl (Nat.le_of_ble_eq_true rfl) rfl ?_
  refine z_aload_n 1 d_Mg_copy_6 rfl rfl ?_
  refine z_iload_n 3 d_Mg_copy_7 rfl rfl ?_
  obtain ⟨g30, ⟨rc32, h29⟩, e31, kx33, kk34⟩ := tR_some E
  dsimp only at kx33 kk34
  refine x_invV (ci := 3) (y := y_Mg_graphAt) (Mc := M_Mg_graphAt) (av := [.int x2]) (rest := []) (mc1 := 1) (ms1 := 6) hQ hT rfl rfl ⟨zt_182, zt_184, zt_0, zt_48⟩ zk_Mg_graphAt zy_Mg_graphAt (by decide) (Nat.le_of_ble_eq_true rfl) (zkn_le hkn (Nat.le_of_ble_eq_true rfl) (Nat.le_of_ble_eq_true rfl)) rfl (Nat.le_of_ble_eq_true rfl) d_Mg_copy_8 g30 (m_Mg_graphAt (zTOK_l hT) e31) kx33 (fun w9 hw9 => ?_)
  obtain ⟨v35, rfl, E⟩ := kk34 w9 hw9
  show Z X M_Mg_copy 2 12 h29 11 [(3, .ref v28), (0, .ref x0), (1, .int x1), (2, .int x2)] [.ref v35]
  refine z_astore (lv2 := [(4, .ref v35), (3, .ref v28), (0, .ref x0), (1, .int x1), (2, .int x2)]) d_Mg_copy_11 (Nat.le_of_ble_eq_true rfl) rfl ?_
  refine z_aload 0 d_Mg_copy_13 rfl ?_
  refine z_aload_n 1 d_Mg_copy_15 rfl rfl ?_
  obtain ⟨g37, h36, e38, E⟩ := cV_some E
  refine z_invV (ci := 0) (y := y_Gr_become) (Mc := M_Gr_become) (av := [.ref v28]) (rest := []) rfl rfl ⟨zt_306, zt_307, zt_308, zt_49⟩ zk_Gr_become zy_Gr_become (by decide) (Nat.le_of_ble_eq_true rfl) (zkn_le hkn (Nat.le_of_ble_eq_true rfl) (Nat.le_of_ble_eq_true rfl)) rfl (Nat.le_of_ble_eq_true rfl) d_Mg_copy_16 g37 (m_Gr_become e38) ?_
  show Z X M_Mg_copy 2 12 h36 19 [(4, .ref v35), (3, .ref v28), (0, .ref x0), (1, .int x1), (2, .int x2)] []
  refine z_aload 0 d_Mg_copy_19 rfl ?_
  obtain ⟨g40, v42, h39, e41, E⟩ := cI_some E
  refine z_invV (ci := 0) (y := y_Gr_count) (Mc := M_Gr_count) (av := []) (rest := []) rfl rfl ⟨zt_310, zt_311, zt_312, zt_49⟩ zk_Gr_count zy_Gr_count (by decide) (Nat.le_of_ble_eq_true rfl) (zkn_le hkn (Nat.le_of_ble_eq_true rfl) (Nat.le_of_ble_eq_true rfl)) rfl (Nat.le_of_ble_eq_true rfl) d_Mg_copy_21 g40 (m_Gr_count e41) ?_
  show Z X M_Mg_copy 2 12 h39 24 [(4, .ref v35), (3, .ref v28), (0, .ref x0), (1, .int x1), (2, .int x2)] [.int v42]
  exact x_ireturn hQ rfl (zkn_le hkn (Nat.le_of_ble_eq_true rfl) (Nat.le_of_ble_eq_true rfl)) d_Mg_copy_24 E
theorem m_Mg_copy {l : Launch} (hl0 : l.stackTraces = false) {G : Nat} {x0 : Nat} {x1 : Int32} {x2 : Int32} {h : pH} {r : pT} (E : f_Mg_copy G x0 x1 x2 h = some r) : zMetT l y_Mg_copy M_Mg_copy 2 12 [.ref x0, .int x1, .int x2] h r :=
  zMetT_of hl0 (by decide) rfl (Nat.le_of_ble_eq_true rfl) (fun X hT hQ hkn _ => w_Mg_copy_b0 hQ hT hkn x0 x1 x2 h E)
def f_Mg_size (G : Nat) (x0 : Nat) (x1 : Int32) (x2 : Int32) (h : pH) : Option pT := tR (oC h x0 3) (f_Mg_graphAt G x0 x1 h) fun v34 h28 => if x2 = 0 then (cI (oC h28 v34 0) (f_Gr_count G v34 h28) fun v38 h35 => some (.inr (some (.int v38)), h35)) else if x2 = 1 then (cJ (oC h28 v34 0) (f_Gr_nodes G v34 h28) fun v42 h39 => cI true (f_Lo_bitCount G v42 h39) fun v46 h43 => some (.inr (some (.int v46)), h43)) else if x2 = 2 then (cJ (oC h28 v34 0) (f_Gr_terms G v34 h28) fun v50 h47 => cI true (f_Lo_bitCount G v50 h47) fun v54 h51 => some (.inr (some (.int v54)), h51)) else some (.inl 1, h28)
theorem f_Mg_size_eq (G : Nat) (x0 : Nat) (x1 : Int32) (x2 : Int32) (h : pH) : f_Mg_size G x0 x1 x2 h = (tR (oC h x0 3) (f_Mg_graphAt G x0 x1 h) fun v34 h28 => if x2 = 0 then (cI (oC h28 v34 0) (f_Gr_count G v34 h28) fun v38 h35 => some (.inr (some (.int v38)), h35)) else if x2 = 1 then (cJ (oC h28 v34 0) (f_Gr_nodes G v34 h28) fun v42 h39 => cI true (f_Lo_bitCount G v42 h39) fun v46 h43 => some (.inr (some (.int v46)), h43)) else if x2 = 2 then (cJ (oC h28 v34 0) (f_Gr_terms G v34 h28) fun v50 h47 => cI true (f_Lo_bitCount G v50 h47) fun v54 h51 => some (.inr (some (.int v54)), h51)) else some (.inl 1, h28)) := rfl
set_option maxRecDepth 100000 in
set_option maxHeartbeats 4000000 in
theorem w_Mg_size_b0 {X : zX} {r : pT} {G : Nat} (hQ : zQx X r) (hT : zTOK X) (hkn : zkn X 2 12) : ∀ (x0 : Nat) (x1 : Int32) (x2 : Int32) (h : pH), f_Mg_size G x0 x1 x2 h = some r → Z X M_Mg_size 0 0 h 0 [(0, .ref x0), (1, .int x1), (2, .int x2)] [] := by
  intro x0 x1 x2 h E
  rw [f_Mg_size_eq] at E
  refine z_aload_n 0 d_Mg_size_0 rfl rfl ?_
  refine z_iload_n 1 d_Mg_size_1 rfl rfl ?_
  obtain ⟨g29, ⟨rc31, h28⟩, e30, kx32, kk33⟩ := tR_some E
  dsimp only at kx32 kk33
  refine x_invV (ci := 3) (y := y_Mg_graphAt) (Mc := M_Mg_graphAt) (av := [.int x1]) (rest := []) (mc1 := 1) (ms1 := 6) hQ hT rfl rfl ⟨zt_182, zt_184, zt_0, zt_48⟩ zk_Mg_graphAt zy_Mg_graphAt (by decide) (Nat.le_of_ble_eq_true rfl) (zkn_le hkn (Nat.le_of_ble_eq_true rfl) (Nat.le_of_ble_eq_true rfl)) rfl (Nat.le_of_ble_eq_true rfl) d_Mg_size_2 g29 (m_Mg_graphAt (zTOK_l hT) e30) kx32 (fun w9 hw9 => ?_)
  obtain ⟨v34, rfl, E⟩ := kk33 w9 hw9
  show Z X M_Mg_size 1 6 h28 5 [(0, .ref x0), (1, .int x1), (2, .int x2)] [.ref v34]
  refine z_astore_n (lv2 := [(3, .ref v34), (0, .ref x0), (1, .int x1), (2, .int x2)]) d_Mg_size_5 rfl (Nat.le_of_ble_eq_true rfl) rfl ?_
  refine z_iload_n 3 d_Mg_size_6 rfl rfl ?_
  by_cases c0 : x2 = 0
  · rw [if_pos c0] at E
    refine z_tswIn (v := 0) (off := 25) (tgt := 32) c0 d_Mg_size_7 (by decide) (by decide) rfl (by decide) ?_
    refine z_aload_n 0 d_Mg_size_32 rfl rfl ?_
    obtain ⟨g36, v38, h35, e37, E⟩ := cI_some E
    refine z_invV (ci := 0) (y := y_Gr_count) (Mc := M_Gr_count) (av := []) (rest := []) rfl rfl ⟨zt_310, zt_311, zt_312, zt_49⟩ zk_Gr_count zy_Gr_count (by decide) (Nat.le_of_ble_eq_true rfl) (zkn_le hkn (Nat.le_of_ble_eq_true rfl) (Nat.le_of_ble_eq_true rfl)) rfl (Nat.le_of_ble_eq_true rfl) d_Mg_size_33 g36 (m_Gr_count e37) ?_
    show Z X M_Mg_size 1 6 h35 36 [(3, .ref v34), (0, .ref x0), (1, .int x1), (2, .int x2)] [.int v38]
    exact x_ireturn hQ rfl (zkn_le hkn (Nat.le_of_ble_eq_true rfl) (Nat.le_of_ble_eq_true rfl)) d_Mg_size_36 E
  rw [if_neg c0] at E
  by_cases c1 : x2 = 1
  · rw [if_pos c1] at E
    refine z_tswIn (v := 1) (off := 30) (tgt := 37) c1 d_Mg_size_7 (by decide) (by decide) rfl (by decide) ?_
    refine z_aload_n 0 d_Mg_size_37 rfl rfl ?_
    obtain ⟨g40, v42, h39, e41, E⟩ := cJ_some E
    refine z_invV (ci := 0) (y := y_Gr_nodes) (Mc := M_Gr_nodes) (av := []) (rest := []) rfl rfl ⟨zt_321, zt_322, zt_323, zt_49⟩ zk_Gr_nodes zy_Gr_nodes (by decide) (Nat.le_of_ble_eq_true rfl) (zkn_le hkn (Nat.le_of_ble_eq_true rfl) (Nat.le_of_ble_eq_true rfl)) rfl (Nat.le_of_ble_eq_true rfl) d_Mg_size_38 g40 (m_Gr_nodes e41) ?_
    show Z X M_Mg_size 1 6 h39 41 [(3, .ref v34), (0, .ref x0), (1, .int x1), (2, .int x2)] [.long v42]
    obtain ⟨g44, v46, h43, e45, E⟩ := cI_some E
    refine z_invS (y := y_Lo_bitCount) (Mc := M_Lo_bitCount) (av := [.long v42]) (rest := []) ⟨zt_336, zt_337, zt_58⟩ zk_Lo_bitCount zy_Lo_bitCount (by decide) (Nat.le_of_ble_eq_true rfl) (zkn_le hkn (Nat.le_of_ble_eq_true rfl) (Nat.le_of_ble_eq_true rfl)) rfl (Nat.le_of_ble_eq_true rfl) d_Mg_size_41 (m_Lo_bitCount e45) ?_
    show Z X M_Mg_size 1 6 h43 44 [(3, .ref v34), (0, .ref x0), (1, .int x1), (2, .int x2)] [.int v46]
    exact x_ireturn hQ rfl (zkn_le hkn (Nat.le_of_ble_eq_true rfl) (Nat.le_of_ble_eq_true rfl)) d_Mg_size_44 E
  rw [if_neg c1] at E
  by_cases c2 : x2 = 2
  · rw [if_pos c2] at E
    refine z_tswIn (v := 2) (off := 38) (tgt := 45) c2 d_Mg_size_7 (by decide) (by decide) rfl (by decide) ?_
    refine z_aload_n 0 d_Mg_size_45 rfl rfl ?_
    obtain ⟨g48, v50, h47, e49, E⟩ := cJ_some E
    refine z_invV (ci := 0) (y := y_Gr_terms) (Mc := M_Gr_terms) (av := []) (rest := []) rfl rfl ⟨zt_342, zt_326, zt_327, zt_49⟩ zk_Gr_terms zy_Gr_terms (by decide) (Nat.le_of_ble_eq_true rfl) (zkn_le hkn (Nat.le_of_ble_eq_true rfl) (Nat.le_of_ble_eq_true rfl)) rfl (Nat.le_of_ble_eq_true rfl) d_Mg_size_46 g48 (m_Gr_terms e49) ?_
    show Z X M_Mg_size 1 6 h47 49 [(3, .ref v34), (0, .ref x0), (1, .int x1), (2, .int x2)] [.long v50]
    obtain ⟨g52, v54, h51, e53, E⟩ := cI_some E
    refine z_invS (y := y_Lo_bitCount) (Mc := M_Lo_bitCount) (av := [.long v50]) (rest := []) ⟨zt_336, zt_337, zt_58⟩ zk_Lo_bitCount zy_Lo_bitCount (by decide) (Nat.le_of_ble_eq_true rfl) (zkn_le hkn (Nat.le_of_ble_eq_true rfl) (Nat.le_of_ble_eq_true rfl)) rfl (Nat.le_of_ble_eq_true rfl) d_Mg_size_49 (m_Lo_bitCount e53) ?_
    show Z X M_Mg_size 1 6 h51 52 [(3, .ref v34), (0, .ref x0), (1, .int x1), (2, .int x2)] [.int v54]
    exact x_ireturn hQ rfl (zkn_le hkn (Nat.le_of_ble_eq_true rfl) (Nat.le_of_ble_eq_true rfl)) d_Mg_size_52 E
  rw [if_neg c2] at E
  refine z_tswOut (tgt := 53) d_Mg_size_7 (tsw_out 2 (fun k hk => by match k, hk with | 0, _ => exact c0 | 1, _ => exact c1 | 2, _ => exact c2)) (by decide) ?_
  exact x_throw (kd := 1) (text := "there is no such what") hQ hT E xf1 zt_186 zt_56 (by decide +kernel) rfl xg1 xn1 xo1 d_Mg_size_53 d_Mg_size_56 d_Mg_size_57 d_Mg_size_59 d_Mg_size_62 (Nat.le_of_ble_eq_true rfl) (zkn_le hkn (Nat.le_of_ble_eq_true rfl) (Nat.le_of_ble_eq_true rfl)) (Nat.le_of_ble_eq_true rfl)
theorem m_Mg_size {l : Launch} (hl0 : l.stackTraces = false) {G : Nat} {x0 : Nat} {x1 : Int32} {x2 : Int32} {h : pH} {r : pT} (E : f_Mg_size G x0 x1 x2 h = some r) : zMetT l y_Mg_size M_Mg_size 2 12 [.ref x0, .int x1, .int x2] h r :=
  zMetT_of hl0 (by decide) rfl (Nat.le_of_ble_eq_true rfl) (fun X hT hQ hkn _ => w_Mg_size_b0 hQ hT hkn x0 x1 x2 h E)
def f_Mg_fact (G : Nat) (x0 : Nat) (x1 : Int32) (x2 : Int32) (h : pH) : Option pT := tR (oC h x0 3) (f_Mg_graphAt G x0 x1 h) fun v25 h19 => tV true (f_Mg_checkFact G v25 x2 h19) fun h26 => cI (oC h26 v25 0) (f_Gr_at G v25 x2 h26) fun v36 h33 => some (.inr (some (.int v36)), h33)
theorem f_Mg_fact_eq (G : Nat) (x0 : Nat) (x1 : Int32) (x2 : Int32) (h : pH) : f_Mg_fact G x0 x1 x2 h = (tR (oC h x0 3) (f_Mg_graphAt G x0 x1 h) fun v25 h19 => tV true (f_Mg_checkFact G v25 x2 h19) fun h26 => cI (oC h26 v25 0) (f_Gr_at G v25 x2 h26) fun v36 h33 => some (.inr (some (.int v36)), h33)) := rfl
set_option maxRecDepth 100000 in
set_option maxHeartbeats 4000000 in
theorem w_Mg_fact_b0 {X : zX} {r : pT} {G : Nat} (hQ : zQx X r) (hT : zTOK X) (hkn : zkn X 2 12) : ∀ (x0 : Nat) (x1 : Int32) (x2 : Int32) (h : pH), f_Mg_fact G x0 x1 x2 h = some r → Z X M_Mg_fact 0 0 h 0 [(0, .ref x0), (1, .int x1), (2, .int x2)] [] := by
  intro x0 x1 x2 h E
  rw [f_Mg_fact_eq] at E
  refine z_aload_n 0 d_Mg_fact_0 rfl rfl ?_
  refine z_iload_n 1 d_Mg_fact_1 rfl rfl ?_
  obtain ⟨g20, ⟨rc22, h19⟩, e21, kx23, kk24⟩ := tR_some E
  dsimp only at kx23 kk24
  refine x_invV (ci := 3) (y := y_Mg_graphAt) (Mc := M_Mg_graphAt) (av := [.int x1]) (rest := []) (mc1 := 1) (ms1 := 6) hQ hT rfl rfl ⟨zt_182, zt_184, zt_0, zt_48⟩ zk_Mg_graphAt zy_Mg_graphAt (by decide) (Nat.le_of_ble_eq_true rfl) (zkn_le hkn (Nat.le_of_ble_eq_true rfl) (Nat.le_of_ble_eq_true rfl)) rfl (Nat.le_of_ble_eq_true rfl) d_Mg_fact_2 g20 (m_Mg_graphAt (zTOK_l hT) e21) kx23 (fun w9 hw9 => ?_)
  obtain ⟨v25, rfl, E⟩ := kk24 w9 hw9
  show Z X M_Mg_fact 1 6 h19 5 [(0, .ref x0), (1, .int x1), (2, .int x2)] [.ref v25]
  refine z_astore_n (lv2 := [(3, .ref v25), (0, .ref x0), (1, .int x1), (2, .int x2)]) d_Mg_fact_5 rfl (Nat.le_of_ble_eq_true rfl) rfl ?_
  refine z_aload_n 0 d_Mg_fact_6 rfl rfl ?_
  refine z_iload_n 3 d_Mg_fact_7 rfl rfl ?_
  obtain ⟨g27, ⟨rc29, h26⟩, e28, kx30, kk31⟩ := tV_some E
  dsimp only at kx30 kk31
  refine x_invS (y := y_Mg_checkFact) (Mc := M_Mg_checkFact) (av := [.ref v25, .int x2]) (rest := []) (mc1 := 1) (ms1 := 6) hQ hT ⟨zt_351, zt_352, zt_48⟩ zk_Mg_checkFact zy_Mg_checkFact (by decide) (Nat.le_of_ble_eq_true rfl) (zkn_le hkn (Nat.le_of_ble_eq_true rfl) (Nat.le_of_ble_eq_true rfl)) rfl (Nat.le_of_ble_eq_true rfl) d_Mg_fact_8 (m_Mg_checkFact (zTOK_l hT) e28) kx30 (fun w9 hw9 => ?_)
  obtain ⟨rfl, E⟩ := kk31 w9 hw9
  show Z X M_Mg_fact 2 12 h26 11 [(3, .ref v25), (0, .ref x0), (1, .int x1), (2, .int x2)] []
  refine z_aload_n 0 d_Mg_fact_11 rfl rfl ?_
  refine z_iload_n 3 d_Mg_fact_12 rfl rfl ?_
  obtain ⟨g34, v36, h33, e35, E⟩ := cI_some E
  refine z_invV (ci := 0) (y := y_Gr_at) (Mc := M_Gr_at) (av := [.int x2]) (rest := []) rfl rfl ⟨zt_355, zt_285, zt_286, zt_49⟩ zk_Gr_at zy_Gr_at (by decide) (Nat.le_of_ble_eq_true rfl) (zkn_le hkn (Nat.le_of_ble_eq_true rfl) (Nat.le_of_ble_eq_true rfl)) rfl (Nat.le_of_ble_eq_true rfl) d_Mg_fact_13 g34 (m_Gr_at e35) ?_
  show Z X M_Mg_fact 2 12 h33 16 [(3, .ref v25), (0, .ref x0), (1, .int x1), (2, .int x2)] [.int v36]
  exact x_ireturn hQ rfl (zkn_le hkn (Nat.le_of_ble_eq_true rfl) (Nat.le_of_ble_eq_true rfl)) d_Mg_fact_16 E
theorem m_Mg_fact {l : Launch} (hl0 : l.stackTraces = false) {G : Nat} {x0 : Nat} {x1 : Int32} {x2 : Int32} {h : pH} {r : pT} (E : f_Mg_fact G x0 x1 x2 h = some r) : zMetT l y_Mg_fact M_Mg_fact 2 12 [.ref x0, .int x1, .int x2] h r :=
  zMetT_of hl0 (by decide) rfl (Nat.le_of_ble_eq_true rfl) (fun X hT hQ hkn _ => w_Mg_fact_b0 hQ hT hkn x0 x1 x2 h E)
def f_Mg_alike (G : Nat) (x0 : Nat) (x1 : Int32) (x2 : Int32) (h : pH) : Option pT := tR (oC h x0 3) (f_Mg_graphAt G x0 x1 h) fun v25 h19 => tR (oC h19 x0 3) (f_Mg_graphAt G x0 x2 h19) fun v32 h26 => cI (oC h26 x0 3) (f_Mg_findImage G x0 v25 v32 h26) fun v36 h33 => (if isZ v36 = true then some (.inr (some (.int v36)), h33) else none)
theorem f_Mg_alike_eq (G : Nat) (x0 : Nat) (x1 : Int32) (x2 : Int32) (h : pH) : f_Mg_alike G x0 x1 x2 h = (tR (oC h x0 3) (f_Mg_graphAt G x0 x1 h) fun v25 h19 => tR (oC h19 x0 3) (f_Mg_graphAt G x0 x2 h19) fun v32 h26 => cI (oC h26 x0 3) (f_Mg_findImage G x0 v25 v32 h26) fun v36 h33 => (if isZ v36 = true then some (.inr (some (.int v36)), h33) else none)) := rfl
set_option maxRecDepth 100000 in
set_option maxHeartbeats 4000000 in
theorem w_Mg_alike_b0 {X : zX} {r : pT} {G : Nat} (hQ : zQx X r) (hT : zTOK X) (hkn : zkn X 2 12) : ∀ (x0 : Nat) (x1 : Int32) (x2 : Int32) (h : pH), f_Mg_alike G x0 x1 x2 h = some r → Z X M_Mg_alike 0 0 h 0 [(0, .ref x0), (1, .int x1), (2, .int x2)] [] := by
  intro x0 x1 x2 h E
  rw [f_Mg_alike_eq] at E
  refine z_aload_n 0 d_Mg_alike_0 rfl rfl ?_
  refine z_iload_n 1 d_Mg_alike_1 rfl rfl ?_
  obtain ⟨g20, ⟨rc22, h19⟩, e21, kx23, kk24⟩ := tR_some E
  dsimp only at kx23 kk24
  refine x_invV (ci := 3) (y := y_Mg_graphAt) (Mc := M_Mg_graphAt) (av := [.int x1]) (rest := []) (mc1 := 1) (ms1 := 6) hQ hT rfl rfl ⟨zt_182, zt_184, zt_0, zt_48⟩ zk_Mg_graphAt zy_Mg_graphAt (by decide) (Nat.le_of_ble_eq_true rfl) (zkn_le hkn (Nat.le_of_ble_eq_true rfl) (Nat.le_of_ble_eq_true rfl)) rfl (Nat.le_of_ble_eq_true rfl) d_Mg_alike_2 g20 (m_Mg_graphAt (zTOK_l hT) e21) kx23 (fun w9 hw9 => ?_)
  obtain ⟨v25, rfl, E⟩ := kk24 w9 hw9
  show Z X M_Mg_alike 1 6 h19 5 [(0, .ref x0), (1, .int x1), (2, .int x2)] [.ref v25]
  refine z_astore_n (lv2 := [(3, .ref v25), (0, .ref x0), (1, .int x1), (2, .int x2)]) d_Mg_alike_5 rfl (Nat.le_of_ble_eq_true rfl) rfl ?_
  refine z_aload_n 1 d_Mg_alike_6 rfl rfl ?_
  refine z_iload_n 3 d_Mg_alike_7 rfl rfl ?_
  obtain ⟨g27, ⟨rc29, h26⟩, e28, kx30, kk31⟩ := tR_some E
  dsimp only at kx30 kk31
  refine x_invV (ci := 3) (y := y_Mg_graphAt) (Mc := M_Mg_graphAt) (av := [.int x2]) (rest := []) (mc1 := 1) (ms1 := 6) hQ hT rfl rfl ⟨zt_182, zt_184, zt_0, zt_48⟩ zk_Mg_graphAt zy_Mg_graphAt (by decide) (Nat.le_of_ble_eq_true rfl) (zkn_le hkn (Nat.le_of_ble_eq_true rfl) (Nat.le_of_ble_eq_true rfl)) rfl (Nat.le_of_ble_eq_true rfl) d_Mg_alike_8 g27 (m_Mg_graphAt (zTOK_l hT) e28) kx30 (fun w9 hw9 => ?_)
  obtain ⟨v32, rfl, E⟩ := kk31 w9 hw9
  show Z X M_Mg_alike 2 12 h26 11 [(3, .ref v25), (0, .ref x0), (1, .int x1), (2, .int x2)] [.ref v32]
  refine z_astore (lv2 := [(4, .ref v32), (3, .ref v25), (0, .ref x0), (1, .int x1), (2, .int x2)]) d_Mg_alike_11 (Nat.le_of_ble_eq_true rfl) rfl ?_
  refine z_aload_n 2 d_Mg_alike_13 rfl rfl ?_
  refine z_aload_n 1 d_Mg_alike_14 rfl rfl ?_
  refine z_aload 0 d_Mg_alike_15 rfl ?_
  obtain ⟨g34, v36, h33, e35, E⟩ := cI_some E
  refine z_invV (ci := 3) (y := y_Mg_findImage) (Mc := M_Mg_findImage) (av := [.ref v25, .ref v32]) (rest := []) rfl rfl ⟨zt_363, zt_365, zt_3, zt_48⟩ zk_Mg_findImage zy_Mg_findImage (by decide) (Nat.le_of_ble_eq_true rfl) (zkn_le hkn (Nat.le_of_ble_eq_true rfl) (Nat.le_of_ble_eq_true rfl)) rfl (Nat.le_of_ble_eq_true rfl) d_Mg_alike_17 g34 (m_Mg_findImage e35) ?_
  show Z X M_Mg_alike 2 12 h33 20 [(4, .ref v32), (3, .ref v25), (0, .ref x0), (1, .int x1), (2, .int x2)] [.int v36]
  exact x_zreturn hQ rfl (zkn_le hkn (Nat.le_of_ble_eq_true rfl) (Nat.le_of_ble_eq_true rfl)) d_Mg_alike_20 E
theorem m_Mg_alike {l : Launch} (hl0 : l.stackTraces = false) {G : Nat} {x0 : Nat} {x1 : Int32} {x2 : Int32} {h : pH} {r : pT} (E : f_Mg_alike G x0 x1 x2 h = some r) : zMetT l y_Mg_alike M_Mg_alike 2 12 [.ref x0, .int x1, .int x2] h r :=
  zMetT_of hl0 (by decide) rfl (Nat.le_of_ble_eq_true rfl) (fun X hT hQ hkn _ => w_Mg_alike_b0 hQ hT hkn x0 x1 x2 h E)
def f_Mg_image_b37 (G : Nat) (s0 : Int32) (h : pH) : Option pT := some (.inr (some (.int s0)), h)
theorem f_Mg_image_b37_eq (G : Nat) (s0 : Int32) (h : pH) : f_Mg_image_b37 G s0 h = (some (.inr (some (.int s0)), h)) := rfl
def f_Mg_image (G : Nat) (x0 : Nat) (x1 : Int32) (x2 : Int32) (x3 : Int32) (h : pH) : Option pT := tR (oC h x0 3) (f_Mg_graphAt G x0 x1 h) fun v30 h24 => tR (oC h24 x0 3) (f_Mg_graphAt G x0 x2 h24) fun v37 h31 => cI (oC h31 x0 3) (f_Mg_findImage G x0 v30 v37 h31) fun v41 h38 => if v41 = 0 then ((f_Mg_image_b37 G) (-1 : Int32) h38) else ((gR h38 x0 3 7).bind fun v42 => cI (oC h38 v42 1) (f_Se_termFor G v42 x3 h38) fun v46 h43 => (f_Mg_image_b37 G) v46 h43)
theorem f_Mg_image_eq (G : Nat) (x0 : Nat) (x1 : Int32) (x2 : Int32) (x3 : Int32) (h : pH) : f_Mg_image G x0 x1 x2 x3 h = (tR (oC h x0 3) (f_Mg_graphAt G x0 x1 h) fun v30 h24 => tR (oC h24 x0 3) (f_Mg_graphAt G x0 x2 h24) fun v37 h31 => cI (oC h31 x0 3) (f_Mg_findImage G x0 v30 v37 h31) fun v41 h38 => if v41 = 0 then ((f_Mg_image_b37 G) (-1 : Int32) h38) else ((gR h38 x0 3 7).bind fun v42 => cI (oC h38 v42 1) (f_Se_termFor G v42 x3 h38) fun v46 h43 => (f_Mg_image_b37 G) v46 h43)) := rfl
set_option maxRecDepth 100000 in
set_option maxHeartbeats 4000000 in
theorem w_Mg_image_b37 {X : zX} {r : pT} {G : Nat} (hQ : zQx X r) (hT : zTOK X) (hkn : zkn X 2 12) : ∀ (s0 : Int32) (h : pH), f_Mg_image_b37 G s0 h = some r → Z X M_Mg_image 2 12 h 37 [] [.int s0] := by
  intro s0 h E
  rw [f_Mg_image_b37_eq] at E
  exact x_ireturn hQ rfl (zkn_le hkn (Nat.le_of_ble_eq_true rfl) (Nat.le_of_ble_eq_true rfl)) d_Mg_image_37 E
set_option maxRecDepth 100000 in
set_option maxHeartbeats 4000000 in
theorem w_Mg_image_b0 {X : zX} {r : pT} {G : Nat} (hQ : zQx X r) (hT : zTOK X) (hkn : zkn X 2 12) : ∀ (x0 : Nat) (x1 : Int32) (x2 : Int32) (x3 : Int32) (h : pH), f_Mg_image G x0 x1 x2 x3 h = some r → Z X M_Mg_image 0 0 h 0 [(0, .ref x0), (1, .int x1), (2, .int x2), (3, .int x3)] [] := by
  intro x0 x1 x2 x3 h E
  rw [f_Mg_image_eq] at E
  refine z_aload_n 0 d_Mg_image_0 rfl rfl ?_
  refine z_iload_n 1 d_Mg_image_1 rfl rfl ?_
  obtain ⟨g25, ⟨rc27, h24⟩, e26, kx28, kk29⟩ := tR_some E
  dsimp only at kx28 kk29
  refine x_invV (ci := 3) (y := y_Mg_graphAt) (Mc := M_Mg_graphAt) (av := [.int x1]) (rest := []) (mc1 := 1) (ms1 := 6) hQ hT rfl rfl ⟨zt_182, zt_184, zt_0, zt_48⟩ zk_Mg_graphAt zy_Mg_graphAt (by decide) (Nat.le_of_ble_eq_true rfl) (zkn_le hkn (Nat.le_of_ble_eq_true rfl) (Nat.le_of_ble_eq_true rfl)) rfl (Nat.le_of_ble_eq_true rfl) d_Mg_image_2 g25 (m_Mg_graphAt (zTOK_l hT) e26) kx28 (fun w9 hw9 => ?_)
  obtain ⟨v30, rfl, E⟩ := kk29 w9 hw9
  show Z X M_Mg_image 1 6 h24 5 [(0, .ref x0), (1, .int x1), (2, .int x2), (3, .int x3)] [.ref v30]
  refine z_astore (lv2 := [(4, .ref v30), (0, .ref x0), (1, .int x1), (2, .int x2), (3, .int x3)]) d_Mg_image_5 (Nat.le_of_ble_eq_true rfl) rfl ?_
  refine z_aload_n 1 d_Mg_image_7 rfl rfl ?_
  refine z_iload_n 3 d_Mg_image_8 rfl rfl ?_
  obtain ⟨g32, ⟨rc34, h31⟩, e33, kx35, kk36⟩ := tR_some E
  dsimp only at kx35 kk36
  refine x_invV (ci := 3) (y := y_Mg_graphAt) (Mc := M_Mg_graphAt) (av := [.int x2]) (rest := []) (mc1 := 1) (ms1 := 6) hQ hT rfl rfl ⟨zt_182, zt_184, zt_0, zt_48⟩ zk_Mg_graphAt zy_Mg_graphAt (by decide) (Nat.le_of_ble_eq_true rfl) (zkn_le hkn (Nat.le_of_ble_eq_true rfl) (Nat.le_of_ble_eq_true rfl)) rfl (Nat.le_of_ble_eq_true rfl) d_Mg_image_9 g32 (m_Mg_graphAt (zTOK_l hT) e33) kx35 (fun w9 hw9 => ?_)
  obtain ⟨v37, rfl, E⟩ := kk36 w9 hw9
  show Z X M_Mg_image 2 12 h31 12 [(4, .ref v30), (0, .ref x0), (1, .int x1), (2, .int x2), (3, .int x3)] [.ref v37]
  refine z_astore (lv2 := [(5, .ref v37), (4, .ref v30), (0, .ref x0), (1, .int x1), (2, .int x2), (3, .int x3)]) d_Mg_image_12 (Nat.le_of_ble_eq_true rfl) rfl ?_
  refine z_aload_n 2 d_Mg_image_14 rfl rfl ?_
  refine z_aload 1 d_Mg_image_15 rfl ?_
  refine z_aload 0 d_Mg_image_17 rfl ?_
  obtain ⟨g39, v41, h38, e40, E⟩ := cI_some E
  refine z_invV (ci := 3) (y := y_Mg_findImage) (Mc := M_Mg_findImage) (av := [.ref v30, .ref v37]) (rest := []) rfl rfl ⟨zt_363, zt_365, zt_3, zt_48⟩ zk_Mg_findImage zy_Mg_findImage (by decide) (Nat.le_of_ble_eq_true rfl) (zkn_le hkn (Nat.le_of_ble_eq_true rfl) (Nat.le_of_ble_eq_true rfl)) rfl (Nat.le_of_ble_eq_true rfl) d_Mg_image_19 g39 (m_Mg_findImage e40) ?_
  show Z X M_Mg_image 2 12 h38 22 [(5, .ref v37), (4, .ref v30), (0, .ref x0), (1, .int x1), (2, .int x2), (3, .int x3)] [.int v41]
  refine z_if_eq (y := 0) (tgt := 36) d_Mg_image_22 (by decide) E (fun E => ?_) (fun E => ?_)
  · refine z_iconst (v := (-1 : Int32)) d_Mg_image_36 (by decide) ?_
    refine z_lv [] rfl ?_
    exact (w_Mg_image_b37 hQ hT hkn) (-1 : Int32) h38 E
  · refine z_aload_n 2 d_Mg_image_25 rfl rfl ?_
    refine z_getR (ci := 3) (j := 7) rfl (by decide) zf_Mg_40 d_Mg_image_26 E (fun v42 _ E => ?_)
    refine z_iload_n 5 d_Mg_image_29 rfl rfl ?_
    obtain ⟨g44, v46, h43, e45, E⟩ := cI_some E
    refine z_invV (ci := 1) (y := y_Se_termFor) (Mc := M_Se_termFor) (av := [.int x3]) (rest := []) rfl rfl ⟨zt_460, zt_461, zt_462, zt_50⟩ zk_Se_termFor zy_Se_termFor (by decide) (Nat.le_of_ble_eq_true rfl) (zkn_le hkn (Nat.le_of_ble_eq_true rfl) (Nat.le_of_ble_eq_true rfl)) rfl (Nat.le_of_ble_eq_true rfl) d_Mg_image_30 g44 (m_Se_termFor e45) ?_
    show Z X M_Mg_image 2 12 h43 33 [(5, .ref v37), (4, .ref v30), (0, .ref x0), (1, .int x1), (2, .int x2), (3, .int x3)] [.int v46]
    refine z_goto (tgt := 37) d_Mg_image_33 (by decide) ?_
    refine z_lv [] rfl ?_
    exact (w_Mg_image_b37 hQ hT hkn) v46 h43 E
theorem m_Mg_image {l : Launch} (hl0 : l.stackTraces = false) {G : Nat} {x0 : Nat} {x1 : Int32} {x2 : Int32} {x3 : Int32} {h : pH} {r : pT} (E : f_Mg_image G x0 x1 x2 x3 h = some r) : zMetT l y_Mg_image M_Mg_image 2 12 [.ref x0, .int x1, .int x2, .int x3] h r :=
  zMetT_of hl0 (by decide) rfl (Nat.le_of_ble_eq_true rfl) (fun X hT hQ hkn _ => w_Mg_image_b0 hQ hT hkn x0 x1 x2 x3 h E)
def f_Mg_form (G : Nat) (x0 : Nat) (x1 : Int32) (x2 : Int32) (h : pH) : Option pT := tR (oC h x0 3) (f_Mg_graphAt G x0 x1 h) fun v26 h20 => tV true (f_Mg_checkFact G v26 x2 h20) fun h27 => (gR h27 x0 3 8).bind fun v34 => cI (oC h27 v34 2) (f_Fo_numberAt G v34 v26 x2 h27) fun v38 h35 => some (.inr (some (.int v38)), h35)
theorem f_Mg_form_eq (G : Nat) (x0 : Nat) (x1 : Int32) (x2 : Int32) (h : pH) : f_Mg_form G x0 x1 x2 h = (tR (oC h x0 3) (f_Mg_graphAt G x0 x1 h) fun v26 h20 => tV true (f_Mg_checkFact G v26 x2 h20) fun h27 => (gR h27 x0 3 8).bind fun v34 => cI (oC h27 v34 2) (f_Fo_numberAt G v34 v26 x2 h27) fun v38 h35 => some (.inr (some (.int v38)), h35)) := rfl
set_option maxRecDepth 100000 in
set_option maxHeartbeats 4000000 in
theorem w_Mg_form_b0 {X : zX} {r : pT} {G : Nat} (hQ : zQx X r) (hT : zTOK X) (hkn : zkn X 2 12) : ∀ (x0 : Nat) (x1 : Int32) (x2 : Int32) (h : pH), f_Mg_form G x0 x1 x2 h = some r → Z X M_Mg_form 0 0 h 0 [(0, .ref x0), (1, .int x1), (2, .int x2)] [] := by
  intro x0 x1 x2 h E
  rw [f_Mg_form_eq] at E
  refine z_aload_n 0 d_Mg_form_0 rfl rfl ?_
  refine z_iload_n 1 d_Mg_form_1 rfl rfl ?_
  obtain ⟨g21, ⟨rc23, h20⟩, e22, kx24, kk25⟩ := tR_some E
  dsimp only at kx24 kk25
  refine x_invV (ci := 3) (y := y_Mg_graphAt) (Mc := M_Mg_graphAt) (av := [.int x1]) (rest := []) (mc1 := 1) (ms1 := 6) hQ hT rfl rfl ⟨zt_182, zt_184, zt_0, zt_48⟩ zk_Mg_graphAt zy_Mg_graphAt (by decide) (Nat.le_of_ble_eq_true rfl) (zkn_le hkn (Nat.le_of_ble_eq_true rfl) (Nat.le_of_ble_eq_true rfl)) rfl (Nat.le_of_ble_eq_true rfl) d_Mg_form_2 g21 (m_Mg_graphAt (zTOK_l hT) e22) kx24 (fun w9 hw9 => ?_)
  obtain ⟨v26, rfl, E⟩ := kk25 w9 hw9
  show Z X M_Mg_form 1 6 h20 5 [(0, .ref x0), (1, .int x1), (2, .int x2)] [.ref v26]
  refine z_astore_n (lv2 := [(3, .ref v26), (0, .ref x0), (1, .int x1), (2, .int x2)]) d_Mg_form_5 rfl (Nat.le_of_ble_eq_true rfl) rfl ?_
  refine z_aload_n 0 d_Mg_form_6 rfl rfl ?_
  refine z_iload_n 3 d_Mg_form_7 rfl rfl ?_
  obtain ⟨g28, ⟨rc30, h27⟩, e29, kx31, kk32⟩ := tV_some E
  dsimp only at kx31 kk32
  refine x_invS (y := y_Mg_checkFact) (Mc := M_Mg_checkFact) (av := [.ref v26, .int x2]) (rest := []) (mc1 := 1) (ms1 := 6) hQ hT ⟨zt_351, zt_352, zt_48⟩ zk_Mg_checkFact zy_Mg_checkFact (by decide) (Nat.le_of_ble_eq_true rfl) (zkn_le hkn (Nat.le_of_ble_eq_true rfl) (Nat.le_of_ble_eq_true rfl)) rfl (Nat.le_of_ble_eq_true rfl) d_Mg_form_8 (m_Mg_checkFact (zTOK_l hT) e29) kx31 (fun w9 hw9 => ?_)
  obtain ⟨rfl, E⟩ := kk32 w9 hw9
  show Z X M_Mg_form 2 12 h27 11 [(3, .ref v26), (0, .ref x0), (1, .int x1), (2, .int x2)] []
  refine z_aload_n 1 d_Mg_form_11 rfl rfl ?_
  refine z_getR (ci := 3) (j := 8) rfl (by decide) zf_Mg_47 d_Mg_form_12 E (fun v34 _ E => ?_)
  refine z_aload_n 0 d_Mg_form_15 rfl rfl ?_
  refine z_iload_n 3 d_Mg_form_16 rfl rfl ?_
  obtain ⟨g36, v38, h35, e37, E⟩ := cI_some E
  refine z_invV (ci := 2) (y := y_Fo_numberAt) (Mc := M_Fo_numberAt) (av := [.ref v26, .int x2]) (rest := []) rfl rfl ⟨zt_471, zt_472, zt_473, zt_51⟩ zk_Fo_numberAt zy_Fo_numberAt (by decide) (Nat.le_of_ble_eq_true rfl) (zkn_le hkn (Nat.le_of_ble_eq_true rfl) (Nat.le_of_ble_eq_true rfl)) rfl (Nat.le_of_ble_eq_true rfl) d_Mg_form_17 g36 (m_Fo_numberAt e37) ?_
  show Z X M_Mg_form 2 12 h35 20 [(3, .ref v26), (0, .ref x0), (1, .int x1), (2, .int x2)] [.int v38]
  exact x_ireturn hQ rfl (zkn_le hkn (Nat.le_of_ble_eq_true rfl) (Nat.le_of_ble_eq_true rfl)) d_Mg_form_20 E
theorem m_Mg_form {l : Launch} (hl0 : l.stackTraces = false) {G : Nat} {x0 : Nat} {x1 : Int32} {x2 : Int32} {h : pH} {r : pT} (E : f_Mg_form G x0 x1 x2 h = some r) : zMetT l y_Mg_form M_Mg_form 2 12 [.ref x0, .int x1, .int x2] h r :=
  zMetT_of hl0 (by decide) rfl (Nat.le_of_ble_eq_true rfl) (fun X hT hQ hkn _ => w_Mg_form_b0 hQ hT hkn x0 x1 x2 h E)
def f_Mg_follows (G : Nat) (x0 : Nat) (x1 : Int32) (x2 : Int32) (h : pH) : Option pT := tR (oC h x0 3) (f_Mg_graphAt G x0 x1 h) fun v30 h24 => tR (oC h24 x0 3) (f_Mg_graphAt G x0 x2 h24) fun v37 h31 => (gR h31 x0 3 7).bind fun v38 => cJ (oC h31 v30 0) (f_Gr_terms G v30 h31) fun v42 h39 => cI (oC h39 v38 1) (f_Se_find G v38 v37 v30 v42 (0 : Int32) h39) fun v46 h43 => (if isZ v46 = true then some (.inr (some (.int v46)), h43) else none)
theorem f_Mg_follows_eq (G : Nat) (x0 : Nat) (x1 : Int32) (x2 : Int32) (h : pH) : f_Mg_follows G x0 x1 x2 h = (tR (oC h x0 3) (f_Mg_graphAt G x0 x1 h) fun v30 h24 => tR (oC h24 x0 3) (f_Mg_graphAt G x0 x2 h24) fun v37 h31 => (gR h31 x0 3 7).bind fun v38 => cJ (oC h31 v30 0) (f_Gr_terms G v30 h31) fun v42 h39 => cI (oC h39 v38 1) (f_Se_find G v38 v37 v30 v42 (0 : Int32) h39) fun v46 h43 => (if isZ v46 = true then some (.inr (some (.int v46)), h43) else none)) := rfl
set_option maxRecDepth 100000 in
set_option maxHeartbeats 4000000 in
theorem w_Mg_follows_b0 {X : zX} {r : pT} {G : Nat} (hQ : zQx X r) (hT : zTOK X) (hkn : zkn X 2 12) : ∀ (x0 : Nat) (x1 : Int32) (x2 : Int32) (h : pH), f_Mg_follows G x0 x1 x2 h = some r → Z X M_Mg_follows 0 0 h 0 [(0, .ref x0), (1, .int x1), (2, .int x2)] [] := by
  intro x0 x1 x2 h E
  rw [f_Mg_follows_eq] at E
  refine z_aload_n 0 d_Mg_follows_0 rfl rfl ?_
  refine z_iload_n 1 d_Mg_follows_1 rfl rfl ?_
  obtain ⟨g25, ⟨rc27, h24⟩, e26, kx28, kk29⟩ := tR_some E
  dsimp only at kx28 kk29
  refine x_invV (ci := 3) (y := y_Mg_graphAt) (Mc := M_Mg_graphAt) (av := [.int x1]) (rest := []) (mc1 := 1) (ms1 := 6) hQ hT rfl rfl ⟨zt_182, zt_184, zt_0, zt_48⟩ zk_Mg_graphAt zy_Mg_graphAt (by decide) (Nat.le_of_ble_eq_true rfl) (zkn_le hkn (Nat.le_of_ble_eq_true rfl) (Nat.le_of_ble_eq_true rfl)) rfl (Nat.le_of_ble_eq_true rfl) d_Mg_follows_2 g25 (m_Mg_graphAt (zTOK_l hT) e26) kx28 (fun w9 hw9 => ?_)
  obtain ⟨v30, rfl, E⟩ := kk29 w9 hw9
  show Z X M_Mg_follows 1 6 h24 5 [(0, .ref x0), (1, .int x1), (2, .int x2)] [.ref v30]
  refine z_astore_n (lv2 := [(3, .ref v30), (0, .ref x0), (1, .int x1), (2, .int x2)]) d_Mg_follows_5 rfl (Nat.le_of_ble_eq_true rfl) rfl ?_
  refine z_aload_n 1 d_Mg_follows_6 rfl rfl ?_
  refine z_iload_n 3 d_Mg_follows_7 rfl rfl ?_
  obtain ⟨g32, ⟨rc34, h31⟩, e33, kx35, kk36⟩ := tR_some E
  dsimp only at kx35 kk36
  refine x_invV (ci := 3) (y := y_Mg_graphAt) (Mc := M_Mg_graphAt) (av := [.int x2]) (rest := []) (mc1 := 1) (ms1 := 6) hQ hT rfl rfl ⟨zt_182, zt_184, zt_0, zt_48⟩ zk_Mg_graphAt zy_Mg_graphAt (by decide) (Nat.le_of_ble_eq_true rfl) (zkn_le hkn (Nat.le_of_ble_eq_true rfl) (Nat.le_of_ble_eq_true rfl)) rfl (Nat.le_of_ble_eq_true rfl) d_Mg_follows_8 g32 (m_Mg_graphAt (zTOK_l hT) e33) kx35 (fun w9 hw9 => ?_)
  obtain ⟨v37, rfl, E⟩ := kk36 w9 hw9
  show Z X M_Mg_follows 2 12 h31 11 [(3, .ref v30), (0, .ref x0), (1, .int x1), (2, .int x2)] [.ref v37]
  refine z_astore (lv2 := [(4, .ref v37), (3, .ref v30), (0, .ref x0), (1, .int x1), (2, .int x2)]) d_Mg_follows_11 (Nat.le_of_ble_eq_true rfl) rfl ?_
  refine z_aload_n 2 d_Mg_follows_13 rfl rfl ?_
  refine z_getR (ci := 3) (j := 7) rfl (by decide) zf_Mg_40 d_Mg_follows_14 E (fun v38 _ E => ?_)
  refine z_aload 0 d_Mg_follows_17 rfl ?_
  refine z_aload_n 1 d_Mg_follows_19 rfl rfl ?_
  refine z_aload_n 1 d_Mg_follows_20 rfl rfl ?_
  obtain ⟨g40, v42, h39, e41, E⟩ := cJ_some E
  refine z_invV (ci := 0) (y := y_Gr_terms) (Mc := M_Gr_terms) (av := []) (rest := [.ref v30, .ref v37, .ref v38]) rfl rfl ⟨zt_342, zt_326, zt_327, zt_49⟩ zk_Gr_terms zy_Gr_terms (by decide) (Nat.le_of_ble_eq_true rfl) (zkn_le hkn (Nat.le_of_ble_eq_true rfl) (Nat.le_of_ble_eq_true rfl)) rfl (Nat.le_of_ble_eq_true rfl) d_Mg_follows_21 g40 (m_Gr_terms e41) ?_
  show Z X M_Mg_follows 2 12 h39 24 [(4, .ref v37), (3, .ref v30), (0, .ref x0), (1, .int x1), (2, .int x2)] [.long v42, .ref v30, .ref v37, .ref v38]
  refine z_iconst (v := (0 : Int32)) d_Mg_follows_24 (by decide) ?_
  obtain ⟨g44, v46, h43, e45, E⟩ := cI_some E
  refine z_invV (ci := 1) (y := y_Se_find) (Mc := M_Se_find) (av := [.ref v37, .ref v30, .long v42, .int (0 : Int32)]) (rest := []) rfl rfl ⟨zt_367, zt_368, zt_369, zt_50⟩ zk_Se_find zy_Se_find (by decide) (Nat.le_of_ble_eq_true rfl) (zkn_le hkn (Nat.le_of_ble_eq_true rfl) (Nat.le_of_ble_eq_true rfl)) rfl (Nat.le_of_ble_eq_true rfl) d_Mg_follows_25 g44 (m_Se_find e45) ?_
  show Z X M_Mg_follows 2 12 h43 28 [(4, .ref v37), (3, .ref v30), (0, .ref x0), (1, .int x1), (2, .int x2)] [.int v46]
  exact x_zreturn hQ rfl (zkn_le hkn (Nat.le_of_ble_eq_true rfl) (Nat.le_of_ble_eq_true rfl)) d_Mg_follows_28 E
theorem m_Mg_follows {l : Launch} (hl0 : l.stackTraces = false) {G : Nat} {x0 : Nat} {x1 : Int32} {x2 : Int32} {h : pH} {r : pT} (E : f_Mg_follows G x0 x1 x2 h = some r) : zMetT l y_Mg_follows M_Mg_follows 2 12 [.ref x0, .int x1, .int x2] h r :=
  zMetT_of hl0 (by decide) rfl (Nat.le_of_ble_eq_true rfl) (fun X hT hQ hkn _ => w_Mg_follows_b0 hQ hT hkn x0 x1 x2 h E)
def f_Mg_putting_b46 (G : Nat) (s0 : Int32) (h : pH) : Option pT := some (.inr (some (.int s0)), h)
theorem f_Mg_putting_b46_eq (G : Nat) (s0 : Int32) (h : pH) : f_Mg_putting_b46 G s0 h = (some (.inr (some (.int s0)), h)) := rfl
def f_Mg_putting (G : Nat) (x0 : Nat) (x1 : Int32) (x2 : Int32) (x3 : Int32) (h : pH) : Option pT := tR (oC h x0 3) (f_Mg_graphAt G x0 x1 h) fun v35 h29 => tR (oC h29 x0 3) (f_Mg_graphAt G x0 x2 h29) fun v42 h36 => (gR h36 x0 3 7).bind fun v43 => cJ (oC h36 v35 0) (f_Gr_terms G v35 h36) fun v47 h44 => cI (oC h44 v43 1) (f_Se_find G v43 v42 v35 v47 (0 : Int32) h44) fun v51 h48 => if v51 = 0 then ((f_Mg_putting_b46 G) (-1 : Int32) h48) else ((gR h48 x0 3 7).bind fun v52 => cI (oC h48 v52 1) (f_Se_termFor G v52 x3 h48) fun v56 h53 => (f_Mg_putting_b46 G) v56 h53)
theorem f_Mg_putting_eq (G : Nat) (x0 : Nat) (x1 : Int32) (x2 : Int32) (x3 : Int32) (h : pH) : f_Mg_putting G x0 x1 x2 x3 h = (tR (oC h x0 3) (f_Mg_graphAt G x0 x1 h) fun v35 h29 => tR (oC h29 x0 3) (f_Mg_graphAt G x0 x2 h29) fun v42 h36 => (gR h36 x0 3 7).bind fun v43 => cJ (oC h36 v35 0) (f_Gr_terms G v35 h36) fun v47 h44 => cI (oC h44 v43 1) (f_Se_find G v43 v42 v35 v47 (0 : Int32) h44) fun v51 h48 => if v51 = 0 then ((f_Mg_putting_b46 G) (-1 : Int32) h48) else ((gR h48 x0 3 7).bind fun v52 => cI (oC h48 v52 1) (f_Se_termFor G v52 x3 h48) fun v56 h53 => (f_Mg_putting_b46 G) v56 h53)) := rfl
set_option maxRecDepth 100000 in
set_option maxHeartbeats 4000000 in
theorem w_Mg_putting_b46 {X : zX} {r : pT} {G : Nat} (hQ : zQx X r) (hT : zTOK X) (hkn : zkn X 2 12) : ∀ (s0 : Int32) (h : pH), f_Mg_putting_b46 G s0 h = some r → Z X M_Mg_putting 2 12 h 46 [] [.int s0] := by
  intro s0 h E
  rw [f_Mg_putting_b46_eq] at E
  exact x_ireturn hQ rfl (zkn_le hkn (Nat.le_of_ble_eq_true rfl) (Nat.le_of_ble_eq_true rfl)) d_Mg_putting_46 E
set_option maxRecDepth 100000 in
set_option maxHeartbeats 4000000 in
theorem w_Mg_putting_b0 {X : zX} {r : pT} {G : Nat} (hQ : zQx X r) (hT : zTOK X) (hkn : zkn X 2 12) : ∀ (x0 : Nat) (x1 : Int32) (x2 : Int32) (x3 : Int32) (h : pH), f_Mg_putting G x0 x1 x2 x3 h = some r → Z X M_Mg_putting 0 0 h 0 [(0, .ref x0), (1, .int x1), (2, .int x2), (3, .int x3)] [] := by
  intro x0 x1 x2 x3 h E
  rw [f_Mg_putting_eq] at E
  refine z_aload_n 0 d_Mg_putting_0 rfl rfl ?_
  refine z_iload_n 1 d_Mg_putting_1 rfl rfl ?_
  obtain ⟨g30, ⟨rc32, h29⟩, e31, kx33, kk34⟩ := tR_some E
  dsimp only at kx33 kk34
  refine x_invV (ci := 3) (y := y_Mg_graphAt) (Mc := M_Mg_graphAt) (av := [.int x1]) (rest := []) (mc1 := 1) (ms1 := 6) hQ hT rfl rfl ⟨zt_182, zt_184, zt_0, zt_48⟩ zk_Mg_graphAt zy_Mg_graphAt (by decide) (Nat.le_of_ble_eq_true rfl) (zkn_le hkn (Nat.le_of_ble_eq_true rfl) (Nat.le_of_ble_eq_true rfl)) rfl (Nat.le_of_ble_eq_true rfl) d_Mg_putting_2 g30 (m_Mg_graphAt (zTOK_l hT) e31) kx33 (fun w9 hw9 => ?_)
  obtain ⟨v35, rfl, E⟩ := kk34 w9 hw9
  show Z X M_Mg_putting 1 6 h29 5 [(0, .ref x0), (1, .int x1), (2, .int x2), (3, .int x3)] [.ref v35]
  refine z_astore (lv2 := [(4, .ref v35), (0, .ref x0), (1, .int x1), (2, .int x2), (3, .int x3)]) d_Mg_putting_5 (Nat.le_of_ble_eq_true rfl) rfl ?_
  refine z_aload_n 1 d_Mg_putting_7 rfl rfl ?_
  refine z_iload_n 3 d_Mg_putting_8 rfl rfl ?_
  obtain ⟨g37, ⟨rc39, h36⟩, e38, kx40, kk41⟩ := tR_some E
  dsimp only at kx40 kk41
  refine x_invV (ci := 3) (y := y_Mg_graphAt) (Mc := M_Mg_graphAt) (av := [.int x2]) (rest := []) (mc1 := 1) (ms1 := 6) hQ hT rfl rfl ⟨zt_182, zt_184, zt_0, zt_48⟩ zk_Mg_graphAt zy_Mg_graphAt (by decide) (Nat.le_of_ble_eq_true rfl) (zkn_le hkn (Nat.le_of_ble_eq_true rfl) (Nat.le_of_ble_eq_true rfl)) rfl (Nat.le_of_ble_eq_true rfl) d_Mg_putting_9 g37 (m_Mg_graphAt (zTOK_l hT) e38) kx40 (fun w9 hw9 => ?_)
  obtain ⟨v42, rfl, E⟩ := kk41 w9 hw9
  show Z X M_Mg_putting 2 12 h36 12 [(4, .ref v35), (0, .ref x0), (1, .int x1), (2, .int x2), (3, .int x3)] [.ref v42]
  refine z_astore (lv2 := [(5, .ref v42), (4, .ref v35), (0, .ref x0), (1, .int x1), (2, .int x2), (3, .int x3)]) d_Mg_putting_12 (Nat.le_of_ble_eq_true rfl) rfl ?_
  refine z_aload_n 2 d_Mg_putting_14 rfl rfl ?_
  refine z_getR (ci := 3) (j := 7) rfl (by decide) zf_Mg_40 d_Mg_putting_15 E (fun v43 _ E => ?_)
  refine z_aload 0 d_Mg_putting_18 rfl ?_
  refine z_aload 1 d_Mg_putting_20 rfl ?_
  refine z_aload 1 d_Mg_putting_22 rfl ?_
  obtain ⟨g45, v47, h44, e46, E⟩ := cJ_some E
  refine z_invV (ci := 0) (y := y_Gr_terms) (Mc := M_Gr_terms) (av := []) (rest := [.ref v35, .ref v42, .ref v43]) rfl rfl ⟨zt_342, zt_326, zt_327, zt_49⟩ zk_Gr_terms zy_Gr_terms (by decide) (Nat.le_of_ble_eq_true rfl) (zkn_le hkn (Nat.le_of_ble_eq_true rfl) (Nat.le_of_ble_eq_true rfl)) rfl (Nat.le_of_ble_eq_true rfl) d_Mg_putting_24 g45 (m_Gr_terms e46) ?_
  show Z X M_Mg_putting 2 12 h44 27 [(5, .ref v42), (4, .ref v35), (0, .ref x0), (1, .int x1), (2, .int x2), (3, .int x3)] [.long v47, .ref v35, .ref v42, .ref v43]
  refine z_iconst (v := (0 : Int32)) d_Mg_putting_27 (by decide) ?_
  obtain ⟨g49, v51, h48, e50, E⟩ := cI_some E
  refine z_invV (ci := 1) (y := y_Se_find) (Mc := M_Se_find) (av := [.ref v42, .ref v35, .long v47, .int (0 : Int32)]) (rest := []) rfl rfl ⟨zt_367, zt_368, zt_369, zt_50⟩ zk_Se_find zy_Se_find (by decide) (Nat.le_of_ble_eq_true rfl) (zkn_le hkn (Nat.le_of_ble_eq_true rfl) (Nat.le_of_ble_eq_true rfl)) rfl (Nat.le_of_ble_eq_true rfl) d_Mg_putting_28 g49 (m_Se_find e50) ?_
  show Z X M_Mg_putting 2 12 h48 31 [(5, .ref v42), (4, .ref v35), (0, .ref x0), (1, .int x1), (2, .int x2), (3, .int x3)] [.int v51]
  refine z_if_eq (y := 0) (tgt := 45) d_Mg_putting_31 (by decide) E (fun E => ?_) (fun E => ?_)
  · refine z_iconst (v := (-1 : Int32)) d_Mg_putting_45 (by decide) ?_
    refine z_lv [] rfl ?_
    exact (w_Mg_putting_b46 hQ hT hkn) (-1 : Int32) h48 E
  · refine z_aload_n 2 d_Mg_putting_34 rfl rfl ?_
    refine z_getR (ci := 3) (j := 7) rfl (by decide) zf_Mg_40 d_Mg_putting_35 E (fun v52 _ E => ?_)
    refine z_iload_n 5 d_Mg_putting_38 rfl rfl ?_
    obtain ⟨g54, v56, h53, e55, E⟩ := cI_some E
    refine z_invV (ci := 1) (y := y_Se_termFor) (Mc := M_Se_termFor) (av := [.int x3]) (rest := []) rfl rfl ⟨zt_460, zt_461, zt_462, zt_50⟩ zk_Se_termFor zy_Se_termFor (by decide) (Nat.le_of_ble_eq_true rfl) (zkn_le hkn (Nat.le_of_ble_eq_true rfl) (Nat.le_of_ble_eq_true rfl)) rfl (Nat.le_of_ble_eq_true rfl) d_Mg_putting_39 g54 (m_Se_termFor e55) ?_
    show Z X M_Mg_putting 2 12 h53 42 [(5, .ref v42), (4, .ref v35), (0, .ref x0), (1, .int x1), (2, .int x2), (3, .int x3)] [.int v56]
    refine z_goto (tgt := 46) d_Mg_putting_42 (by decide) ?_
    refine z_lv [] rfl ?_
    exact (w_Mg_putting_b46 hQ hT hkn) v56 h53 E
theorem m_Mg_putting {l : Launch} (hl0 : l.stackTraces = false) {G : Nat} {x0 : Nat} {x1 : Int32} {x2 : Int32} {x3 : Int32} {h : pH} {r : pT} (E : f_Mg_putting G x0 x1 x2 x3 h = some r) : zMetT l y_Mg_putting M_Mg_putting 2 12 [.ref x0, .int x1, .int x2, .int x3] h r :=
  zMetT_of hl0 (by decide) rfl (Nat.le_of_ble_eq_true rfl) (fun X hT hQ hkn _ => w_Mg_putting_b0 hQ hT hkn x0 x1 x2 x3 h E)
def f_Mg_lean_b20 (G : Nat) (s0 : Int32) (h : pH) : Option pT := (if isZ s0 = true then some (.inr (some (.int s0)), h) else none)
theorem f_Mg_lean_b20_eq (G : Nat) (s0 : Int32) (h : pH) : f_Mg_lean_b20 G s0 h = ((if isZ s0 = true then some (.inr (some (.int s0)), h) else none)) := rfl
def f_Mg_lean (G : Nat) (x0 : Nat) (x1 : Int32) (h : pH) : Option pT := tR (oC h x0 3) (f_Mg_graphAt G x0 x1 h) fun v18 h12 => cI (oC h12 x0 3) (f_Mg_findShrinkingRow G x0 v18 (1 : Int32) h12) fun v22 h19 => if v22 = 0 then ((f_Mg_lean_b20 G) (1 : Int32) h19) else ((f_Mg_lean_b20 G) (0 : Int32) h19)
theorem f_Mg_lean_eq (G : Nat) (x0 : Nat) (x1 : Int32) (h : pH) : f_Mg_lean G x0 x1 h = (tR (oC h x0 3) (f_Mg_graphAt G x0 x1 h) fun v18 h12 => cI (oC h12 x0 3) (f_Mg_findShrinkingRow G x0 v18 (1 : Int32) h12) fun v22 h19 => if v22 = 0 then ((f_Mg_lean_b20 G) (1 : Int32) h19) else ((f_Mg_lean_b20 G) (0 : Int32) h19)) := rfl
set_option maxRecDepth 100000 in
set_option maxHeartbeats 4000000 in
theorem w_Mg_lean_b20 {X : zX} {r : pT} {G : Nat} (hQ : zQx X r) (hT : zTOK X) (hkn : zkn X 1 6) : ∀ (s0 : Int32) (h : pH), f_Mg_lean_b20 G s0 h = some r → Z X M_Mg_lean 1 6 h 20 [] [.int s0] := by
  intro s0 h E
  rw [f_Mg_lean_b20_eq] at E
  exact x_zreturn hQ rfl (zkn_le hkn (Nat.le_of_ble_eq_true rfl) (Nat.le_of_ble_eq_true rfl)) d_Mg_lean_20 E
set_option maxRecDepth 100000 in
set_option maxHeartbeats 4000000 in
theorem w_Mg_lean_b0 {X : zX} {r : pT} {G : Nat} (hQ : zQx X r) (hT : zTOK X) (hkn : zkn X 1 6) : ∀ (x0 : Nat) (x1 : Int32) (h : pH), f_Mg_lean G x0 x1 h = some r → Z X M_Mg_lean 0 0 h 0 [(0, .ref x0), (1, .int x1)] [] := by
  intro x0 x1 h E
  rw [f_Mg_lean_eq] at E
  refine z_aload_n 0 d_Mg_lean_0 rfl rfl ?_
  refine z_iload_n 1 d_Mg_lean_1 rfl rfl ?_
  obtain ⟨g13, ⟨rc15, h12⟩, e14, kx16, kk17⟩ := tR_some E
  dsimp only at kx16 kk17
  refine x_invV (ci := 3) (y := y_Mg_graphAt) (Mc := M_Mg_graphAt) (av := [.int x1]) (rest := []) (mc1 := 1) (ms1 := 6) hQ hT rfl rfl ⟨zt_182, zt_184, zt_0, zt_48⟩ zk_Mg_graphAt zy_Mg_graphAt (by decide) (Nat.le_of_ble_eq_true rfl) (zkn_le hkn (Nat.le_of_ble_eq_true rfl) (Nat.le_of_ble_eq_true rfl)) rfl (Nat.le_of_ble_eq_true rfl) d_Mg_lean_2 g13 (m_Mg_graphAt (zTOK_l hT) e14) kx16 (fun w9 hw9 => ?_)
  obtain ⟨v18, rfl, E⟩ := kk17 w9 hw9
  show Z X M_Mg_lean 1 6 h12 5 [(0, .ref x0), (1, .int x1)] [.ref v18]
  refine z_astore_n (lv2 := [(2, .ref v18), (0, .ref x0), (1, .int x1)]) d_Mg_lean_5 rfl (Nat.le_of_ble_eq_true rfl) rfl ?_
  refine z_aload_n 1 d_Mg_lean_6 rfl rfl ?_
  refine z_aload_n 0 d_Mg_lean_7 rfl rfl ?_
  refine z_iconst (v := (1 : Int32)) d_Mg_lean_8 (by decide) ?_
  obtain ⟨g20, v22, h19, e21, E⟩ := cI_some E
  refine z_invV (ci := 3) (y := y_Mg_findShrinkingRow) (Mc := M_Mg_findShrinkingRow) (av := [.ref v18, .int (1 : Int32)]) (rest := []) rfl rfl ⟨zt_546, zt_548, zt_21, zt_48⟩ zk_Mg_findShrinkingRow zy_Mg_findShrinkingRow (by decide) (Nat.le_of_ble_eq_true rfl) (zkn_le hkn (Nat.le_of_ble_eq_true rfl) (Nat.le_of_ble_eq_true rfl)) rfl (Nat.le_of_ble_eq_true rfl) d_Mg_lean_9 g20 (m_Mg_findShrinkingRow e21) ?_
  show Z X M_Mg_lean 1 6 h19 12 [(2, .ref v18), (0, .ref x0), (1, .int x1)] [.int v22]
  refine z_if_ne (y := 0) (tgt := 19) d_Mg_lean_12 (by decide) E (fun E => ?_) (fun E => ?_)
  · refine z_iconst (v := (0 : Int32)) d_Mg_lean_19 (by decide) ?_
    refine z_lv [] rfl ?_
    exact (w_Mg_lean_b20 hQ hT hkn) (0 : Int32) h19 E
  · refine z_iconst (v := (1 : Int32)) d_Mg_lean_15 (by decide) ?_
    refine z_goto (tgt := 20) d_Mg_lean_16 (by decide) ?_
    refine z_lv [] rfl ?_
    exact (w_Mg_lean_b20 hQ hT hkn) (1 : Int32) h19 E
theorem m_Mg_lean {l : Launch} (hl0 : l.stackTraces = false) {G : Nat} {x0 : Nat} {x1 : Int32} {h : pH} {r : pT} (E : f_Mg_lean G x0 x1 h = some r) : zMetT l y_Mg_lean M_Mg_lean 1 6 [.ref x0, .int x1] h r :=
  zMetT_of hl0 (by decide) rfl (Nat.le_of_ble_eq_true rfl) (fun X hT hQ hkn _ => w_Mg_lean_b0 hQ hT hkn x0 x1 h E)
def f_Mg_core_b57 (G : Nat) (x3 : Int32) (h : pH) : Option pT := some (.inr (some (.int x3)), h)
theorem f_Mg_core_b57_eq (G : Nat) (x3 : Int32) (h : pH) : f_Mg_core_b57 G x3 h = (some (.inr (some (.int x3)), h)) := rfl
def f_Mg_core_b8 (G : Nat) : Nat → Nat → Nat → Int32 → pH → Option pT
  | 0 => fun _ _ _ _ => none
  | F + 1 => fun x0 x2 x3 h => if (6 : Int32) ≤ x3 then ((f_Mg_core_b57 G) x3 h) else (cI (oC h x0 3) (f_Mg_findShrinkingRow G x0 x2 (0 : Int32) h) fun v36 h33 => if v36 = 0 then ((f_Mg_core_b57 G) x3 h33) else ((gR h33 x0 3 1).bind fun v37 => cV (oC h33 v37 0) (f_Gr_clear G v37 h33) fun h38 => (gR h38 x0 3 1).bind fun v41 => (gR h38 x0 3 6).bind fun v42 => cI (oC h38 v41 0) (f_Gr_insertRenamed G v41 x2 v42 h38) fun v46 h43 => (gR h43 x0 3 1).bind fun v47 => cV (oC h43 x2 0) (f_Gr_become G x2 v47 h43) fun h48 => (f_Mg_core_b8 G F) x0 x2 (x3 + 1) h48))
theorem f_Mg_core_b8_eq (G : Nat) (F : Nat) (x0 : Nat) (x2 : Nat) (x3 : Int32) (h : pH) : f_Mg_core_b8 G (F + 1) x0 x2 x3 h = (if (6 : Int32) ≤ x3 then ((f_Mg_core_b57 G) x3 h) else (cI (oC h x0 3) (f_Mg_findShrinkingRow G x0 x2 (0 : Int32) h) fun v36 h33 => if v36 = 0 then ((f_Mg_core_b57 G) x3 h33) else ((gR h33 x0 3 1).bind fun v37 => cV (oC h33 v37 0) (f_Gr_clear G v37 h33) fun h38 => (gR h38 x0 3 1).bind fun v41 => (gR h38 x0 3 6).bind fun v42 => cI (oC h38 v41 0) (f_Gr_insertRenamed G v41 x2 v42 h38) fun v46 h43 => (gR h43 x0 3 1).bind fun v47 => cV (oC h43 x2 0) (f_Gr_become G x2 v47 h43) fun h48 => (f_Mg_core_b8 G F) x0 x2 (x3 + 1) h48))) := rfl
def f_Mg_core (G : Nat) (x0 : Nat) (x1 : Int32) (h : pH) : Option pT := tR (oC h x0 3) (f_Mg_graphAt G x0 x1 h) fun v32 h26 => (f_Mg_core_b8 G G) x0 v32 (0 : Int32) h26
theorem f_Mg_core_eq (G : Nat) (x0 : Nat) (x1 : Int32) (h : pH) : f_Mg_core G x0 x1 h = (tR (oC h x0 3) (f_Mg_graphAt G x0 x1 h) fun v32 h26 => (f_Mg_core_b8 G G) x0 v32 (0 : Int32) h26) := rfl
set_option maxRecDepth 100000 in
set_option maxHeartbeats 4000000 in
theorem w_Mg_core_b57 {X : zX} {r : pT} {G : Nat} (hQ : zQx X r) (hT : zTOK X) (hkn : zkn X 1 6) : ∀ (x3 : Int32) (h : pH), f_Mg_core_b57 G x3 h = some r → Z X M_Mg_core 1 6 h 57 [(3, .int x3)] [] := by
  intro x3 h E
  rw [f_Mg_core_b57_eq] at E
  refine z_iload_n 0 d_Mg_core_57 rfl rfl ?_
  exact x_ireturn hQ rfl (zkn_le hkn (Nat.le_of_ble_eq_true rfl) (Nat.le_of_ble_eq_true rfl)) d_Mg_core_58 E
set_option maxRecDepth 100000 in
set_option maxHeartbeats 4000000 in
theorem w_Mg_core_b8 {X : zX} {r : pT} {G : Nat} (hQ : zQx X r) (hT : zTOK X) (hkn : zkn X 1 6) : ∀ (F : Nat) (x0 : Nat) (x2 : Nat) (x3 : Int32) (h : pH), f_Mg_core_b8 G F x0 x2 x3 h = some r → Z X M_Mg_core 1 6 h 8 [(0, .ref x0), (2, .ref x2), (3, .int x3)] [] := by
  intro F
  induction F with
  | zero => intro x0 x2 x3 h E; exact nomatch (show (none : Option pT) = some _ from E)
  | succ F ih =>
    intro x0 x2 x3 h E
    rw [f_Mg_core_b8_eq] at E
    refine z_iload_n 2 d_Mg_core_8 rfl rfl ?_
    refine z_bipush (v := (6 : Int32)) d_Mg_core_9 (by decide) ?_
    refine z_ic_ge (tgt := 57) d_Mg_core_11 (by decide) E (fun E => ?_) (fun E => ?_)
    · refine z_lv [2] rfl ?_
      exact (w_Mg_core_b57 hQ hT hkn) x3 h E
    · refine z_aload_n 0 d_Mg_core_14 rfl rfl ?_
      refine z_aload_n 1 d_Mg_core_15 rfl rfl ?_
      refine z_iconst (v := (0 : Int32)) d_Mg_core_16 (by decide) ?_
      obtain ⟨g34, v36, h33, e35, E⟩ := cI_some E
      refine z_invV (ci := 3) (y := y_Mg_findShrinkingRow) (Mc := M_Mg_findShrinkingRow) (av := [.ref x2, .int (0 : Int32)]) (rest := []) rfl rfl ⟨zt_546, zt_548, zt_21, zt_48⟩ zk_Mg_findShrinkingRow zy_Mg_findShrinkingRow (by decide) (Nat.le_of_ble_eq_true rfl) (zkn_le hkn (Nat.le_of_ble_eq_true rfl) (Nat.le_of_ble_eq_true rfl)) rfl (Nat.le_of_ble_eq_true rfl) d_Mg_core_17 g34 (m_Mg_findShrinkingRow e35) ?_
      show Z X M_Mg_core 1 6 h33 20 [(0, .ref x0), (2, .ref x2), (3, .int x3)] [.int v36]
      refine z_if_eq (y := 0) (tgt := 57) d_Mg_core_20 (by decide) E (fun E => ?_) (fun E => ?_)
      · refine z_lv [2] rfl ?_
        exact (w_Mg_core_b57 hQ hT hkn) x3 h33 E
      · refine z_aload_n 0 d_Mg_core_23 rfl rfl ?_
        refine z_getR (ci := 3) (j := 1) rfl (by decide) zf_Mg_16 d_Mg_core_24 E (fun v37 _ E => ?_)
        obtain ⟨g39, h38, e40, E⟩ := cV_some E
        refine z_invV (ci := 0) (y := y_Gr_clear) (Mc := M_Gr_clear) (av := []) (rest := []) rfl rfl ⟨zt_568, zt_569, zt_570, zt_49⟩ zk_Gr_clear zy_Gr_clear (by decide) (Nat.le_of_ble_eq_true rfl) (zkn_le hkn (Nat.le_of_ble_eq_true rfl) (Nat.le_of_ble_eq_true rfl)) rfl (Nat.le_of_ble_eq_true rfl) d_Mg_core_27 g39 (m_Gr_clear e40) ?_
        show Z X M_Mg_core 1 6 h38 30 [(0, .ref x0), (2, .ref x2), (3, .int x3)] []
        refine z_aload_n 0 d_Mg_core_30 rfl rfl ?_
        refine z_getR (ci := 3) (j := 1) rfl (by decide) zf_Mg_16 d_Mg_core_31 E (fun v41 _ E => ?_)
        refine z_aload_n 1 d_Mg_core_34 rfl rfl ?_
        refine z_aload_n 0 d_Mg_core_35 rfl rfl ?_
        refine z_getR (ci := 3) (j := 6) rfl (by decide) zf_Mg_34 d_Mg_core_36 E (fun v42 _ E => ?_)
        obtain ⟨g44, v46, h43, e45, E⟩ := cI_some E
        refine z_invV (ci := 0) (y := y_Gr_insertRenamed) (Mc := M_Gr_insertRenamed) (av := [.ref x2, .ref v42]) (rest := []) rfl rfl ⟨zt_572, zt_573, zt_574, zt_49⟩ zk_Gr_insertRenamed zy_Gr_insertRenamed (by decide) (Nat.le_of_ble_eq_true rfl) (zkn_le hkn (Nat.le_of_ble_eq_true rfl) (Nat.le_of_ble_eq_true rfl)) rfl (Nat.le_of_ble_eq_true rfl) d_Mg_core_39 g44 (m_Gr_insertRenamed e45) ?_
        show Z X M_Mg_core 1 6 h43 42 [(0, .ref x0), (2, .ref x2), (3, .int x3)] [.int v46]
        refine z_pop d_Mg_core_42 rfl ?_
        refine z_aload_n 1 d_Mg_core_43 rfl rfl ?_
        refine z_aload_n 0 d_Mg_core_44 rfl rfl ?_
        refine z_getR (ci := 3) (j := 1) rfl (by decide) zf_Mg_16 d_Mg_core_45 E (fun v47 _ E => ?_)
        obtain ⟨g49, h48, e50, E⟩ := cV_some E
        refine z_invV (ci := 0) (y := y_Gr_become) (Mc := M_Gr_become) (av := [.ref v47]) (rest := []) rfl rfl ⟨zt_306, zt_307, zt_308, zt_49⟩ zk_Gr_become zy_Gr_become (by decide) (Nat.le_of_ble_eq_true rfl) (zkn_le hkn (Nat.le_of_ble_eq_true rfl) (Nat.le_of_ble_eq_true rfl)) rfl (Nat.le_of_ble_eq_true rfl) d_Mg_core_48 g49 (m_Gr_become e50) ?_
        show Z X M_Mg_core 1 6 h48 51 [(0, .ref x0), (2, .ref x2), (3, .int x3)] []
        refine z_iinc (v := (x3 + 1)) (lv2 := [(3, .int (x3 + 1)), (0, .ref x0), (2, .ref x2)]) 2 d_Mg_core_51 rfl rfl (Nat.le_of_ble_eq_true rfl) rfl ?_
        refine z_goto (tgt := 8) d_Mg_core_54 (by decide) ?_
        refine z_lv [1, 2, 0] rfl ?_
        exact ih x0 x2 (x3 + 1) h48 E
set_option maxRecDepth 100000 in
set_option maxHeartbeats 4000000 in
theorem w_Mg_core_b0 {X : zX} {r : pT} {G : Nat} (hQ : zQx X r) (hT : zTOK X) (hkn : zkn X 1 6) : ∀ (x0 : Nat) (x1 : Int32) (h : pH), f_Mg_core G x0 x1 h = some r → Z X M_Mg_core 0 0 h 0 [(0, .ref x0), (1, .int x1)] [] := by
  intro x0 x1 h E
  rw [f_Mg_core_eq] at E
  refine z_aload_n 0 d_Mg_core_0 rfl rfl ?_
  refine z_iload_n 1 d_Mg_core_1 rfl rfl ?_
  obtain ⟨g27, ⟨rc29, h26⟩, e28, kx30, kk31⟩ := tR_some E
  dsimp only at kx30 kk31
  refine x_invV (ci := 3) (y := y_Mg_graphAt) (Mc := M_Mg_graphAt) (av := [.int x1]) (rest := []) (mc1 := 1) (ms1 := 6) hQ hT rfl rfl ⟨zt_182, zt_184, zt_0, zt_48⟩ zk_Mg_graphAt zy_Mg_graphAt (by decide) (Nat.le_of_ble_eq_true rfl) (zkn_le hkn (Nat.le_of_ble_eq_true rfl) (Nat.le_of_ble_eq_true rfl)) rfl (Nat.le_of_ble_eq_true rfl) d_Mg_core_2 g27 (m_Mg_graphAt (zTOK_l hT) e28) kx30 (fun w9 hw9 => ?_)
  obtain ⟨v32, rfl, E⟩ := kk31 w9 hw9
  show Z X M_Mg_core 1 6 h26 5 [(0, .ref x0), (1, .int x1)] [.ref v32]
  refine z_astore_n (lv2 := [(2, .ref v32), (0, .ref x0), (1, .int x1)]) d_Mg_core_5 rfl (Nat.le_of_ble_eq_true rfl) rfl ?_
  refine z_iconst (v := (0 : Int32)) d_Mg_core_6 (by decide) ?_
  refine z_istore_n (lv2 := [(3, .int (0 : Int32)), (2, .ref v32), (0, .ref x0), (1, .int x1)]) d_Mg_core_7 rfl (Nat.le_of_ble_eq_true rfl) rfl ?_
  refine z_lv [2, 1, 0] rfl ?_
  exact (w_Mg_core_b8 hQ hT hkn G) x0 v32 (0 : Int32) h26 E
theorem m_Mg_core {l : Launch} (hl0 : l.stackTraces = false) {G : Nat} {x0 : Nat} {x1 : Int32} {h : pH} {r : pT} (E : f_Mg_core G x0 x1 h = some r) : zMetT l y_Mg_core M_Mg_core 1 6 [.ref x0, .int x1] h r :=
  zMetT_of hl0 (by decide) rfl (Nat.le_of_ble_eq_true rfl) (fun X hT hQ hkn _ => w_Mg_core_b0 hQ hT hkn x0 x1 h E)
def f_Mg_join (G : Nat) (x0 : Nat) (x1 : Int32) (x2 : Int32) (x3 : Int32) (h : pH) : Option pT := tR (oC h x0 3) (f_Mg_graphAt G x0 x1 h) fun v58 h52 => tR (oC h52 x0 3) (f_Mg_graphAt G x0 x2 h52) fun v65 h59 => tR (oC h59 x0 3) (f_Mg_graphAt G x0 x3 h59) fun v72 h66 => cJ (oC h66 v58 0) (f_Gr_nodes G v58 h66) fun v76 h73 => cJ (oC h73 v65 0) (f_Gr_nodes G v65 h73) fun v80 h77 => cI (oC h77 x0 3) (f_Mg_chooseOtherNodes G x0 v76 v80 h77) fun v84 h81 => if v84 = 0 then (some (.inr (some (.int (-1 : Int32))), h81)) else ((gR h81 x0 3 1).bind fun v85 => cV (oC h81 v85 0) (f_Gr_become G v85 v58 h81) fun h86 => (gR h86 x0 3 1).bind fun v89 => (gR h86 x0 3 6).bind fun v90 => cI (oC h86 v89 0) (f_Gr_insertRenamed G v89 v65 v90 h86) fun v94 h91 => if v94 = 0 then (some (.inr (some (.int (-1 : Int32))), h91)) else ((gR h91 x0 3 1).bind fun v95 => cV (oC h91 v72 0) (f_Gr_become G v72 v95 h91) fun h96 => cI (oC h96 v72 0) (f_Gr_count G v72 h96) fun v102 h99 => some (.inr (some (.int v102)), h99)))
theorem f_Mg_join_eq (G : Nat) (x0 : Nat) (x1 : Int32) (x2 : Int32) (x3 : Int32) (h : pH) : f_Mg_join G x0 x1 x2 x3 h = (tR (oC h x0 3) (f_Mg_graphAt G x0 x1 h) fun v58 h52 => tR (oC h52 x0 3) (f_Mg_graphAt G x0 x2 h52) fun v65 h59 => tR (oC h59 x0 3) (f_Mg_graphAt G x0 x3 h59) fun v72 h66 => cJ (oC h66 v58 0) (f_Gr_nodes G v58 h66) fun v76 h73 => cJ (oC h73 v65 0) (f_Gr_nodes G v65 h73) fun v80 h77 => cI (oC h77 x0 3) (f_Mg_chooseOtherNodes G x0 v76 v80 h77) fun v84 h81 => if v84 = 0 then (some (.inr (some (.int (-1 : Int32))), h81)) else ((gR h81 x0 3 1).bind fun v85 => cV (oC h81 v85 0) (f_Gr_become G v85 v58 h81) fun h86 => (gR h86 x0 3 1).bind fun v89 => (gR h86 x0 3 6).bind fun v90 => cI (oC h86 v89 0) (f_Gr_insertRenamed G v89 v65 v90 h86) fun v94 h91 => if v94 = 0 then (some (.inr (some (.int (-1 : Int32))), h91)) else ((gR h91 x0 3 1).bind fun v95 => cV (oC h91 v72 0) (f_Gr_become G v72 v95 h91) fun h96 => cI (oC h96 v72 0) (f_Gr_count G v72 h96) fun v102 h99 => some (.inr (some (.int v102)), h99)))) := rfl
set_option maxRecDepth 100000 in
set_option maxHeartbeats 4000000 in
theorem w_Mg_join_b0 {X : zX} {r : pT} {G : Nat} (hQ : zQx X r) (hT : zTOK X) (hkn : zkn X 3 18) : ∀ (x0 : Nat) (x1 : Int32) (x2 : Int32) (x3 : Int32) (h : pH), f_Mg_join G x0 x1 x2 x3 h = some r → Z X M_Mg_join 0 0 h 0 [(0, .ref x0), (1, .int x1), (2, .int x2), (3, .int x3)] [] := by
  intro x0 x1 x2 x3 h E
  rw [f_Mg_join_eq] at E
  refine z_aload_n 0 d_Mg_join_0 rfl rfl ?_
  refine z_iload_n 1 d_Mg_join_1 rfl rfl ?_
  obtain ⟨g53, ⟨rc55, h52⟩, e54, kx56, kk57⟩ := tR_some E
  dsimp only at kx56 kk57
  refine x_invV (ci := 3) (y := y_Mg_graphAt) (Mc := M_Mg_graphAt) (av := [.int x1]) (rest := []) (mc1 := 1) (ms1 := 6) hQ hT rfl rfl ⟨zt_182, zt_184, zt_0, zt_48⟩ zk_Mg_graphAt zy_Mg_graphAt (by decide) (Nat.le_of_ble_eq_true rfl) (zkn_le hkn (Nat.le_of_ble_eq_true rfl) (Nat.le_of_ble_eq_true rfl)) rfl (Nat.le_of_ble_eq_true rfl) d_Mg_join_2 g53 (m_Mg_graphAt (zTOK_l hT) e54) kx56 (fun w9 hw9 => ?_)
  obtain ⟨v58, rfl, E⟩ := kk57 w9 hw9
  show Z X M_Mg_join 1 6 h52 5 [(0, .ref x0), (1, .int x1), (2, .int x2), (3, .int x3)] [.ref v58]
  refine z_astore (lv2 := [(4, .ref v58), (0, .ref x0), (1, .int x1), (2, .int x2), (3, .int x3)]) d_Mg_join_5 (Nat.le_of_ble_eq_true rfl) rfl ?_
  refine z_aload_n 1 d_Mg_join_7 rfl rfl ?_
  refine z_iload_n 3 d_Mg_join_8 rfl rfl ?_
  obtain ⟨g60, ⟨rc62, h59⟩, e61, kx63, kk64⟩ := tR_some E
  dsimp only at kx63 kk64
  refine x_invV (ci := 3) (y := y_Mg_graphAt) (Mc := M_Mg_graphAt) (av := [.int x2]) (rest := []) (mc1 := 1) (ms1 := 6) hQ hT rfl rfl ⟨zt_182, zt_184, zt_0, zt_48⟩ zk_Mg_graphAt zy_Mg_graphAt (by decide) (Nat.le_of_ble_eq_true rfl) (zkn_le hkn (Nat.le_of_ble_eq_true rfl) (Nat.le_of_ble_eq_true rfl)) rfl (Nat.le_of_ble_eq_true rfl) d_Mg_join_9 g60 (m_Mg_graphAt (zTOK_l hT) e61) kx63 (fun w9 hw9 => ?_)
  obtain ⟨v65, rfl, E⟩ := kk64 w9 hw9
  show Z X M_Mg_join 2 12 h59 12 [(4, .ref v58), (0, .ref x0), (1, .int x1), (2, .int x2), (3, .int x3)] [.ref v65]
  refine z_astore (lv2 := [(5, .ref v65), (4, .ref v58), (0, .ref x0), (1, .int x1), (2, .int x2), (3, .int x3)]) d_Mg_join_12 (Nat.le_of_ble_eq_true rfl) rfl ?_
  refine z_aload_n 2 d_Mg_join_14 rfl rfl ?_
  refine z_iload_n 5 d_Mg_join_15 rfl rfl ?_
  obtain ⟨g67, ⟨rc69, h66⟩, e68, kx70, kk71⟩ := tR_some E
  dsimp only at kx70 kk71
  refine x_invV (ci := 3) (y := y_Mg_graphAt) (Mc := M_Mg_graphAt) (av := [.int x3]) (rest := []) (mc1 := 1) (ms1 := 6) hQ hT rfl rfl ⟨zt_182, zt_184, zt_0, zt_48⟩ zk_Mg_graphAt zy_Mg_graphAt (by decide) (Nat.le_of_ble_eq_true rfl) (zkn_le hkn (Nat.le_of_ble_eq_true rfl) (Nat.le_of_ble_eq_true rfl)) rfl (Nat.le_of_ble_eq_true rfl) d_Mg_join_16 g67 (m_Mg_graphAt (zTOK_l hT) e68) kx70 (fun w9 hw9 => ?_)
  obtain ⟨v72, rfl, E⟩ := kk71 w9 hw9
  show Z X M_Mg_join 3 18 h66 19 [(5, .ref v65), (4, .ref v58), (0, .ref x0), (1, .int x1), (2, .int x2), (3, .int x3)] [.ref v72]
  refine z_astore (lv2 := [(6, .ref v72), (5, .ref v65), (4, .ref v58), (0, .ref x0), (1, .int x1), (2, .int x2), (3, .int x3)]) d_Mg_join_19 (Nat.le_of_ble_eq_true rfl) rfl ?_
  refine z_aload_n 3 d_Mg_join_21 rfl rfl ?_
  refine z_aload 2 d_Mg_join_22 rfl ?_
  obtain ⟨g74, v76, h73, e75, E⟩ := cJ_some E
  refine z_invV (ci := 0) (y := y_Gr_nodes) (Mc := M_Gr_nodes) (av := []) (rest := [.ref x0]) rfl rfl ⟨zt_321, zt_322, zt_323, zt_49⟩ zk_Gr_nodes zy_Gr_nodes (by decide) (Nat.le_of_ble_eq_true rfl) (zkn_le hkn (Nat.le_of_ble_eq_true rfl) (Nat.le_of_ble_eq_true rfl)) rfl (Nat.le_of_ble_eq_true rfl) d_Mg_join_24 g74 (m_Gr_nodes e75) ?_
  show Z X M_Mg_join 3 18 h73 27 [(6, .ref v72), (5, .ref v65), (4, .ref v58), (0, .ref x0), (1, .int x1), (2, .int x2), (3, .int x3)] [.long v76, .ref x0]
  refine z_aload 1 d_Mg_join_27 rfl ?_
  obtain ⟨g78, v80, h77, e79, E⟩ := cJ_some E
  refine z_invV (ci := 0) (y := y_Gr_nodes) (Mc := M_Gr_nodes) (av := []) (rest := [.long v76, .ref x0]) rfl rfl ⟨zt_321, zt_322, zt_323, zt_49⟩ zk_Gr_nodes zy_Gr_nodes (by decide) (Nat.le_of_ble_eq_true rfl) (zkn_le hkn (Nat.le_of_ble_eq_true rfl) (Nat.le_of_ble_eq_true rfl)) rfl (Nat.le_of_ble_eq_true rfl) d_Mg_join_29 g78 (m_Gr_nodes e79) ?_
  show Z X M_Mg_join 3 18 h77 32 [(6, .ref v72), (5, .ref v65), (4, .ref v58), (0, .ref x0), (1, .int x1), (2, .int x2), (3, .int x3)] [.long v80, .long v76, .ref x0]
  obtain ⟨g82, v84, h81, e83, E⟩ := cI_some E
  refine z_invV (ci := 3) (y := y_Mg_chooseOtherNodes) (Mc := M_Mg_chooseOtherNodes) (av := [.long v76, .long v80]) (rest := []) rfl rfl ⟨zt_585, zt_587, zt_22, zt_48⟩ zk_Mg_chooseOtherNodes zy_Mg_chooseOtherNodes (by decide) (Nat.le_of_ble_eq_true rfl) (zkn_le hkn (Nat.le_of_ble_eq_true rfl) (Nat.le_of_ble_eq_true rfl)) rfl (Nat.le_of_ble_eq_true rfl) d_Mg_join_32 g82 (m_Mg_chooseOtherNodes e83) ?_
  show Z X M_Mg_join 3 18 h81 35 [(6, .ref v72), (5, .ref v65), (4, .ref v58), (0, .ref x0), (1, .int x1), (2, .int x2), (3, .int x3)] [.int v84]
  refine z_if_ne (y := 0) (tgt := 40) d_Mg_join_35 (by decide) E (fun E => ?_) (fun E => ?_)
  · refine z_aload_n 3 d_Mg_join_40 rfl rfl ?_
    refine z_getR (ci := 3) (j := 1) rfl (by decide) zf_Mg_16 d_Mg_join_41 E (fun v85 _ E => ?_)
    refine z_aload 2 d_Mg_join_44 rfl ?_
    obtain ⟨g87, h86, e88, E⟩ := cV_some E
    refine z_invV (ci := 0) (y := y_Gr_become) (Mc := M_Gr_become) (av := [.ref v58]) (rest := []) rfl rfl ⟨zt_306, zt_307, zt_308, zt_49⟩ zk_Gr_become zy_Gr_become (by decide) (Nat.le_of_ble_eq_true rfl) (zkn_le hkn (Nat.le_of_ble_eq_true rfl) (Nat.le_of_ble_eq_true rfl)) rfl (Nat.le_of_ble_eq_true rfl) d_Mg_join_46 g87 (m_Gr_become e88) ?_
    show Z X M_Mg_join 3 18 h86 49 [(6, .ref v72), (5, .ref v65), (4, .ref v58), (0, .ref x0), (1, .int x1), (2, .int x2), (3, .int x3)] []
    refine z_aload_n 3 d_Mg_join_49 rfl rfl ?_
    refine z_getR (ci := 3) (j := 1) rfl (by decide) zf_Mg_16 d_Mg_join_50 E (fun v89 _ E => ?_)
    refine z_aload 1 d_Mg_join_53 rfl ?_
    refine z_aload_n 3 d_Mg_join_55 rfl rfl ?_
    refine z_getR (ci := 3) (j := 6) rfl (by decide) zf_Mg_34 d_Mg_join_56 E (fun v90 _ E => ?_)
    obtain ⟨g92, v94, h91, e93, E⟩ := cI_some E
    refine z_invV (ci := 0) (y := y_Gr_insertRenamed) (Mc := M_Gr_insertRenamed) (av := [.ref v65, .ref v90]) (rest := []) rfl rfl ⟨zt_572, zt_573, zt_574, zt_49⟩ zk_Gr_insertRenamed zy_Gr_insertRenamed (by decide) (Nat.le_of_ble_eq_true rfl) (zkn_le hkn (Nat.le_of_ble_eq_true rfl) (Nat.le_of_ble_eq_true rfl)) rfl (Nat.le_of_ble_eq_true rfl) d_Mg_join_59 g92 (m_Gr_insertRenamed e93) ?_
    show Z X M_Mg_join 3 18 h91 62 [(6, .ref v72), (5, .ref v65), (4, .ref v58), (0, .ref x0), (1, .int x1), (2, .int x2), (3, .int x3)] [.int v94]
    refine z_if_ne (y := 0) (tgt := 67) d_Mg_join_62 (by decide) E (fun E => ?_) (fun E => ?_)
    · refine z_aload 0 d_Mg_join_67 rfl ?_
      refine z_aload_n 3 d_Mg_join_69 rfl rfl ?_
      refine z_getR (ci := 3) (j := 1) rfl (by decide) zf_Mg_16 d_Mg_join_70 E (fun v95 _ E => ?_)
      obtain ⟨g97, h96, e98, E⟩ := cV_some E
      refine z_invV (ci := 0) (y := y_Gr_become) (Mc := M_Gr_become) (av := [.ref v95]) (rest := []) rfl rfl ⟨zt_306, zt_307, zt_308, zt_49⟩ zk_Gr_become zy_Gr_become (by decide) (Nat.le_of_ble_eq_true rfl) (zkn_le hkn (Nat.le_of_ble_eq_true rfl) (Nat.le_of_ble_eq_true rfl)) rfl (Nat.le_of_ble_eq_true rfl) d_Mg_join_73 g97 (m_Gr_become e98) ?_
      show Z X M_Mg_join 3 18 h96 76 [(6, .ref v72), (5, .ref v65), (4, .ref v58), (0, .ref x0), (1, .int x1), (2, .int x2), (3, .int x3)] []
      refine z_aload 0 d_Mg_join_76 rfl ?_
      obtain ⟨g100, v102, h99, e101, E⟩ := cI_some E
      refine z_invV (ci := 0) (y := y_Gr_count) (Mc := M_Gr_count) (av := []) (rest := []) rfl rfl ⟨zt_310, zt_311, zt_312, zt_49⟩ zk_Gr_count zy_Gr_count (by decide) (Nat.le_of_ble_eq_true rfl) (zkn_le hkn (Nat.le_of_ble_eq_true rfl) (Nat.le_of_ble_eq_true rfl)) rfl (Nat.le_of_ble_eq_true rfl) d_Mg_join_78 g100 (m_Gr_count e101) ?_
      show Z X M_Mg_join 3 18 h99 81 [(6, .ref v72), (5, .ref v65), (4, .ref v58), (0, .ref x0), (1, .int x1), (2, .int x2), (3, .int x3)] [.int v102]
      exact x_ireturn hQ rfl (zkn_le hkn (Nat.le_of_ble_eq_true rfl) (Nat.le_of_ble_eq_true rfl)) d_Mg_join_81 E
    · refine z_iconst (v := (-1 : Int32)) d_Mg_join_65 (by decide) ?_
      exact x_ireturn hQ rfl (zkn_le hkn (Nat.le_of_ble_eq_true rfl) (Nat.le_of_ble_eq_true rfl)) d_Mg_join_66 E
  · refine z_iconst (v := (-1 : Int32)) d_Mg_join_38 (by decide) ?_
    exact x_ireturn hQ rfl (zkn_le hkn (Nat.le_of_ble_eq_true rfl) (Nat.le_of_ble_eq_true rfl)) d_Mg_join_39 E
theorem m_Mg_join {l : Launch} (hl0 : l.stackTraces = false) {G : Nat} {x0 : Nat} {x1 : Int32} {x2 : Int32} {x3 : Int32} {h : pH} {r : pT} (E : f_Mg_join G x0 x1 x2 x3 h = some r) : zMetT l y_Mg_join M_Mg_join 3 18 [.ref x0, .int x1, .int x2, .int x3] h r :=
  zMetT_of hl0 (by decide) rfl (Nat.le_of_ble_eq_true rfl) (fun X hT hQ hkn _ => w_Mg_join_b0 hQ hT hkn x0 x1 x2 x3 h E)
def f_Mg_merge (G : Nat) (x0 : Nat) (x1 : Int32) (x2 : Int32) (x3 : Int32) (x4 : Int32) (h : pH) : Option pT := tR (oC h x0 3) (f_Mg_graphAt G x0 x1 h) fun v55 h49 => tR (oC h49 x0 3) (f_Mg_graphAt G x0 x2 h49) fun v62 h56 => tR (oC h56 x0 3) (f_Mg_graphAt G x0 x3 h56) fun v69 h63 => tR (oC h63 x0 3) (f_Mg_graphAt G x0 x4 h63) fun v76 h70 => cI (oC h70 x0 3) (f_Mg_draftMerged G x0 v55 v62 v69 h70) fun v80 h77 => if v80 = 0 then (some (.inr (some (.int (-1 : Int32))), h77)) else (cJ true (f_Mg_clashTerms G v55 v62 v69 h77) fun v84 h81 => cJ true (f_Mg_clashTerms G v55 v69 v62 h81) fun v88 h85 => cV (oC h85 x0 3) (f_Mg_noteClashes G x0 v84 v88 h85) fun h89 => (gR h89 x0 3 1).bind fun v92 => cV (oC h89 v76 0) (f_Gr_become G v76 v92 h89) fun h93 => (gI h93 x0 3 5).bind fun v96 => some (.inr (some (.int v96)), h93))
theorem f_Mg_merge_eq (G : Nat) (x0 : Nat) (x1 : Int32) (x2 : Int32) (x3 : Int32) (x4 : Int32) (h : pH) : f_Mg_merge G x0 x1 x2 x3 x4 h = (tR (oC h x0 3) (f_Mg_graphAt G x0 x1 h) fun v55 h49 => tR (oC h49 x0 3) (f_Mg_graphAt G x0 x2 h49) fun v62 h56 => tR (oC h56 x0 3) (f_Mg_graphAt G x0 x3 h56) fun v69 h63 => tR (oC h63 x0 3) (f_Mg_graphAt G x0 x4 h63) fun v76 h70 => cI (oC h70 x0 3) (f_Mg_draftMerged G x0 v55 v62 v69 h70) fun v80 h77 => if v80 = 0 then (some (.inr (some (.int (-1 : Int32))), h77)) else (cJ true (f_Mg_clashTerms G v55 v62 v69 h77) fun v84 h81 => cJ true (f_Mg_clashTerms G v55 v69 v62 h81) fun v88 h85 => cV (oC h85 x0 3) (f_Mg_noteClashes G x0 v84 v88 h85) fun h89 => (gR h89 x0 3 1).bind fun v92 => cV (oC h89 v76 0) (f_Gr_become G v76 v92 h89) fun h93 => (gI h93 x0 3 5).bind fun v96 => some (.inr (some (.int v96)), h93))) := rfl
set_option maxRecDepth 100000 in
set_option maxHeartbeats 4000000 in
theorem w_Mg_merge_b0 {X : zX} {r : pT} {G : Nat} (hQ : zQx X r) (hT : zTOK X) (hkn : zkn X 4 24) : ∀ (x0 : Nat) (x1 : Int32) (x2 : Int32) (x3 : Int32) (x4 : Int32) (h : pH), f_Mg_merge G x0 x1 x2 x3 x4 h = some r → Z X M_Mg_merge 0 0 h 0 [(0, .ref x0), (1, .int x1), (2, .int x2), (3, .int x3), (4, .int x4)] [] := by
  intro x0 x1 x2 x3 x4 h E
  rw [f_Mg_merge_eq] at E
  refine z_aload_n 0 d_Mg_merge_0 rfl rfl ?_
  refine z_iload_n 1 d_Mg_merge_1 rfl rfl ?_
  obtain ⟨g50, ⟨rc52, h49⟩, e51, kx53, kk54⟩ := tR_some E
  dsimp only at kx53 kk54
  refine x_invV (ci := 3) (y := y_Mg_graphAt) (Mc := M_Mg_graphAt) (av := [.int x1]) (rest := []) (mc1 := 1) (ms1 := 6) hQ hT rfl rfl ⟨zt_182, zt_184, zt_0, zt_48⟩ zk_Mg_graphAt zy_Mg_graphAt (by decide) (Nat.le_of_ble_eq_true rfl) (zkn_le hkn (Nat.le_of_ble_eq_true rfl) (Nat.le_of_ble_eq_true rfl)) rfl (Nat.le_of_ble_eq_true rfl) d_Mg_merge_2 g50 (m_Mg_graphAt (zTOK_l hT) e51) kx53 (fun w9 hw9 => ?_)
  obtain ⟨v55, rfl, E⟩ := kk54 w9 hw9
  show Z X M_Mg_merge 1 6 h49 5 [(0, .ref x0), (1, .int x1), (2, .int x2), (3, .int x3), (4, .int x4)] [.ref v55]
  refine z_astore (lv2 := [(5, .ref v55), (0, .ref x0), (1, .int x1), (2, .int x2), (3, .int x3), (4, .int x4)]) d_Mg_merge_5 (Nat.le_of_ble_eq_true rfl) rfl ?_
  refine z_aload_n 1 d_Mg_merge_7 rfl rfl ?_
  refine z_iload_n 3 d_Mg_merge_8 rfl rfl ?_
  obtain ⟨g57, ⟨rc59, h56⟩, e58, kx60, kk61⟩ := tR_some E
  dsimp only at kx60 kk61
  refine x_invV (ci := 3) (y := y_Mg_graphAt) (Mc := M_Mg_graphAt) (av := [.int x2]) (rest := []) (mc1 := 1) (ms1 := 6) hQ hT rfl rfl ⟨zt_182, zt_184, zt_0, zt_48⟩ zk_Mg_graphAt zy_Mg_graphAt (by decide) (Nat.le_of_ble_eq_true rfl) (zkn_le hkn (Nat.le_of_ble_eq_true rfl) (Nat.le_of_ble_eq_true rfl)) rfl (Nat.le_of_ble_eq_true rfl) d_Mg_merge_9 g57 (m_Mg_graphAt (zTOK_l hT) e58) kx60 (fun w9 hw9 => ?_)
  obtain ⟨v62, rfl, E⟩ := kk61 w9 hw9
  show Z X M_Mg_merge 2 12 h56 12 [(5, .ref v55), (0, .ref x0), (1, .int x1), (2, .int x2), (3, .int x3), (4, .int x4)] [.ref v62]
  refine z_astore (lv2 := [(6, .ref v62), (5, .ref v55), (0, .ref x0), (1, .int x1), (2, .int x2), (3, .int x3), (4, .int x4)]) d_Mg_merge_12 (Nat.le_of_ble_eq_true rfl) rfl ?_
  refine z_aload_n 2 d_Mg_merge_14 rfl rfl ?_
  refine z_iload_n 5 d_Mg_merge_15 rfl rfl ?_
  obtain ⟨g64, ⟨rc66, h63⟩, e65, kx67, kk68⟩ := tR_some E
  dsimp only at kx67 kk68
  refine x_invV (ci := 3) (y := y_Mg_graphAt) (Mc := M_Mg_graphAt) (av := [.int x3]) (rest := []) (mc1 := 1) (ms1 := 6) hQ hT rfl rfl ⟨zt_182, zt_184, zt_0, zt_48⟩ zk_Mg_graphAt zy_Mg_graphAt (by decide) (Nat.le_of_ble_eq_true rfl) (zkn_le hkn (Nat.le_of_ble_eq_true rfl) (Nat.le_of_ble_eq_true rfl)) rfl (Nat.le_of_ble_eq_true rfl) d_Mg_merge_16 g64 (m_Mg_graphAt (zTOK_l hT) e65) kx67 (fun w9 hw9 => ?_)
  obtain ⟨v69, rfl, E⟩ := kk68 w9 hw9
  show Z X M_Mg_merge 3 18 h63 19 [(6, .ref v62), (5, .ref v55), (0, .ref x0), (1, .int x1), (2, .int x2), (3, .int x3), (4, .int x4)] [.ref v69]
  refine z_astore (lv2 := [(7, .ref v69), (6, .ref v62), (5, .ref v55), (0, .ref x0), (1, .int x1), (2, .int x2), (3, .int x3), (4, .int x4)]) d_Mg_merge_19 (Nat.le_of_ble_eq_true rfl) rfl ?_
  refine z_aload_n 3 d_Mg_merge_21 rfl rfl ?_
  refine z_iload 7 d_Mg_merge_22 rfl ?_
  obtain ⟨g71, ⟨rc73, h70⟩, e72, kx74, kk75⟩ := tR_some E
  dsimp only at kx74 kk75
  refine x_invV (ci := 3) (y := y_Mg_graphAt) (Mc := M_Mg_graphAt) (av := [.int x4]) (rest := []) (mc1 := 1) (ms1 := 6) hQ hT rfl rfl ⟨zt_182, zt_184, zt_0, zt_48⟩ zk_Mg_graphAt zy_Mg_graphAt (by decide) (Nat.le_of_ble_eq_true rfl) (zkn_le hkn (Nat.le_of_ble_eq_true rfl) (Nat.le_of_ble_eq_true rfl)) rfl (Nat.le_of_ble_eq_true rfl) d_Mg_merge_24 g71 (m_Mg_graphAt (zTOK_l hT) e72) kx74 (fun w9 hw9 => ?_)
  obtain ⟨v76, rfl, E⟩ := kk75 w9 hw9
  show Z X M_Mg_merge 4 24 h70 27 [(7, .ref v69), (6, .ref v62), (5, .ref v55), (0, .ref x0), (1, .int x1), (2, .int x2), (3, .int x3), (4, .int x4)] [.ref v76]
  refine z_astore (lv2 := [(8, .ref v76), (7, .ref v69), (6, .ref v62), (5, .ref v55), (0, .ref x0), (1, .int x1), (2, .int x2), (3, .int x3), (4, .int x4)]) d_Mg_merge_27 (Nat.le_of_ble_eq_true rfl) rfl ?_
  refine z_aload_n 4 d_Mg_merge_29 rfl rfl ?_
  refine z_aload 3 d_Mg_merge_30 rfl ?_
  refine z_aload 2 d_Mg_merge_32 rfl ?_
  refine z_aload 1 d_Mg_merge_34 rfl ?_
  obtain ⟨g78, v80, h77, e79, E⟩ := cI_some E
  refine z_invV (ci := 3) (y := y_Mg_draftMerged) (Mc := M_Mg_draftMerged) (av := [.ref v55, .ref v62, .ref v69]) (rest := []) rfl rfl ⟨zt_598, zt_600, zt_23, zt_48⟩ zk_Mg_draftMerged zy_Mg_draftMerged (by decide) (Nat.le_of_ble_eq_true rfl) (zkn_le hkn (Nat.le_of_ble_eq_true rfl) (Nat.le_of_ble_eq_true rfl)) rfl (Nat.le_of_ble_eq_true rfl) d_Mg_merge_36 g78 (m_Mg_draftMerged e79) ?_
  show Z X M_Mg_merge 4 24 h77 39 [(8, .ref v76), (7, .ref v69), (6, .ref v62), (5, .ref v55), (0, .ref x0), (1, .int x1), (2, .int x2), (3, .int x3), (4, .int x4)] [.int v80]
  refine z_if_ne (y := 0) (tgt := 44) d_Mg_merge_39 (by decide) E (fun E => ?_) (fun E => ?_)
  · refine z_aload_n 4 d_Mg_merge_44 rfl rfl ?_
    refine z_aload 3 d_Mg_merge_45 rfl ?_
    refine z_aload 2 d_Mg_merge_47 rfl ?_
    refine z_aload 1 d_Mg_merge_49 rfl ?_
    obtain ⟨g82, v84, h81, e83, E⟩ := cJ_some E
    refine z_invS (y := y_Mg_clashTerms) (Mc := M_Mg_clashTerms) (av := [.ref v55, .ref v62, .ref v69]) (rest := [.ref x0]) ⟨zt_614, zt_615, zt_48⟩ zk_Mg_clashTerms zy_Mg_clashTerms (by decide) (Nat.le_of_ble_eq_true rfl) (zkn_le hkn (Nat.le_of_ble_eq_true rfl) (Nat.le_of_ble_eq_true rfl)) rfl (Nat.le_of_ble_eq_true rfl) d_Mg_merge_51 (m_Mg_clashTerms e83) ?_
    show Z X M_Mg_merge 4 24 h81 54 [(8, .ref v76), (7, .ref v69), (6, .ref v62), (5, .ref v55), (0, .ref x0), (1, .int x1), (2, .int x2), (3, .int x3), (4, .int x4)] [.long v84, .ref x0]
    refine z_aload 3 d_Mg_merge_54 rfl ?_
    refine z_aload 1 d_Mg_merge_56 rfl ?_
    refine z_aload 2 d_Mg_merge_58 rfl ?_
    obtain ⟨g86, v88, h85, e87, E⟩ := cJ_some E
    refine z_invS (y := y_Mg_clashTerms) (Mc := M_Mg_clashTerms) (av := [.ref v55, .ref v69, .ref v62]) (rest := [.long v84, .ref x0]) ⟨zt_614, zt_615, zt_48⟩ zk_Mg_clashTerms zy_Mg_clashTerms (by decide) (Nat.le_of_ble_eq_true rfl) (zkn_le hkn (Nat.le_of_ble_eq_true rfl) (Nat.le_of_ble_eq_true rfl)) rfl (Nat.le_of_ble_eq_true rfl) d_Mg_merge_60 (m_Mg_clashTerms e87) ?_
    show Z X M_Mg_merge 4 24 h85 63 [(8, .ref v76), (7, .ref v69), (6, .ref v62), (5, .ref v55), (0, .ref x0), (1, .int x1), (2, .int x2), (3, .int x3), (4, .int x4)] [.long v88, .long v84, .ref x0]
    obtain ⟨g90, h89, e91, E⟩ := cV_some E
    refine z_invV (ci := 3) (y := y_Mg_noteClashes) (Mc := M_Mg_noteClashes) (av := [.long v84, .long v88]) (rest := []) rfl rfl ⟨zt_625, zt_627, zt_24, zt_48⟩ zk_Mg_noteClashes zy_Mg_noteClashes (by decide) (Nat.le_of_ble_eq_true rfl) (zkn_le hkn (Nat.le_of_ble_eq_true rfl) (Nat.le_of_ble_eq_true rfl)) rfl (Nat.le_of_ble_eq_true rfl) d_Mg_merge_63 g90 (m_Mg_noteClashes e91) ?_
    show Z X M_Mg_merge 4 24 h89 66 [(8, .ref v76), (7, .ref v69), (6, .ref v62), (5, .ref v55), (0, .ref x0), (1, .int x1), (2, .int x2), (3, .int x3), (4, .int x4)] []
    refine z_aload 0 d_Mg_merge_66 rfl ?_
    refine z_aload_n 4 d_Mg_merge_68 rfl rfl ?_
    refine z_getR (ci := 3) (j := 1) rfl (by decide) zf_Mg_16 d_Mg_merge_69 E (fun v92 _ E => ?_)
    obtain ⟨g94, h93, e95, E⟩ := cV_some E
    refine z_invV (ci := 0) (y := y_Gr_become) (Mc := M_Gr_become) (av := [.ref v92]) (rest := []) rfl rfl ⟨zt_306, zt_307, zt_308, zt_49⟩ zk_Gr_become zy_Gr_become (by decide) (Nat.le_of_ble_eq_true rfl) (zkn_le hkn (Nat.le_of_ble_eq_true rfl) (Nat.le_of_ble_eq_true rfl)) rfl (Nat.le_of_ble_eq_true rfl) d_Mg_merge_72 g94 (m_Gr_become e95) ?_
    show Z X M_Mg_merge 4 24 h93 75 [(8, .ref v76), (7, .ref v69), (6, .ref v62), (5, .ref v55), (0, .ref x0), (1, .int x1), (2, .int x2), (3, .int x3), (4, .int x4)] []
    refine z_aload_n 4 d_Mg_merge_75 rfl rfl ?_
    refine z_getI (ci := 3) (j := 5) rfl (by decide) zf_Mg_30 d_Mg_merge_76 E (fun v96 _ E => ?_)
    exact x_ireturn hQ rfl (zkn_le hkn (Nat.le_of_ble_eq_true rfl) (Nat.le_of_ble_eq_true rfl)) d_Mg_merge_79 E
  · refine z_iconst (v := (-1 : Int32)) d_Mg_merge_42 (by decide) ?_
    exact x_ireturn hQ rfl (zkn_le hkn (Nat.le_of_ble_eq_true rfl) (Nat.le_of_ble_eq_true rfl)) d_Mg_merge_43 E
theorem m_Mg_merge {l : Launch} (hl0 : l.stackTraces = false) {G : Nat} {x0 : Nat} {x1 : Int32} {x2 : Int32} {x3 : Int32} {x4 : Int32} {h : pH} {r : pT} (E : f_Mg_merge G x0 x1 x2 x3 x4 h = some r) : zMetT l y_Mg_merge M_Mg_merge 4 24 [.ref x0, .int x1, .int x2, .int x3, .int x4] h r :=
  zMetT_of hl0 (by decide) rfl (Nat.le_of_ble_eq_true rfl) (fun X hT hQ hkn _ => w_Mg_merge_b0 hQ hT hkn x0 x1 x2 x3 x4 h E)
def f_Mg_clash_b12 (G : Nat) (h : pH) : Option pT := some (.inl 1, h)
theorem f_Mg_clash_b12_eq (G : Nat) (h : pH) : f_Mg_clash_b12 G h = (some (.inl 1, h)) := rfl
def f_Mg_clash_b49 (G : Nat) (s0 : Int32) (h : pH) : Option pT := some (.inr (some (.int s0)), h)
theorem f_Mg_clash_b49_eq (G : Nat) (s0 : Int32) (h : pH) : f_Mg_clash_b49 G s0 h = (some (.inr (some (.int s0)), h)) := rfl
def f_Mg_clash (G : Nat) (x0 : Nat) (x1 : Int32) (x2 : Int32) (h : pH) : Option pT := if x1 < 0 then ((f_Mg_clash_b12 G) h) else ((gI h x0 3 5).bind fun v13 => if x1 < v13 then (tV true (f_Mg_checkOneOfTwo G x2 h) fun h14 => if x2 = 0 then ((gR h14 x0 3 4).bind fun v23 => (aI h14 v23 x1).bind fun v24 => (f_Mg_clash_b49 G) (v24 >>> ((1 : Int32) &&& 31)) h14) else ((gR h14 x0 3 4).bind fun v21 => (aI h14 v21 x1).bind fun v22 => (f_Mg_clash_b49 G) (v22 &&& (1 : Int32)) h14)) else ((f_Mg_clash_b12 G) h))
theorem f_Mg_clash_eq (G : Nat) (x0 : Nat) (x1 : Int32) (x2 : Int32) (h : pH) : f_Mg_clash G x0 x1 x2 h = (if x1 < 0 then ((f_Mg_clash_b12 G) h) else ((gI h x0 3 5).bind fun v13 => if x1 < v13 then (tV true (f_Mg_checkOneOfTwo G x2 h) fun h14 => if x2 = 0 then ((gR h14 x0 3 4).bind fun v23 => (aI h14 v23 x1).bind fun v24 => (f_Mg_clash_b49 G) (v24 >>> ((1 : Int32) &&& 31)) h14) else ((gR h14 x0 3 4).bind fun v21 => (aI h14 v21 x1).bind fun v22 => (f_Mg_clash_b49 G) (v22 &&& (1 : Int32)) h14)) else ((f_Mg_clash_b12 G) h))) := rfl
set_option maxRecDepth 100000 in
set_option maxHeartbeats 4000000 in
theorem w_Mg_clash_b12 {X : zX} {r : pT} {G : Nat} (hQ : zQx X r) (hT : zTOK X) (hkn : zkn X 2 12) : ∀ (h : pH), f_Mg_clash_b12 G h = some r → Z X M_Mg_clash 0 0 h 12 [] [] := by
  intro h E
  rw [f_Mg_clash_b12_eq] at E
  exact x_throw (kd := 1) (text := "there is no such clash") hQ hT E xf1 zt_186 zt_56 (by decide +kernel) rfl xg1 xn1 xo1 d_Mg_clash_12 d_Mg_clash_15 d_Mg_clash_16 d_Mg_clash_18 d_Mg_clash_21 (Nat.le_of_ble_eq_true rfl) (zkn_le hkn (Nat.le_of_ble_eq_true rfl) (Nat.le_of_ble_eq_true rfl)) (Nat.le_of_ble_eq_true rfl)
set_option maxRecDepth 100000 in
set_option maxHeartbeats 4000000 in
theorem w_Mg_clash_b49 {X : zX} {r : pT} {G : Nat} (hQ : zQx X r) (hT : zTOK X) (hkn : zkn X 2 12) : ∀ (s0 : Int32) (h : pH), f_Mg_clash_b49 G s0 h = some r → Z X M_Mg_clash 1 6 h 49 [] [.int s0] := by
  intro s0 h E
  rw [f_Mg_clash_b49_eq] at E
  exact x_ireturn hQ rfl (zkn_le hkn (Nat.le_of_ble_eq_true rfl) (Nat.le_of_ble_eq_true rfl)) d_Mg_clash_49 E
set_option maxRecDepth 100000 in
set_option maxHeartbeats 4000000 in
theorem w_Mg_clash_b0 {X : zX} {r : pT} {G : Nat} (hQ : zQx X r) (hT : zTOK X) (hkn : zkn X 2 12) : ∀ (x0 : Nat) (x1 : Int32) (x2 : Int32) (h : pH), f_Mg_clash G x0 x1 x2 h = some r → Z X M_Mg_clash 0 0 h 0 [(0, .ref x0), (1, .int x1), (2, .int x2)] [] := by
  intro x0 x1 x2 h E
  rw [f_Mg_clash_eq] at E
  refine z_iload_n 1 d_Mg_clash_0 rfl rfl ?_
  refine z_if_lt (y := 0) (tgt := 12) d_Mg_clash_1 (by decide) E (fun E => ?_) (fun E => ?_)
  · refine z_lv [] rfl ?_
    exact (w_Mg_clash_b12 hQ hT hkn) h E
  · refine z_iload_n 1 d_Mg_clash_4 rfl rfl ?_
    refine z_aload_n 0 d_Mg_clash_5 rfl rfl ?_
    refine z_getI (ci := 3) (j := 5) rfl (by decide) zf_Mg_30 d_Mg_clash_6 E (fun v13 _ E => ?_)
    refine z_ic_lt (tgt := 22) d_Mg_clash_9 (by decide) E (fun E => ?_) (fun E => ?_)
    · refine z_iload_n 2 d_Mg_clash_22 rfl rfl ?_
      obtain ⟨g15, ⟨rc17, h14⟩, e16, kx18, kk19⟩ := tV_some E
      dsimp only at kx18 kk19
      refine x_invS (y := y_Mg_checkOneOfTwo) (Mc := M_Mg_checkOneOfTwo) (av := [.int x2]) (rest := []) (mc1 := 1) (ms1 := 6) hQ hT ⟨zt_637, zt_638, zt_48⟩ zk_Mg_checkOneOfTwo zy_Mg_checkOneOfTwo (by decide) (Nat.le_of_ble_eq_true rfl) (zkn_le hkn (Nat.le_of_ble_eq_true rfl) (Nat.le_of_ble_eq_true rfl)) rfl (Nat.le_of_ble_eq_true rfl) d_Mg_clash_23 (m_Mg_checkOneOfTwo (zTOK_l hT) e16) kx18 (fun w9 hw9 => ?_)
      obtain ⟨rfl, E⟩ := kk19 w9 hw9
      show Z X M_Mg_clash 1 6 h14 26 [(0, .ref x0), (1, .int x1), (2, .int x2)] []
      refine z_iload_n 2 d_Mg_clash_26 rfl rfl ?_
      refine z_if_ne (y := 0) (tgt := 41) d_Mg_clash_27 (by decide) E (fun E => ?_) (fun E => ?_)
      · refine z_aload_n 0 d_Mg_clash_41 rfl rfl ?_
        refine z_getR (ci := 3) (j := 4) rfl (by decide) zf_Mg_26 d_Mg_clash_42 E (fun v21 _ E => ?_)
        refine z_iload_n 1 d_Mg_clash_45 rfl rfl ?_
        refine z_iaload d_Mg_clash_46 E (fun v22 _ E => ?_)
        refine z_iconst (v := (1 : Int32)) d_Mg_clash_47 (by decide) ?_
        refine z_iand d_Mg_clash_48 ?_
        refine z_lv [] rfl ?_
        exact (w_Mg_clash_b49 hQ hT hkn) (v22 &&& (1 : Int32)) h14 E
      · refine z_aload_n 0 d_Mg_clash_30 rfl rfl ?_
        refine z_getR (ci := 3) (j := 4) rfl (by decide) zf_Mg_26 d_Mg_clash_31 E (fun v23 _ E => ?_)
        refine z_iload_n 1 d_Mg_clash_34 rfl rfl ?_
        refine z_iaload d_Mg_clash_35 E (fun v24 _ E => ?_)
        refine z_iconst (v := (1 : Int32)) d_Mg_clash_36 (by decide) ?_
        refine z_ishr d_Mg_clash_37 ?_
        refine z_goto (tgt := 49) d_Mg_clash_38 (by decide) ?_
        refine z_lv [] rfl ?_
        exact (w_Mg_clash_b49 hQ hT hkn) (v24 >>> ((1 : Int32) &&& 31)) h14 E
    · refine z_lv [] rfl ?_
      exact (w_Mg_clash_b12 hQ hT hkn) h E
theorem m_Mg_clash {l : Launch} (hl0 : l.stackTraces = false) {G : Nat} {x0 : Nat} {x1 : Int32} {x2 : Int32} {h : pH} {r : pT} (E : f_Mg_clash G x0 x1 x2 h = some r) : zMetT l y_Mg_clash M_Mg_clash 2 12 [.ref x0, .int x1, .int x2] h r :=
  zMetT_of hl0 (by decide) rfl (Nat.le_of_ble_eq_true rfl) (fun X hT hQ hkn _ => w_Mg_clash_b0 hQ hT hkn x0 x1 x2 h E)
def f_Mg_change (G : Nat) (x0 : Nat) (x1 : Int32) (x2 : Int32) (h : pH) : Option pT := tR (oC h x0 3) (f_Mg_graphAt G x0 x1 h) fun v49 h43 => tR (oC h43 x0 3) (f_Mg_graphAt G x0 x2 h43) fun v56 h50 => (gR h50 x0 3 2).bind fun v57 => cV (oC h50 v57 0) (f_Gr_clear G v57 h50) fun h58 => (gR h58 x0 3 2).bind fun v61 => cI (oC h58 v61 0) (f_Gr_insertMissing G v61 v49 v56 h58) fun v65 h62 => (gR h62 x0 3 3).bind fun v66 => cV (oC h62 v66 0) (f_Gr_clear G v66 h62) fun h67 => (gR h67 x0 3 3).bind fun v70 => cI (oC h67 v70 0) (f_Gr_insertMissing G v70 v56 v49 h67) fun v74 h71 => (gR h71 x0 3 2).bind fun v75 => cI (oC h71 v75 0) (f_Gr_count G v75 h71) fun v79 h76 => (gR h76 x0 3 3).bind fun v80 => cI (oC h76 v80 0) (f_Gr_count G v80 h76) fun v84 h81 => some (.inr (some (.int (v79 + v84))), h81)
theorem f_Mg_change_eq (G : Nat) (x0 : Nat) (x1 : Int32) (x2 : Int32) (h : pH) : f_Mg_change G x0 x1 x2 h = (tR (oC h x0 3) (f_Mg_graphAt G x0 x1 h) fun v49 h43 => tR (oC h43 x0 3) (f_Mg_graphAt G x0 x2 h43) fun v56 h50 => (gR h50 x0 3 2).bind fun v57 => cV (oC h50 v57 0) (f_Gr_clear G v57 h50) fun h58 => (gR h58 x0 3 2).bind fun v61 => cI (oC h58 v61 0) (f_Gr_insertMissing G v61 v49 v56 h58) fun v65 h62 => (gR h62 x0 3 3).bind fun v66 => cV (oC h62 v66 0) (f_Gr_clear G v66 h62) fun h67 => (gR h67 x0 3 3).bind fun v70 => cI (oC h67 v70 0) (f_Gr_insertMissing G v70 v56 v49 h67) fun v74 h71 => (gR h71 x0 3 2).bind fun v75 => cI (oC h71 v75 0) (f_Gr_count G v75 h71) fun v79 h76 => (gR h76 x0 3 3).bind fun v80 => cI (oC h76 v80 0) (f_Gr_count G v80 h76) fun v84 h81 => some (.inr (some (.int (v79 + v84))), h81)) := rfl
set_option maxRecDepth 100000 in
set_option maxHeartbeats 4000000 in
theorem w_Mg_change_b0 {X : zX} {r : pT} {G : Nat} (hQ : zQx X r) (hT : zTOK X) (hkn : zkn X 2 12) : ∀ (x0 : Nat) (x1 : Int32) (x2 : Int32) (h : pH), f_Mg_change G x0 x1 x2 h = some r → Z X M_Mg_change 0 0 h 0 [(0, .ref x0), (1, .int x1), (2, .int x2)] [] := by
  intro x0 x1 x2 h E
  rw [f_Mg_change_eq] at E
  refine z_aload_n 0 d_Mg_change_0 rfl rfl ?_
  refine z_iload_n 1 d_Mg_change_1 rfl rfl ?_
  obtain ⟨g44, ⟨rc46, h43⟩, e45, kx47, kk48⟩ := tR_some E
  dsimp only at kx47 kk48
  refine x_invV (ci := 3) (y := y_Mg_graphAt) (Mc := M_Mg_graphAt) (av := [.int x1]) (rest := []) (mc1 := 1) (ms1 := 6) hQ hT rfl rfl ⟨zt_182, zt_184, zt_0, zt_48⟩ zk_Mg_graphAt zy_Mg_graphAt (by decide) (Nat.le_of_ble_eq_true rfl) (zkn_le hkn (Nat.le_of_ble_eq_true rfl) (Nat.le_of_ble_eq_true rfl)) rfl (Nat.le_of_ble_eq_true rfl) d_Mg_change_2 g44 (m_Mg_graphAt (zTOK_l hT) e45) kx47 (fun w9 hw9 => ?_)
  obtain ⟨v49, rfl, E⟩ := kk48 w9 hw9
  show Z X M_Mg_change 1 6 h43 5 [(0, .ref x0), (1, .int x1), (2, .int x2)] [.ref v49]
  refine z_astore_n (lv2 := [(3, .ref v49), (0, .ref x0), (1, .int x1), (2, .int x2)]) d_Mg_change_5 rfl (Nat.le_of_ble_eq_true rfl) rfl ?_
  refine z_aload_n 1 d_Mg_change_6 rfl rfl ?_
  refine z_iload_n 3 d_Mg_change_7 rfl rfl ?_
  obtain ⟨g51, ⟨rc53, h50⟩, e52, kx54, kk55⟩ := tR_some E
  dsimp only at kx54 kk55
  refine x_invV (ci := 3) (y := y_Mg_graphAt) (Mc := M_Mg_graphAt) (av := [.int x2]) (rest := []) (mc1 := 1) (ms1 := 6) hQ hT rfl rfl ⟨zt_182, zt_184, zt_0, zt_48⟩ zk_Mg_graphAt zy_Mg_graphAt (by decide) (Nat.le_of_ble_eq_true rfl) (zkn_le hkn (Nat.le_of_ble_eq_true rfl) (Nat.le_of_ble_eq_true rfl)) rfl (Nat.le_of_ble_eq_true rfl) d_Mg_change_8 g51 (m_Mg_graphAt (zTOK_l hT) e52) kx54 (fun w9 hw9 => ?_)
  obtain ⟨v56, rfl, E⟩ := kk55 w9 hw9
  show Z X M_Mg_change 2 12 h50 11 [(3, .ref v49), (0, .ref x0), (1, .int x1), (2, .int x2)] [.ref v56]
  refine z_astore (lv2 := [(4, .ref v56), (3, .ref v49), (0, .ref x0), (1, .int x1), (2, .int x2)]) d_Mg_change_11 (Nat.le_of_ble_eq_true rfl) rfl ?_
  refine z_aload_n 2 d_Mg_change_13 rfl rfl ?_
  refine z_getR (ci := 3) (j := 2) rfl (by decide) zf_Mg_20 d_Mg_change_14 E (fun v57 _ E => ?_)
  obtain ⟨g59, h58, e60, E⟩ := cV_some E
  refine z_invV (ci := 0) (y := y_Gr_clear) (Mc := M_Gr_clear) (av := []) (rest := []) rfl rfl ⟨zt_568, zt_569, zt_570, zt_49⟩ zk_Gr_clear zy_Gr_clear (by decide) (Nat.le_of_ble_eq_true rfl) (zkn_le hkn (Nat.le_of_ble_eq_true rfl) (Nat.le_of_ble_eq_true rfl)) rfl (Nat.le_of_ble_eq_true rfl) d_Mg_change_17 g59 (m_Gr_clear e60) ?_
  show Z X M_Mg_change 2 12 h58 20 [(4, .ref v56), (3, .ref v49), (0, .ref x0), (1, .int x1), (2, .int x2)] []
  refine z_aload_n 2 d_Mg_change_20 rfl rfl ?_
  refine z_getR (ci := 3) (j := 2) rfl (by decide) zf_Mg_20 d_Mg_change_21 E (fun v61 _ E => ?_)
  refine z_aload_n 1 d_Mg_change_24 rfl rfl ?_
  refine z_aload 0 d_Mg_change_25 rfl ?_
  obtain ⟨g63, v65, h62, e64, E⟩ := cI_some E
  refine z_invV (ci := 0) (y := y_Gr_insertMissing) (Mc := M_Gr_insertMissing) (av := [.ref v49, .ref v56]) (rest := []) rfl rfl ⟨zt_610, zt_611, zt_612, zt_49⟩ zk_Gr_insertMissing zy_Gr_insertMissing (by decide) (Nat.le_of_ble_eq_true rfl) (zkn_le hkn (Nat.le_of_ble_eq_true rfl) (Nat.le_of_ble_eq_true rfl)) rfl (Nat.le_of_ble_eq_true rfl) d_Mg_change_27 g63 (m_Gr_insertMissing e64) ?_
  show Z X M_Mg_change 2 12 h62 30 [(4, .ref v56), (3, .ref v49), (0, .ref x0), (1, .int x1), (2, .int x2)] [.int v65]
  refine z_pop d_Mg_change_30 rfl ?_
  refine z_aload_n 2 d_Mg_change_31 rfl rfl ?_
  refine z_getR (ci := 3) (j := 3) rfl (by decide) zf_Mg_23 d_Mg_change_32 E (fun v66 _ E => ?_)
  obtain ⟨g68, h67, e69, E⟩ := cV_some E
  refine z_invV (ci := 0) (y := y_Gr_clear) (Mc := M_Gr_clear) (av := []) (rest := []) rfl rfl ⟨zt_568, zt_569, zt_570, zt_49⟩ zk_Gr_clear zy_Gr_clear (by decide) (Nat.le_of_ble_eq_true rfl) (zkn_le hkn (Nat.le_of_ble_eq_true rfl) (Nat.le_of_ble_eq_true rfl)) rfl (Nat.le_of_ble_eq_true rfl) d_Mg_change_35 g68 (m_Gr_clear e69) ?_
  show Z X M_Mg_change 2 12 h67 38 [(4, .ref v56), (3, .ref v49), (0, .ref x0), (1, .int x1), (2, .int x2)] []
  refine z_aload_n 2 d_Mg_change_38 rfl rfl ?_
  refine z_getR (ci := 3) (j := 3) rfl (by decide) zf_Mg_23 d_Mg_change_39 E (fun v70 _ E => ?_)
  refine z_aload 0 d_Mg_change_42 rfl ?_
  refine z_aload_n 1 d_Mg_change_44 rfl rfl ?_
  obtain ⟨g72, v74, h71, e73, E⟩ := cI_some E
  refine z_invV (ci := 0) (y := y_Gr_insertMissing) (Mc := M_Gr_insertMissing) (av := [.ref v56, .ref v49]) (rest := []) rfl rfl ⟨zt_610, zt_611, zt_612, zt_49⟩ zk_Gr_insertMissing zy_Gr_insertMissing (by decide) (Nat.le_of_ble_eq_true rfl) (zkn_le hkn (Nat.le_of_ble_eq_true rfl) (Nat.le_of_ble_eq_true rfl)) rfl (Nat.le_of_ble_eq_true rfl) d_Mg_change_45 g72 (m_Gr_insertMissing e73) ?_
  show Z X M_Mg_change 2 12 h71 48 [(4, .ref v56), (3, .ref v49), (0, .ref x0), (1, .int x1), (2, .int x2)] [.int v74]
  refine z_pop d_Mg_change_48 rfl ?_
  refine z_aload_n 2 d_Mg_change_49 rfl rfl ?_
  refine z_getR (ci := 3) (j := 2) rfl (by decide) zf_Mg_20 d_Mg_change_50 E (fun v75 _ E => ?_)
  obtain ⟨g77, v79, h76, e78, E⟩ := cI_some E
  refine z_invV (ci := 0) (y := y_Gr_count) (Mc := M_Gr_count) (av := []) (rest := []) rfl rfl ⟨zt_310, zt_311, zt_312, zt_49⟩ zk_Gr_count zy_Gr_count (by decide) (Nat.le_of_ble_eq_true rfl) (zkn_le hkn (Nat.le_of_ble_eq_true rfl) (Nat.le_of_ble_eq_true rfl)) rfl (Nat.le_of_ble_eq_true rfl) d_Mg_change_53 g77 (m_Gr_count e78) ?_
  show Z X M_Mg_change 2 12 h76 56 [(4, .ref v56), (3, .ref v49), (0, .ref x0), (1, .int x1), (2, .int x2)] [.int v79]
  refine z_aload_n 2 d_Mg_change_56 rfl rfl ?_
  refine z_getR (ci := 3) (j := 3) rfl (by decide) zf_Mg_23 d_Mg_change_57 E (fun v80 _ E => ?_)
  obtain ⟨g82, v84, h81, e83, E⟩ := cI_some E
  refine z_invV (ci := 0) (y := y_Gr_count) (Mc := M_Gr_count) (av := []) (rest := [.int v79]) rfl rfl ⟨zt_310, zt_311, zt_312, zt_49⟩ zk_Gr_count zy_Gr_count (by decide) (Nat.le_of_ble_eq_true rfl) (zkn_le hkn (Nat.le_of_ble_eq_true rfl) (Nat.le_of_ble_eq_true rfl)) rfl (Nat.le_of_ble_eq_true rfl) d_Mg_change_60 g82 (m_Gr_count e83) ?_
  show Z X M_Mg_change 2 12 h81 63 [(4, .ref v56), (3, .ref v49), (0, .ref x0), (1, .int x1), (2, .int x2)] [.int v84, .int v79]
  refine z_iadd d_Mg_change_63 ?_
  exact x_ireturn hQ rfl (zkn_le hkn (Nat.le_of_ble_eq_true rfl) (Nat.le_of_ble_eq_true rfl)) d_Mg_change_64 E
theorem m_Mg_change {l : Launch} (hl0 : l.stackTraces = false) {G : Nat} {x0 : Nat} {x1 : Int32} {x2 : Int32} {h : pH} {r : pT} (E : f_Mg_change G x0 x1 x2 h = some r) : zMetT l y_Mg_change M_Mg_change 2 12 [.ref x0, .int x1, .int x2] h r :=
  zMetT_of hl0 (by decide) rfl (Nat.le_of_ble_eq_true rfl) (fun X hT hQ hkn _ => w_Mg_change_b0 hQ hT hkn x0 x1 x2 h E)
def f_Mg_part_b41 (G : Nat) (s0 : Int32) (h : pH) : Option pT := some (.inr (some (.int s0)), h)
theorem f_Mg_part_b41_eq (G : Nat) (s0 : Int32) (h : pH) : f_Mg_part_b41 G s0 h = (some (.inr (some (.int s0)), h)) := rfl
def f_Mg_part (G : Nat) (x0 : Nat) (x1 : Int32) (x2 : Int32) (h : pH) : Option pT := tV true (f_Mg_checkOneOfTwo G x1 h) fun h18 => if 0 ≤ x2 then (if x1 = 0 then ((gR h18 x0 3 2).bind fun v30 => cI (oC h18 v30 0) (f_Gr_at G v30 x2 h18) fun v34 h31 => (f_Mg_part_b41 G) v34 h31) else ((gR h18 x0 3 3).bind fun v25 => cI (oC h18 v25 0) (f_Gr_at G v25 x2 h18) fun v29 h26 => (f_Mg_part_b41 G) v29 h26)) else (some (.inl 1, h18))
theorem f_Mg_part_eq (G : Nat) (x0 : Nat) (x1 : Int32) (x2 : Int32) (h : pH) : f_Mg_part G x0 x1 x2 h = (tV true (f_Mg_checkOneOfTwo G x1 h) fun h18 => if 0 ≤ x2 then (if x1 = 0 then ((gR h18 x0 3 2).bind fun v30 => cI (oC h18 v30 0) (f_Gr_at G v30 x2 h18) fun v34 h31 => (f_Mg_part_b41 G) v34 h31) else ((gR h18 x0 3 3).bind fun v25 => cI (oC h18 v25 0) (f_Gr_at G v25 x2 h18) fun v29 h26 => (f_Mg_part_b41 G) v29 h26)) else (some (.inl 1, h18))) := rfl
set_option maxRecDepth 100000 in
set_option maxHeartbeats 4000000 in
theorem w_Mg_part_b41 {X : zX} {r : pT} {G : Nat} (hQ : zQx X r) (hT : zTOK X) (hkn : zkn X 2 12) : ∀ (s0 : Int32) (h : pH), f_Mg_part_b41 G s0 h = some r → Z X M_Mg_part 1 6 h 41 [] [.int s0] := by
  intro s0 h E
  rw [f_Mg_part_b41_eq] at E
  exact x_ireturn hQ rfl (zkn_le hkn (Nat.le_of_ble_eq_true rfl) (Nat.le_of_ble_eq_true rfl)) d_Mg_part_41 E
set_option maxRecDepth 100000 in
set_option maxHeartbeats 4000000 in
theorem w_Mg_part_b0 {X : zX} {r : pT} {G : Nat} (hQ : zQx X r) (hT : zTOK X) (hkn : zkn X 2 12) : ∀ (x0 : Nat) (x1 : Int32) (x2 : Int32) (h : pH), f_Mg_part G x0 x1 x2 h = some r → Z X M_Mg_part 0 0 h 0 [(0, .ref x0), (1, .int x1), (2, .int x2)] [] := by
  intro x0 x1 x2 h E
  rw [f_Mg_part_eq] at E
  refine z_iload_n 1 d_Mg_part_0 rfl rfl ?_
  obtain ⟨g19, ⟨rc21, h18⟩, e20, kx22, kk23⟩ := tV_some E
  dsimp only at kx22 kk23
  refine x_invS (y := y_Mg_checkOneOfTwo) (Mc := M_Mg_checkOneOfTwo) (av := [.int x1]) (rest := []) (mc1 := 1) (ms1 := 6) hQ hT ⟨zt_637, zt_638, zt_48⟩ zk_Mg_checkOneOfTwo zy_Mg_checkOneOfTwo (by decide) (Nat.le_of_ble_eq_true rfl) (zkn_le hkn (Nat.le_of_ble_eq_true rfl) (Nat.le_of_ble_eq_true rfl)) rfl (Nat.le_of_ble_eq_true rfl) d_Mg_part_1 (m_Mg_checkOneOfTwo (zTOK_l hT) e20) kx22 (fun w9 hw9 => ?_)
  obtain ⟨rfl, E⟩ := kk23 w9 hw9
  show Z X M_Mg_part 1 6 h18 4 [(0, .ref x0), (1, .int x1), (2, .int x2)] []
  refine z_iload_n 2 d_Mg_part_4 rfl rfl ?_
  refine z_if_ge (y := 0) (tgt := 18) d_Mg_part_5 (by decide) E (fun E => ?_) (fun E => ?_)
  · refine z_iload_n 1 d_Mg_part_18 rfl rfl ?_
    refine z_if_ne (y := 0) (tgt := 33) d_Mg_part_19 (by decide) E (fun E => ?_) (fun E => ?_)
    · refine z_aload_n 0 d_Mg_part_33 rfl rfl ?_
      refine z_getR (ci := 3) (j := 3) rfl (by decide) zf_Mg_23 d_Mg_part_34 E (fun v25 _ E => ?_)
      refine z_iload_n 2 d_Mg_part_37 rfl rfl ?_
      obtain ⟨g27, v29, h26, e28, E⟩ := cI_some E
      refine z_invV (ci := 0) (y := y_Gr_at) (Mc := M_Gr_at) (av := [.int x2]) (rest := []) rfl rfl ⟨zt_355, zt_285, zt_286, zt_49⟩ zk_Gr_at zy_Gr_at (by decide) (Nat.le_of_ble_eq_true rfl) (zkn_le hkn (Nat.le_of_ble_eq_true rfl) (Nat.le_of_ble_eq_true rfl)) rfl (Nat.le_of_ble_eq_true rfl) d_Mg_part_38 g27 (m_Gr_at e28) ?_
      show Z X M_Mg_part 1 6 h26 41 [(0, .ref x0), (1, .int x1), (2, .int x2)] [.int v29]
      refine z_lv [] rfl ?_
      exact (w_Mg_part_b41 hQ hT hkn) v29 h26 E
    · refine z_aload_n 0 d_Mg_part_22 rfl rfl ?_
      refine z_getR (ci := 3) (j := 2) rfl (by decide) zf_Mg_20 d_Mg_part_23 E (fun v30 _ E => ?_)
      refine z_iload_n 2 d_Mg_part_26 rfl rfl ?_
      obtain ⟨g32, v34, h31, e33, E⟩ := cI_some E
      refine z_invV (ci := 0) (y := y_Gr_at) (Mc := M_Gr_at) (av := [.int x2]) (rest := []) rfl rfl ⟨zt_355, zt_285, zt_286, zt_49⟩ zk_Gr_at zy_Gr_at (by decide) (Nat.le_of_ble_eq_true rfl) (zkn_le hkn (Nat.le_of_ble_eq_true rfl) (Nat.le_of_ble_eq_true rfl)) rfl (Nat.le_of_ble_eq_true rfl) d_Mg_part_27 g32 (m_Gr_at e33) ?_
      show Z X M_Mg_part 1 6 h31 30 [(0, .ref x0), (1, .int x1), (2, .int x2)] [.int v34]
      refine z_goto (tgt := 41) d_Mg_part_30 (by decide) ?_
      refine z_lv [] rfl ?_
      exact (w_Mg_part_b41 hQ hT hkn) v34 h31 E
  · exact x_throw (kd := 1) (text := "there is no such fact") hQ hT E xf1 zt_186 zt_56 (by decide +kernel) rfl xg1 xn1 xo1 d_Mg_part_8 d_Mg_part_11 d_Mg_part_12 d_Mg_part_14 d_Mg_part_17 (Nat.le_of_ble_eq_true rfl) (zkn_le hkn (Nat.le_of_ble_eq_true rfl) (Nat.le_of_ble_eq_true rfl)) (Nat.le_of_ble_eq_true rfl)
theorem m_Mg_part {l : Launch} (hl0 : l.stackTraces = false) {G : Nat} {x0 : Nat} {x1 : Int32} {x2 : Int32} {h : pH} {r : pT} (E : f_Mg_part G x0 x1 x2 h = some r) : zMetT l y_Mg_part M_Mg_part 2 12 [.ref x0, .int x1, .int x2] h r :=
  zMetT_of hl0 (by decide) rfl (Nat.le_of_ble_eq_true rfl) (fun X hT hQ hkn _ => w_Mg_part_b0 hQ hT hkn x0 x1 x2 h E)
def f_Mg_apply_b96 (G : Nat) (h : pH) : Option pT := some (.inr (some (.int (0 : Int32))), h)
theorem f_Mg_apply_b96_eq (G : Nat) (h : pH) : f_Mg_apply_b96 G h = (some (.inr (some (.int (0 : Int32))), h)) := rfl
def f_Mg_apply_b66 (G : Nat) (x3 : Nat) (x4 : Nat) (x5 : Nat) (s0 : Int32) (h : pH) : Option pT := if s0 = 0 then ((f_Mg_apply_b96 G) h) else (cI (oC h x3 0) (f_Gr_countShared G x3 x4 h) fun v68 h65 => cI (oC h65 x4 0) (f_Gr_count G x4 h65) fun v72 h69 => if v68 = v72 then (cI (oC h69 x3 0) (f_Gr_countShared G x3 x5 h69) fun v76 h73 => if v76 = 0 then (cV (oC h73 x3 0) (f_Gr_eraseAll G x3 x4 h73) fun h77 => cV (oC h77 x3 0) (f_Gr_insertAll G x3 x5 h77) fun h80 => some (.inr (some (.int (1 : Int32))), h80)) else ((f_Mg_apply_b96 G) h73)) else ((f_Mg_apply_b96 G) h69))
theorem f_Mg_apply_b66_eq (G : Nat) (x3 : Nat) (x4 : Nat) (x5 : Nat) (s0 : Int32) (h : pH) : f_Mg_apply_b66 G x3 x4 x5 s0 h = (if s0 = 0 then ((f_Mg_apply_b96 G) h) else (cI (oC h x3 0) (f_Gr_countShared G x3 x4 h) fun v68 h65 => cI (oC h65 x4 0) (f_Gr_count G x4 h65) fun v72 h69 => if v68 = v72 then (cI (oC h69 x3 0) (f_Gr_countShared G x3 x5 h69) fun v76 h73 => if v76 = 0 then (cV (oC h73 x3 0) (f_Gr_eraseAll G x3 x4 h73) fun h77 => cV (oC h77 x3 0) (f_Gr_insertAll G x3 x5 h77) fun h80 => some (.inr (some (.int (1 : Int32))), h80)) else ((f_Mg_apply_b96 G) h73)) else ((f_Mg_apply_b96 G) h69))) := rfl
def f_Mg_apply_b38 (G : Nat) (x3 : Nat) (x4 : Nat) (s0 : Nat) (h : pH) : Option pT := cI (oC h x3 0) (f_Gr_count G x3 h) fun v56 h53 => cI (oC h53 x4 0) (f_Gr_count G x4 h53) fun v60 h57 => cI (oC h57 s0 0) (f_Gr_count G s0 h57) fun v64 h61 => if (30 : Int32) < ((v56 - v60) + v64) then ((f_Mg_apply_b66 G) x3 x4 s0 (0 : Int32) h61) else ((f_Mg_apply_b66 G) x3 x4 s0 (1 : Int32) h61)
theorem f_Mg_apply_b38_eq (G : Nat) (x3 : Nat) (x4 : Nat) (s0 : Nat) (h : pH) : f_Mg_apply_b38 G x3 x4 s0 h = (cI (oC h x3 0) (f_Gr_count G x3 h) fun v56 h53 => cI (oC h53 x4 0) (f_Gr_count G x4 h53) fun v60 h57 => cI (oC h57 s0 0) (f_Gr_count G s0 h57) fun v64 h61 => if (30 : Int32) < ((v56 - v60) + v64) then ((f_Mg_apply_b66 G) x3 x4 s0 (0 : Int32) h61) else ((f_Mg_apply_b66 G) x3 x4 s0 (1 : Int32) h61)) := rfl
def f_Mg_apply_b21 (G : Nat) (x0 : Nat) (x2 : Int32) (x3 : Nat) (s0 : Nat) (h : pH) : Option pT := if x2 = 0 then ((gR h x0 3 3).bind fun v51 => (f_Mg_apply_b38 G) x3 s0 v51 h) else ((gR h x0 3 2).bind fun v52 => (f_Mg_apply_b38 G) x3 s0 v52 h)
theorem f_Mg_apply_b21_eq (G : Nat) (x0 : Nat) (x2 : Int32) (x3 : Nat) (s0 : Nat) (h : pH) : f_Mg_apply_b21 G x0 x2 x3 s0 h = (if x2 = 0 then ((gR h x0 3 3).bind fun v51 => (f_Mg_apply_b38 G) x3 s0 v51 h) else ((gR h x0 3 2).bind fun v52 => (f_Mg_apply_b38 G) x3 s0 v52 h)) := rfl
def f_Mg_apply (G : Nat) (x0 : Nat) (x1 : Int32) (x2 : Int32) (h : pH) : Option pT := tR (oC h x0 3) (f_Mg_graphAt G x0 x1 h) fun v48 h42 => if x2 = 0 then ((gR h42 x0 3 2).bind fun v49 => (f_Mg_apply_b21 G) x0 x2 v48 v49 h42) else ((gR h42 x0 3 3).bind fun v50 => (f_Mg_apply_b21 G) x0 x2 v48 v50 h42)
theorem f_Mg_apply_eq (G : Nat) (x0 : Nat) (x1 : Int32) (x2 : Int32) (h : pH) : f_Mg_apply G x0 x1 x2 h = (tR (oC h x0 3) (f_Mg_graphAt G x0 x1 h) fun v48 h42 => if x2 = 0 then ((gR h42 x0 3 2).bind fun v49 => (f_Mg_apply_b21 G) x0 x2 v48 v49 h42) else ((gR h42 x0 3 3).bind fun v50 => (f_Mg_apply_b21 G) x0 x2 v48 v50 h42)) := rfl
set_option maxRecDepth 100000 in
set_option maxHeartbeats 4000000 in
theorem w_Mg_apply_b96 {X : zX} {r : pT} {G : Nat} (hQ : zQx X r) (hT : zTOK X) (hkn : zkn X 1 6) : ∀ (h : pH), f_Mg_apply_b96 G h = some r → Z X M_Mg_apply 1 6 h 96 [] [] := by
  intro h E
  rw [f_Mg_apply_b96_eq] at E
  refine z_iconst (v := (0 : Int32)) d_Mg_apply_96 (by decide) ?_
  exact x_ireturn hQ rfl (zkn_le hkn (Nat.le_of_ble_eq_true rfl) (Nat.le_of_ble_eq_true rfl)) d_Mg_apply_97 E
set_option maxRecDepth 100000 in
set_option maxHeartbeats 4000000 in
theorem w_Mg_apply_b66 {X : zX} {r : pT} {G : Nat} (hQ : zQx X r) (hT : zTOK X) (hkn : zkn X 1 6) : ∀ (x3 : Nat) (x4 : Nat) (x5 : Nat) (s0 : Int32) (h : pH), f_Mg_apply_b66 G x3 x4 x5 s0 h = some r → Z X M_Mg_apply 1 6 h 66 [(3, .ref x3), (4, .ref x4), (5, .ref x5)] [.int s0] := by
  intro x3 x4 x5 s0 h E
  rw [f_Mg_apply_b66_eq] at E
  refine z_istore (lv2 := [(6, .int s0), (3, .ref x3), (4, .ref x4), (5, .ref x5)]) d_Mg_apply_66 (Nat.le_of_ble_eq_true rfl) rfl ?_
  refine z_iload 0 d_Mg_apply_68 rfl ?_
  refine z_if_eq (y := 0) (tgt := 96) d_Mg_apply_70 (by decide) E (fun E => ?_) (fun E => ?_)
  · refine z_lv [] rfl ?_
    exact (w_Mg_apply_b96 hQ hT hkn) h E
  · refine z_aload_n 1 d_Mg_apply_73 rfl rfl ?_
    refine z_aload 2 d_Mg_apply_74 rfl ?_
    obtain ⟨g66, v68, h65, e67, E⟩ := cI_some E
    refine z_invV (ci := 0) (y := y_Gr_countShared) (Mc := M_Gr_countShared) (av := [.ref x4]) (rest := []) rfl rfl ⟨zt_661, zt_662, zt_663, zt_49⟩ zk_Gr_countShared zy_Gr_countShared (by decide) (Nat.le_of_ble_eq_true rfl) (zkn_le hkn (Nat.le_of_ble_eq_true rfl) (Nat.le_of_ble_eq_true rfl)) rfl (Nat.le_of_ble_eq_true rfl) d_Mg_apply_76 g66 (m_Gr_countShared e67) ?_
    show Z X M_Mg_apply 1 6 h65 79 [(6, .int s0), (3, .ref x3), (4, .ref x4), (5, .ref x5)] [.int v68]
    refine z_aload 2 d_Mg_apply_79 rfl ?_
    obtain ⟨g70, v72, h69, e71, E⟩ := cI_some E
    refine z_invV (ci := 0) (y := y_Gr_count) (Mc := M_Gr_count) (av := []) (rest := [.int v68]) rfl rfl ⟨zt_310, zt_311, zt_312, zt_49⟩ zk_Gr_count zy_Gr_count (by decide) (Nat.le_of_ble_eq_true rfl) (zkn_le hkn (Nat.le_of_ble_eq_true rfl) (Nat.le_of_ble_eq_true rfl)) rfl (Nat.le_of_ble_eq_true rfl) d_Mg_apply_81 g70 (m_Gr_count e71) ?_
    show Z X M_Mg_apply 1 6 h69 84 [(6, .int s0), (3, .ref x3), (4, .ref x4), (5, .ref x5)] [.int v72, .int v68]
    refine z_ic_ne (tgt := 96) d_Mg_apply_84 (by decide) E (fun E => ?_) (fun E => ?_)
    · refine z_lv [] rfl ?_
      exact (w_Mg_apply_b96 hQ hT hkn) h69 E
    · refine z_aload_n 1 d_Mg_apply_87 rfl rfl ?_
      refine z_aload 3 d_Mg_apply_88 rfl ?_
      obtain ⟨g74, v76, h73, e75, E⟩ := cI_some E
      refine z_invV (ci := 0) (y := y_Gr_countShared) (Mc := M_Gr_countShared) (av := [.ref x5]) (rest := []) rfl rfl ⟨zt_661, zt_662, zt_663, zt_49⟩ zk_Gr_countShared zy_Gr_countShared (by decide) (Nat.le_of_ble_eq_true rfl) (zkn_le hkn (Nat.le_of_ble_eq_true rfl) (Nat.le_of_ble_eq_true rfl)) rfl (Nat.le_of_ble_eq_true rfl) d_Mg_apply_90 g74 (m_Gr_countShared e75) ?_
      show Z X M_Mg_apply 1 6 h73 93 [(6, .int s0), (3, .ref x3), (4, .ref x4), (5, .ref x5)] [.int v76]
      refine z_if_eq (y := 0) (tgt := 98) d_Mg_apply_93 (by decide) E (fun E => ?_) (fun E => ?_)
      · refine z_aload_n 1 d_Mg_apply_98 rfl rfl ?_
        refine z_aload 2 d_Mg_apply_99 rfl ?_
        obtain ⟨g78, h77, e79, E⟩ := cV_some E
        refine z_invV (ci := 0) (y := y_Gr_eraseAll) (Mc := M_Gr_eraseAll) (av := [.ref x4]) (rest := []) rfl rfl ⟨zt_665, zt_666, zt_667, zt_49⟩ zk_Gr_eraseAll zy_Gr_eraseAll (by decide) (Nat.le_of_ble_eq_true rfl) (zkn_le hkn (Nat.le_of_ble_eq_true rfl) (Nat.le_of_ble_eq_true rfl)) rfl (Nat.le_of_ble_eq_true rfl) d_Mg_apply_101 g78 (m_Gr_eraseAll e79) ?_
        show Z X M_Mg_apply 1 6 h77 104 [(6, .int s0), (3, .ref x3), (4, .ref x4), (5, .ref x5)] []
        refine z_aload_n 1 d_Mg_apply_104 rfl rfl ?_
        refine z_aload 3 d_Mg_apply_105 rfl ?_
        obtain ⟨g81, h80, e82, E⟩ := cV_some E
        refine z_invV (ci := 0) (y := y_Gr_insertAll) (Mc := M_Gr_insertAll) (av := [.ref x5]) (rest := []) rfl rfl ⟨zt_670, zt_671, zt_672, zt_49⟩ zk_Gr_insertAll zy_Gr_insertAll (by decide) (Nat.le_of_ble_eq_true rfl) (zkn_le hkn (Nat.le_of_ble_eq_true rfl) (Nat.le_of_ble_eq_true rfl)) rfl (Nat.le_of_ble_eq_true rfl) d_Mg_apply_107 g81 (m_Gr_insertAll e82) ?_
        show Z X M_Mg_apply 1 6 h80 110 [(6, .int s0), (3, .ref x3), (4, .ref x4), (5, .ref x5)] []
        refine z_iconst (v := (1 : Int32)) d_Mg_apply_110 (by decide) ?_
        exact x_ireturn hQ rfl (zkn_le hkn (Nat.le_of_ble_eq_true rfl) (Nat.le_of_ble_eq_true rfl)) d_Mg_apply_111 E
      · refine z_lv [] rfl ?_
        exact (w_Mg_apply_b96 hQ hT hkn) h73 E
set_option maxRecDepth 100000 in
set_option maxHeartbeats 4000000 in
theorem w_Mg_apply_b38 {X : zX} {r : pT} {G : Nat} (hQ : zQx X r) (hT : zTOK X) (hkn : zkn X 1 6) : ∀ (x3 : Nat) (x4 : Nat) (s0 : Nat) (h : pH), f_Mg_apply_b38 G x3 x4 s0 h = some r → Z X M_Mg_apply 1 6 h 38 [(3, .ref x3), (4, .ref x4)] [.ref s0] := by
  intro x3 x4 s0 h E
  rw [f_Mg_apply_b38_eq] at E
  refine z_astore (lv2 := [(5, .ref s0), (3, .ref x3), (4, .ref x4)]) d_Mg_apply_38 (Nat.le_of_ble_eq_true rfl) rfl ?_
  refine z_aload_n 1 d_Mg_apply_40 rfl rfl ?_
  obtain ⟨g54, v56, h53, e55, E⟩ := cI_some E
  refine z_invV (ci := 0) (y := y_Gr_count) (Mc := M_Gr_count) (av := []) (rest := []) rfl rfl ⟨zt_310, zt_311, zt_312, zt_49⟩ zk_Gr_count zy_Gr_count (by decide) (Nat.le_of_ble_eq_true rfl) (zkn_le hkn (Nat.le_of_ble_eq_true rfl) (Nat.le_of_ble_eq_true rfl)) rfl (Nat.le_of_ble_eq_true rfl) d_Mg_apply_41 g54 (m_Gr_count e55) ?_
  show Z X M_Mg_apply 1 6 h53 44 [(5, .ref s0), (3, .ref x3), (4, .ref x4)] [.int v56]
  refine z_aload 2 d_Mg_apply_44 rfl ?_
  obtain ⟨g58, v60, h57, e59, E⟩ := cI_some E
  refine z_invV (ci := 0) (y := y_Gr_count) (Mc := M_Gr_count) (av := []) (rest := [.int v56]) rfl rfl ⟨zt_310, zt_311, zt_312, zt_49⟩ zk_Gr_count zy_Gr_count (by decide) (Nat.le_of_ble_eq_true rfl) (zkn_le hkn (Nat.le_of_ble_eq_true rfl) (Nat.le_of_ble_eq_true rfl)) rfl (Nat.le_of_ble_eq_true rfl) d_Mg_apply_46 g58 (m_Gr_count e59) ?_
  show Z X M_Mg_apply 1 6 h57 49 [(5, .ref s0), (3, .ref x3), (4, .ref x4)] [.int v60, .int v56]
  refine z_isub d_Mg_apply_49 ?_
  refine z_aload 0 d_Mg_apply_50 rfl ?_
  obtain ⟨g62, v64, h61, e63, E⟩ := cI_some E
  refine z_invV (ci := 0) (y := y_Gr_count) (Mc := M_Gr_count) (av := []) (rest := [.int (v56 - v60)]) rfl rfl ⟨zt_310, zt_311, zt_312, zt_49⟩ zk_Gr_count zy_Gr_count (by decide) (Nat.le_of_ble_eq_true rfl) (zkn_le hkn (Nat.le_of_ble_eq_true rfl) (Nat.le_of_ble_eq_true rfl)) rfl (Nat.le_of_ble_eq_true rfl) d_Mg_apply_52 g62 (m_Gr_count e63) ?_
  show Z X M_Mg_apply 1 6 h61 55 [(5, .ref s0), (3, .ref x3), (4, .ref x4)] [.int v64, .int (v56 - v60)]
  refine z_iadd d_Mg_apply_55 ?_
  refine z_bipush (v := (30 : Int32)) d_Mg_apply_56 (by decide) ?_
  refine z_ic_gt (tgt := 65) d_Mg_apply_58 (by decide) E (fun E => ?_) (fun E => ?_)
  · refine z_iconst (v := (0 : Int32)) d_Mg_apply_65 (by decide) ?_
    refine z_lv [1, 2, 0] rfl ?_
    exact (w_Mg_apply_b66 hQ hT hkn) x3 x4 s0 (0 : Int32) h61 E
  · refine z_iconst (v := (1 : Int32)) d_Mg_apply_61 (by decide) ?_
    refine z_goto (tgt := 66) d_Mg_apply_62 (by decide) ?_
    refine z_lv [1, 2, 0] rfl ?_
    exact (w_Mg_apply_b66 hQ hT hkn) x3 x4 s0 (1 : Int32) h61 E
set_option maxRecDepth 100000 in
set_option maxHeartbeats 4000000 in
theorem w_Mg_apply_b21 {X : zX} {r : pT} {G : Nat} (hQ : zQx X r) (hT : zTOK X) (hkn : zkn X 1 6) : ∀ (x0 : Nat) (x2 : Int32) (x3 : Nat) (s0 : Nat) (h : pH), f_Mg_apply_b21 G x0 x2 x3 s0 h = some r → Z X M_Mg_apply 1 6 h 21 [(0, .ref x0), (2, .int x2), (3, .ref x3)] [.ref s0] := by
  intro x0 x2 x3 s0 h E
  rw [f_Mg_apply_b21_eq] at E
  refine z_astore (lv2 := [(4, .ref s0), (0, .ref x0), (2, .int x2), (3, .ref x3)]) d_Mg_apply_21 (Nat.le_of_ble_eq_true rfl) rfl ?_
  refine z_iload_n 2 d_Mg_apply_23 rfl rfl ?_
  refine z_if_eq (y := 0) (tgt := 34) d_Mg_apply_24 (by decide) E (fun E => ?_) (fun E => ?_)
  · refine z_aload_n 1 d_Mg_apply_34 rfl rfl ?_
    refine z_getR (ci := 3) (j := 3) rfl (by decide) zf_Mg_23 d_Mg_apply_35 E (fun v51 _ E => ?_)
    refine z_lv [3, 0] rfl ?_
    exact (w_Mg_apply_b38 hQ hT hkn) x3 s0 v51 h E
  · refine z_aload_n 1 d_Mg_apply_27 rfl rfl ?_
    refine z_getR (ci := 3) (j := 2) rfl (by decide) zf_Mg_20 d_Mg_apply_28 E (fun v52 _ E => ?_)
    refine z_goto (tgt := 38) d_Mg_apply_31 (by decide) ?_
    refine z_lv [3, 0] rfl ?_
    exact (w_Mg_apply_b38 hQ hT hkn) x3 s0 v52 h E
set_option maxRecDepth 100000 in
set_option maxHeartbeats 4000000 in
theorem w_Mg_apply_b0 {X : zX} {r : pT} {G : Nat} (hQ : zQx X r) (hT : zTOK X) (hkn : zkn X 1 6) : ∀ (x0 : Nat) (x1 : Int32) (x2 : Int32) (h : pH), f_Mg_apply G x0 x1 x2 h = some r → Z X M_Mg_apply 0 0 h 0 [(0, .ref x0), (1, .int x1), (2, .int x2)] [] := by
  intro x0 x1 x2 h E
  rw [f_Mg_apply_eq] at E
  refine z_aload_n 0 d_Mg_apply_0 rfl rfl ?_
  refine z_iload_n 1 d_Mg_apply_1 rfl rfl ?_
  obtain ⟨g43, ⟨rc45, h42⟩, e44, kx46, kk47⟩ := tR_some E
  dsimp only at kx46 kk47
  refine x_invV (ci := 3) (y := y_Mg_graphAt) (Mc := M_Mg_graphAt) (av := [.int x1]) (rest := []) (mc1 := 1) (ms1 := 6) hQ hT rfl rfl ⟨zt_182, zt_184, zt_0, zt_48⟩ zk_Mg_graphAt zy_Mg_graphAt (by decide) (Nat.le_of_ble_eq_true rfl) (zkn_le hkn (Nat.le_of_ble_eq_true rfl) (Nat.le_of_ble_eq_true rfl)) rfl (Nat.le_of_ble_eq_true rfl) d_Mg_apply_2 g43 (m_Mg_graphAt (zTOK_l hT) e44) kx46 (fun w9 hw9 => ?_)
  obtain ⟨v48, rfl, E⟩ := kk47 w9 hw9
  show Z X M_Mg_apply 1 6 h42 5 [(0, .ref x0), (1, .int x1), (2, .int x2)] [.ref v48]
  refine z_astore_n (lv2 := [(3, .ref v48), (0, .ref x0), (1, .int x1), (2, .int x2)]) d_Mg_apply_5 rfl (Nat.le_of_ble_eq_true rfl) rfl ?_
  refine z_iload_n 3 d_Mg_apply_6 rfl rfl ?_
  refine z_if_eq (y := 0) (tgt := 17) d_Mg_apply_7 (by decide) E (fun E => ?_) (fun E => ?_)
  · refine z_aload_n 1 d_Mg_apply_17 rfl rfl ?_
    refine z_getR (ci := 3) (j := 2) rfl (by decide) zf_Mg_20 d_Mg_apply_18 E (fun v49 _ E => ?_)
    refine z_lv [1, 3, 0] rfl ?_
    exact (w_Mg_apply_b21 hQ hT hkn) x0 x2 v48 v49 h42 E
  · refine z_aload_n 1 d_Mg_apply_10 rfl rfl ?_
    refine z_getR (ci := 3) (j := 3) rfl (by decide) zf_Mg_23 d_Mg_apply_11 E (fun v50 _ E => ?_)
    refine z_goto (tgt := 21) d_Mg_apply_14 (by decide) ?_
    refine z_lv [1, 3, 0] rfl ?_
    exact (w_Mg_apply_b21 hQ hT hkn) x0 x2 v48 v50 h42 E
theorem m_Mg_apply {l : Launch} (hl0 : l.stackTraces = false) {G : Nat} {x0 : Nat} {x1 : Int32} {x2 : Int32} {h : pH} {r : pT} (E : f_Mg_apply G x0 x1 x2 h = some r) : zMetT l y_Mg_apply M_Mg_apply 1 6 [.ref x0, .int x1, .int x2] h r :=
  zMetT_of hl0 (by decide) rfl (Nat.le_of_ble_eq_true rfl) (fun X hT hQ hkn _ => w_Mg_apply_b0 hQ hT hkn x0 x1 x2 h E)

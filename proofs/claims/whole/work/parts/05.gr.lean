def y_Gr_count : MethodName := ⟨"MergeGraphs$Graph", "count", "()I"⟩
abbrev M_Gr_count : zM := (nR0, prog_3_method_2_code, 1, (some .int), 0)
set_option maxRecDepth 100000 in
theorem zk_Gr_count : Cond.code y_Gr_count (M_Gr_count).2.1 (M_Gr_count).2.2.1 (M_Gr_count).2.2.2.1 ∈ zTg := zmem 313 rfl rfl
theorem zy_Gr_count : (y_Gr_count).cls ≠ "java/lang/invoke/MethodHandle" ∧ (y_Gr_count).cls ≠ "java/lang/invoke/VarHandle" ∧ (parseMethodDescriptor (y_Gr_count).desc).map (fun d => d.parameters.length) = some 0 := by decide +kernel
theorem d_Gr_count_0 : decode prog_3_method_2_code 0 = .ok (.aload_n 0, 1) := by decide +kernel
theorem d_Gr_count_1 : decode prog_3_method_2_code 1 = .ok (.getfield 15, 3) := by decide +kernel
theorem d_Gr_count_4 : decode prog_3_method_2_code 4 = .ok (.ireturn, 1) := by decide +kernel
theorem zf_Gr_15 : Cond.fieldLink nR0 15 (nT0 1).1 (nT0 1).2.1 (nT0 1).2.2.1 ∈ zTg := zmem 75 (by decide +kernel) (by decide +kernel)
def y_Gr_at : MethodName := ⟨"MergeGraphs$Graph", "at", "(I)I"⟩
abbrev M_Gr_at : zM := (nR0, prog_3_method_3_code, 2, (some .int), 0)
set_option maxRecDepth 100000 in
theorem zk_Gr_at : Cond.code y_Gr_at (M_Gr_at).2.1 (M_Gr_at).2.2.1 (M_Gr_at).2.2.2.1 ∈ zTg := zmem 287 rfl rfl
theorem zy_Gr_at : (y_Gr_at).cls ≠ "java/lang/invoke/MethodHandle" ∧ (y_Gr_at).cls ≠ "java/lang/invoke/VarHandle" ∧ (parseMethodDescriptor (y_Gr_at).desc).map (fun d => d.parameters.length) = some 1 := by decide +kernel
theorem d_Gr_at_0 : decode prog_3_method_3_code 0 = .ok (.iload_n 1, 1) := by decide +kernel
theorem d_Gr_at_1 : decode prog_3_method_3_code 1 = .ok (.ifCond .lt 20, 3) := by decide +kernel
theorem d_Gr_at_4 : decode prog_3_method_3_code 4 = .ok (.iload_n 1, 1) := by decide +kernel
theorem d_Gr_at_5 : decode prog_3_method_3_code 5 = .ok (.aload_n 0, 1) := by decide +kernel
theorem d_Gr_at_6 : decode prog_3_method_3_code 6 = .ok (.getfield 15, 3) := by decide +kernel
theorem d_Gr_at_9 : decode prog_3_method_3_code 9 = .ok (.if_icmp .ge 12, 3) := by decide +kernel
theorem d_Gr_at_12 : decode prog_3_method_3_code 12 = .ok (.aload_n 0, 1) := by decide +kernel
theorem d_Gr_at_13 : decode prog_3_method_3_code 13 = .ok (.getfield 9, 3) := by decide +kernel
theorem d_Gr_at_16 : decode prog_3_method_3_code 16 = .ok (.iload_n 1, 1) := by decide +kernel
theorem d_Gr_at_17 : decode prog_3_method_3_code 17 = .ok (.iaload, 1) := by decide +kernel
theorem d_Gr_at_18 : decode prog_3_method_3_code 18 = .ok (.goto 4, 3) := by decide +kernel
theorem d_Gr_at_21 : decode prog_3_method_3_code 21 = .ok (.iconst (-1), 1) := by decide +kernel
theorem d_Gr_at_22 : decode prog_3_method_3_code 22 = .ok (.ireturn, 1) := by decide +kernel
theorem zf_Gr_9 : Cond.fieldLink nR0 9 (nT0 0).1 (nT0 0).2.1 (nT0 0).2.2.1 ∈ zTg := zmem 74 (by decide +kernel) (by decide +kernel)
def y_Gr_placeOf : MethodName := ⟨"MergeGraphs$Graph", "placeOf", "(I)I"⟩
abbrev M_Gr_placeOf : zM := (nR0, prog_3_method_5_code, 5, (some .int), 0)
set_option maxRecDepth 100000 in
theorem zk_Gr_placeOf : Cond.code y_Gr_placeOf (M_Gr_placeOf).2.1 (M_Gr_placeOf).2.2.1 (M_Gr_placeOf).2.2.2.1 ∈ zTg := zmem 283 rfl rfl
theorem zy_Gr_placeOf : (y_Gr_placeOf).cls ≠ "java/lang/invoke/MethodHandle" ∧ (y_Gr_placeOf).cls ≠ "java/lang/invoke/VarHandle" ∧ (parseMethodDescriptor (y_Gr_placeOf).desc).map (fun d => d.parameters.length) = some 1 := by decide +kernel
theorem d_Gr_placeOf_0 : decode prog_3_method_5_code 0 = .ok (.iconst 0, 1) := by decide +kernel
theorem d_Gr_placeOf_1 : decode prog_3_method_5_code 1 = .ok (.istore_n 2, 1) := by decide +kernel
theorem d_Gr_placeOf_2 : decode prog_3_method_5_code 2 = .ok (.bipush 16, 2) := by decide +kernel
theorem d_Gr_placeOf_4 : decode prog_3_method_5_code 4 = .ok (.istore_n 3, 1) := by decide +kernel
theorem d_Gr_placeOf_5 : decode prog_3_method_5_code 5 = .ok (.iload_n 3, 1) := by decide +kernel
theorem d_Gr_placeOf_6 : decode prog_3_method_5_code 6 = .ok (.ifCond .le 40, 3) := by decide +kernel
theorem d_Gr_placeOf_9 : decode prog_3_method_5_code 9 = .ok (.iload_n 2, 1) := by decide +kernel
theorem d_Gr_placeOf_10 : decode prog_3_method_5_code 10 = .ok (.iload_n 3, 1) := by decide +kernel
theorem d_Gr_placeOf_11 : decode prog_3_method_5_code 11 = .ok (.iadd, 1) := by decide +kernel
theorem d_Gr_placeOf_12 : decode prog_3_method_5_code 12 = .ok (.istore 4, 2) := by decide +kernel
theorem d_Gr_placeOf_14 : decode prog_3_method_5_code 14 = .ok (.iload 4, 2) := by decide +kernel
theorem d_Gr_placeOf_16 : decode prog_3_method_5_code 16 = .ok (.aload_n 0, 1) := by decide +kernel
theorem d_Gr_placeOf_17 : decode prog_3_method_5_code 17 = .ok (.getfield 15, 3) := by decide +kernel
theorem d_Gr_placeOf_20 : decode prog_3_method_5_code 20 = .ok (.if_icmp .gt 19, 3) := by decide +kernel
theorem d_Gr_placeOf_23 : decode prog_3_method_5_code 23 = .ok (.aload_n 0, 1) := by decide +kernel
theorem d_Gr_placeOf_24 : decode prog_3_method_5_code 24 = .ok (.getfield 9, 3) := by decide +kernel
theorem d_Gr_placeOf_27 : decode prog_3_method_5_code 27 = .ok (.iload 4, 2) := by decide +kernel
theorem d_Gr_placeOf_29 : decode prog_3_method_5_code 29 = .ok (.iconst 1, 1) := by decide +kernel
theorem d_Gr_placeOf_30 : decode prog_3_method_5_code 30 = .ok (.isub, 1) := by decide +kernel
theorem d_Gr_placeOf_31 : decode prog_3_method_5_code 31 = .ok (.iaload, 1) := by decide +kernel
theorem d_Gr_placeOf_32 : decode prog_3_method_5_code 32 = .ok (.iload_n 1, 1) := by decide +kernel
theorem d_Gr_placeOf_33 : decode prog_3_method_5_code 33 = .ok (.if_icmp .ge 6, 3) := by decide +kernel
theorem d_Gr_placeOf_36 : decode prog_3_method_5_code 36 = .ok (.iload 4, 2) := by decide +kernel
theorem d_Gr_placeOf_38 : decode prog_3_method_5_code 38 = .ok (.istore_n 2, 1) := by decide +kernel
theorem d_Gr_placeOf_39 : decode prog_3_method_5_code 39 = .ok (.iload_n 3, 1) := by decide +kernel
theorem d_Gr_placeOf_40 : decode prog_3_method_5_code 40 = .ok (.iconst 1, 1) := by decide +kernel
theorem d_Gr_placeOf_41 : decode prog_3_method_5_code 41 = .ok (.ishr, 1) := by decide +kernel
theorem d_Gr_placeOf_42 : decode prog_3_method_5_code 42 = .ok (.istore_n 3, 1) := by decide +kernel
theorem d_Gr_placeOf_43 : decode prog_3_method_5_code 43 = .ok (.goto (-38), 3) := by decide +kernel
theorem d_Gr_placeOf_46 : decode prog_3_method_5_code 46 = .ok (.iload_n 2, 1) := by decide +kernel
theorem d_Gr_placeOf_47 : decode prog_3_method_5_code 47 = .ok (.ireturn, 1) := by decide +kernel
def y_Gr_has : MethodName := ⟨"MergeGraphs$Graph", "has", "(I)Z"⟩
abbrev M_Gr_has : zM := (nR0, prog_3_method_4_code, 2, (some .boolean), 1)
set_option maxRecDepth 100000 in
theorem zk_Gr_has : Cond.code y_Gr_has (M_Gr_has).2.1 (M_Gr_has).2.2.1 (M_Gr_has).2.2.2.1 ∈ zTg := zmem 609 rfl rfl
theorem zy_Gr_has : (y_Gr_has).cls ≠ "java/lang/invoke/MethodHandle" ∧ (y_Gr_has).cls ≠ "java/lang/invoke/VarHandle" ∧ (parseMethodDescriptor (y_Gr_has).desc).map (fun d => d.parameters.length) = some 1 := by decide +kernel
theorem d_Gr_has_0 : decode prog_3_method_4_code 0 = .ok (.aload_n 0, 1) := by decide +kernel
theorem d_Gr_has_1 : decode prog_3_method_4_code 1 = .ok (.aload_n 0, 1) := by decide +kernel
theorem d_Gr_has_2 : decode prog_3_method_4_code 2 = .ok (.iload_n 1, 1) := by decide +kernel
theorem d_Gr_has_3 : decode prog_3_method_4_code 3 = .ok (.invokevirtual 19, 3) := by decide +kernel
theorem d_Gr_has_6 : decode prog_3_method_4_code 6 = .ok (.invokevirtual 23, 3) := by decide +kernel
theorem d_Gr_has_9 : decode prog_3_method_4_code 9 = .ok (.iload_n 1, 1) := by decide +kernel
theorem d_Gr_has_10 : decode prog_3_method_4_code 10 = .ok (.if_icmp .ne 7, 3) := by decide +kernel
theorem d_Gr_has_13 : decode prog_3_method_4_code 13 = .ok (.iconst 1, 1) := by decide +kernel
theorem d_Gr_has_14 : decode prog_3_method_4_code 14 = .ok (.goto 4, 3) := by decide +kernel
theorem d_Gr_has_17 : decode prog_3_method_4_code 17 = .ok (.iconst 0, 1) := by decide +kernel
theorem d_Gr_has_18 : decode prog_3_method_4_code 18 = .ok (.ireturn, 1) := by decide +kernel
theorem zt_2 : (Cond.selects "MergeGraphs$Graph" (⟨"MergeGraphs$Graph", "placeOf", "(I)I"⟩ : MethodName) (⟨"MergeGraphs$Graph", "placeOf", "(I)I"⟩ : MethodName)) ∈ zTg := zmem 2 (by decide +kernel) (by decide +kernel)
theorem zt_49 : (Cond.initialized "MergeGraphs$Graph") ∈ zTg := zmem 49 (by decide +kernel) (by decide +kernel)
theorem zt_280 : (Cond.methodLink "MergeGraphs$Graph" (19 : Nat) (⟨"MergeGraphs$Graph", "placeOf", "(I)I"⟩ : MethodName)) ∈ zTg := zmem 280 (by decide +kernel) (by decide +kernel)
theorem zt_282 : (Cond.instanceMethod (⟨"MergeGraphs$Graph", "placeOf", "(I)I"⟩ : MethodName)) ∈ zTg := zmem 282 (by decide +kernel) (by decide +kernel)
theorem zt_284 : (Cond.methodLink "MergeGraphs$Graph" (23 : Nat) (⟨"MergeGraphs$Graph", "at", "(I)I"⟩ : MethodName)) ∈ zTg := zmem 284 (by decide +kernel) (by decide +kernel)
theorem zt_285 : (Cond.instanceMethod (⟨"MergeGraphs$Graph", "at", "(I)I"⟩ : MethodName)) ∈ zTg := zmem 285 (by decide +kernel) (by decide +kernel)
theorem zt_286 : (Cond.selects "MergeGraphs$Graph" (⟨"MergeGraphs$Graph", "at", "(I)I"⟩ : MethodName) (⟨"MergeGraphs$Graph", "at", "(I)I"⟩ : MethodName)) ∈ zTg := zmem 286 (by decide +kernel) (by decide +kernel)
def y_Gr_insert : MethodName := ⟨"MergeGraphs$Graph", "insert", "(I)I"⟩
abbrev M_Gr_insert : zM := (nR0, prog_3_method_6_code, 4, (some .int), 1)
set_option maxRecDepth 100000 in
theorem zk_Gr_insert : Cond.code y_Gr_insert (M_Gr_insert).2.1 (M_Gr_insert).2.2.1 (M_Gr_insert).2.2.2.1 ∈ zTg := zmem 279 rfl rfl
theorem zy_Gr_insert : (y_Gr_insert).cls ≠ "java/lang/invoke/MethodHandle" ∧ (y_Gr_insert).cls ≠ "java/lang/invoke/VarHandle" ∧ (parseMethodDescriptor (y_Gr_insert).desc).map (fun d => d.parameters.length) = some 1 := by decide +kernel
theorem d_Gr_insert_0 : decode prog_3_method_6_code 0 = .ok (.aload_n 0, 1) := by decide +kernel
theorem d_Gr_insert_1 : decode prog_3_method_6_code 1 = .ok (.iload_n 1, 1) := by decide +kernel
theorem d_Gr_insert_2 : decode prog_3_method_6_code 2 = .ok (.invokevirtual 19, 3) := by decide +kernel
theorem d_Gr_insert_5 : decode prog_3_method_6_code 5 = .ok (.istore_n 2, 1) := by decide +kernel
theorem d_Gr_insert_6 : decode prog_3_method_6_code 6 = .ok (.aload_n 0, 1) := by decide +kernel
theorem d_Gr_insert_7 : decode prog_3_method_6_code 7 = .ok (.iload_n 2, 1) := by decide +kernel
theorem d_Gr_insert_8 : decode prog_3_method_6_code 8 = .ok (.invokevirtual 23, 3) := by decide +kernel
theorem d_Gr_insert_11 : decode prog_3_method_6_code 11 = .ok (.iload_n 1, 1) := by decide +kernel
theorem d_Gr_insert_12 : decode prog_3_method_6_code 12 = .ok (.if_icmp .ne 5, 3) := by decide +kernel
theorem d_Gr_insert_15 : decode prog_3_method_6_code 15 = .ok (.iconst 0, 1) := by decide +kernel
theorem d_Gr_insert_16 : decode prog_3_method_6_code 16 = .ok (.ireturn, 1) := by decide +kernel
theorem d_Gr_insert_17 : decode prog_3_method_6_code 17 = .ok (.aload_n 0, 1) := by decide +kernel
theorem d_Gr_insert_18 : decode prog_3_method_6_code 18 = .ok (.getfield 15, 3) := by decide +kernel
theorem d_Gr_insert_21 : decode prog_3_method_6_code 21 = .ok (.bipush 30, 2) := by decide +kernel
theorem d_Gr_insert_23 : decode prog_3_method_6_code 23 = .ok (.if_icmp .lt 5, 3) := by decide +kernel
theorem d_Gr_insert_26 : decode prog_3_method_6_code 26 = .ok (.iconst (-1), 1) := by decide +kernel
theorem d_Gr_insert_27 : decode prog_3_method_6_code 27 = .ok (.ireturn, 1) := by decide +kernel
theorem d_Gr_insert_28 : decode prog_3_method_6_code 28 = .ok (.aload_n 0, 1) := by decide +kernel
theorem d_Gr_insert_29 : decode prog_3_method_6_code 29 = .ok (.getfield 15, 3) := by decide +kernel
theorem d_Gr_insert_32 : decode prog_3_method_6_code 32 = .ok (.istore_n 3, 1) := by decide +kernel
theorem d_Gr_insert_33 : decode prog_3_method_6_code 33 = .ok (.iload_n 3, 1) := by decide +kernel
theorem d_Gr_insert_34 : decode prog_3_method_6_code 34 = .ok (.iload_n 2, 1) := by decide +kernel
theorem d_Gr_insert_35 : decode prog_3_method_6_code 35 = .ok (.if_icmp .le 23, 3) := by decide +kernel
theorem d_Gr_insert_38 : decode prog_3_method_6_code 38 = .ok (.aload_n 0, 1) := by decide +kernel
theorem d_Gr_insert_39 : decode prog_3_method_6_code 39 = .ok (.getfield 9, 3) := by decide +kernel
theorem d_Gr_insert_42 : decode prog_3_method_6_code 42 = .ok (.iload_n 3, 1) := by decide +kernel
theorem d_Gr_insert_43 : decode prog_3_method_6_code 43 = .ok (.aload_n 0, 1) := by decide +kernel
theorem d_Gr_insert_44 : decode prog_3_method_6_code 44 = .ok (.getfield 9, 3) := by decide +kernel
theorem d_Gr_insert_47 : decode prog_3_method_6_code 47 = .ok (.iload_n 3, 1) := by decide +kernel
theorem d_Gr_insert_48 : decode prog_3_method_6_code 48 = .ok (.iconst 1, 1) := by decide +kernel
theorem d_Gr_insert_49 : decode prog_3_method_6_code 49 = .ok (.isub, 1) := by decide +kernel
theorem d_Gr_insert_50 : decode prog_3_method_6_code 50 = .ok (.iaload, 1) := by decide +kernel
theorem d_Gr_insert_51 : decode prog_3_method_6_code 51 = .ok (.iastore, 1) := by decide +kernel
theorem d_Gr_insert_52 : decode prog_3_method_6_code 52 = .ok (.iinc 3 (-1), 3) := by decide +kernel
theorem d_Gr_insert_55 : decode prog_3_method_6_code 55 = .ok (.goto (-22), 3) := by decide +kernel
theorem d_Gr_insert_58 : decode prog_3_method_6_code 58 = .ok (.aload_n 0, 1) := by decide +kernel
theorem d_Gr_insert_59 : decode prog_3_method_6_code 59 = .ok (.getfield 9, 3) := by decide +kernel
theorem d_Gr_insert_62 : decode prog_3_method_6_code 62 = .ok (.iload_n 2, 1) := by decide +kernel
theorem d_Gr_insert_63 : decode prog_3_method_6_code 63 = .ok (.iload_n 1, 1) := by decide +kernel
theorem d_Gr_insert_64 : decode prog_3_method_6_code 64 = .ok (.iastore, 1) := by decide +kernel
theorem d_Gr_insert_65 : decode prog_3_method_6_code 65 = .ok (.aload_n 0, 1) := by decide +kernel
theorem d_Gr_insert_66 : decode prog_3_method_6_code 66 = .ok (.dup, 1) := by decide +kernel
theorem d_Gr_insert_67 : decode prog_3_method_6_code 67 = .ok (.getfield 15, 3) := by decide +kernel
theorem d_Gr_insert_70 : decode prog_3_method_6_code 70 = .ok (.iconst 1, 1) := by decide +kernel
theorem d_Gr_insert_71 : decode prog_3_method_6_code 71 = .ok (.iadd, 1) := by decide +kernel
theorem d_Gr_insert_72 : decode prog_3_method_6_code 72 = .ok (.putfield 15, 3) := by decide +kernel
theorem d_Gr_insert_75 : decode prog_3_method_6_code 75 = .ok (.iconst 1, 1) := by decide +kernel
theorem d_Gr_insert_76 : decode prog_3_method_6_code 76 = .ok (.ireturn, 1) := by decide +kernel
def y_Gr_erase : MethodName := ⟨"MergeGraphs$Graph", "erase", "(I)I"⟩
abbrev M_Gr_erase : zM := (nR0, prog_3_method_7_code, 4, (some .int), 1)
set_option maxRecDepth 100000 in
theorem zk_Gr_erase : Cond.code y_Gr_erase (M_Gr_erase).2.1 (M_Gr_erase).2.2.1 (M_Gr_erase).2.2.2.1 ∈ zTg := zmem 298 rfl rfl
theorem zy_Gr_erase : (y_Gr_erase).cls ≠ "java/lang/invoke/MethodHandle" ∧ (y_Gr_erase).cls ≠ "java/lang/invoke/VarHandle" ∧ (parseMethodDescriptor (y_Gr_erase).desc).map (fun d => d.parameters.length) = some 1 := by decide +kernel
theorem d_Gr_erase_0 : decode prog_3_method_7_code 0 = .ok (.aload_n 0, 1) := by decide +kernel
theorem d_Gr_erase_1 : decode prog_3_method_7_code 1 = .ok (.iload_n 1, 1) := by decide +kernel
theorem d_Gr_erase_2 : decode prog_3_method_7_code 2 = .ok (.invokevirtual 19, 3) := by decide +kernel
theorem d_Gr_erase_5 : decode prog_3_method_7_code 5 = .ok (.istore_n 2, 1) := by decide +kernel
theorem d_Gr_erase_6 : decode prog_3_method_7_code 6 = .ok (.aload_n 0, 1) := by decide +kernel
theorem d_Gr_erase_7 : decode prog_3_method_7_code 7 = .ok (.iload_n 2, 1) := by decide +kernel
theorem d_Gr_erase_8 : decode prog_3_method_7_code 8 = .ok (.invokevirtual 23, 3) := by decide +kernel
theorem d_Gr_erase_11 : decode prog_3_method_7_code 11 = .ok (.iload_n 1, 1) := by decide +kernel
theorem d_Gr_erase_12 : decode prog_3_method_7_code 12 = .ok (.if_icmp .eq 5, 3) := by decide +kernel
theorem d_Gr_erase_15 : decode prog_3_method_7_code 15 = .ok (.iconst 0, 1) := by decide +kernel
theorem d_Gr_erase_16 : decode prog_3_method_7_code 16 = .ok (.ireturn, 1) := by decide +kernel
theorem d_Gr_erase_17 : decode prog_3_method_7_code 17 = .ok (.aload_n 0, 1) := by decide +kernel
theorem d_Gr_erase_18 : decode prog_3_method_7_code 18 = .ok (.dup, 1) := by decide +kernel
theorem d_Gr_erase_19 : decode prog_3_method_7_code 19 = .ok (.getfield 15, 3) := by decide +kernel
theorem d_Gr_erase_22 : decode prog_3_method_7_code 22 = .ok (.iconst 1, 1) := by decide +kernel
theorem d_Gr_erase_23 : decode prog_3_method_7_code 23 = .ok (.isub, 1) := by decide +kernel
theorem d_Gr_erase_24 : decode prog_3_method_7_code 24 = .ok (.putfield 15, 3) := by decide +kernel
theorem d_Gr_erase_27 : decode prog_3_method_7_code 27 = .ok (.iload_n 2, 1) := by decide +kernel
theorem d_Gr_erase_28 : decode prog_3_method_7_code 28 = .ok (.istore_n 3, 1) := by decide +kernel
theorem d_Gr_erase_29 : decode prog_3_method_7_code 29 = .ok (.iload_n 3, 1) := by decide +kernel
theorem d_Gr_erase_30 : decode prog_3_method_7_code 30 = .ok (.aload_n 0, 1) := by decide +kernel
theorem d_Gr_erase_31 : decode prog_3_method_7_code 31 = .ok (.getfield 15, 3) := by decide +kernel
theorem d_Gr_erase_34 : decode prog_3_method_7_code 34 = .ok (.if_icmp .ge 23, 3) := by decide +kernel
theorem d_Gr_erase_37 : decode prog_3_method_7_code 37 = .ok (.aload_n 0, 1) := by decide +kernel
theorem d_Gr_erase_38 : decode prog_3_method_7_code 38 = .ok (.getfield 9, 3) := by decide +kernel
theorem d_Gr_erase_41 : decode prog_3_method_7_code 41 = .ok (.iload_n 3, 1) := by decide +kernel
theorem d_Gr_erase_42 : decode prog_3_method_7_code 42 = .ok (.aload_n 0, 1) := by decide +kernel
theorem d_Gr_erase_43 : decode prog_3_method_7_code 43 = .ok (.getfield 9, 3) := by decide +kernel
theorem d_Gr_erase_46 : decode prog_3_method_7_code 46 = .ok (.iload_n 3, 1) := by decide +kernel
theorem d_Gr_erase_47 : decode prog_3_method_7_code 47 = .ok (.iconst 1, 1) := by decide +kernel
theorem d_Gr_erase_48 : decode prog_3_method_7_code 48 = .ok (.iadd, 1) := by decide +kernel
theorem d_Gr_erase_49 : decode prog_3_method_7_code 49 = .ok (.iaload, 1) := by decide +kernel
theorem d_Gr_erase_50 : decode prog_3_method_7_code 50 = .ok (.iastore, 1) := by decide +kernel
theorem d_Gr_erase_51 : decode prog_3_method_7_code 51 = .ok (.iinc 3 1, 3) := by decide +kernel
theorem d_Gr_erase_54 : decode prog_3_method_7_code 54 = .ok (.goto (-25), 3) := by decide +kernel
theorem d_Gr_erase_57 : decode prog_3_method_7_code 57 = .ok (.iconst 1, 1) := by decide +kernel
theorem d_Gr_erase_58 : decode prog_3_method_7_code 58 = .ok (.ireturn, 1) := by decide +kernel
def y_Gr_clear : MethodName := ⟨"MergeGraphs$Graph", "clear", "()V"⟩
abbrev M_Gr_clear : zM := (nR0, prog_3_method_8_code, 1, none, 0)
set_option maxRecDepth 100000 in
theorem zk_Gr_clear : Cond.code y_Gr_clear (M_Gr_clear).2.1 (M_Gr_clear).2.2.1 (M_Gr_clear).2.2.2.1 ∈ zTg := zmem 571 rfl rfl
theorem zy_Gr_clear : (y_Gr_clear).cls ≠ "java/lang/invoke/MethodHandle" ∧ (y_Gr_clear).cls ≠ "java/lang/invoke/VarHandle" ∧ (parseMethodDescriptor (y_Gr_clear).desc).map (fun d => d.parameters.length) = some 0 := by decide +kernel
theorem d_Gr_clear_0 : decode prog_3_method_8_code 0 = .ok (.aload_n 0, 1) := by decide +kernel
theorem d_Gr_clear_1 : decode prog_3_method_8_code 1 = .ok (.iconst 0, 1) := by decide +kernel
theorem d_Gr_clear_2 : decode prog_3_method_8_code 2 = .ok (.putfield 15, 3) := by decide +kernel
theorem d_Gr_clear_5 : decode prog_3_method_8_code 5 = .ok (.return_, 1) := by decide +kernel
def y_Gr_become : MethodName := ⟨"MergeGraphs$Graph", "become", "(LMergeGraphs$Graph;)V"⟩
abbrev M_Gr_become : zM := (nR0, prog_3_method_9_code, 3, none, 0)
set_option maxRecDepth 100000 in
theorem zk_Gr_become : Cond.code y_Gr_become (M_Gr_become).2.1 (M_Gr_become).2.2.1 (M_Gr_become).2.2.2.1 ∈ zTg := zmem 309 rfl rfl
theorem zy_Gr_become : (y_Gr_become).cls ≠ "java/lang/invoke/MethodHandle" ∧ (y_Gr_become).cls ≠ "java/lang/invoke/VarHandle" ∧ (parseMethodDescriptor (y_Gr_become).desc).map (fun d => d.parameters.length) = some 1 := by decide +kernel
theorem d_Gr_become_0 : decode prog_3_method_9_code 0 = .ok (.aload_n 0, 1) := by decide +kernel
theorem d_Gr_become_1 : decode prog_3_method_9_code 1 = .ok (.aload_n 1, 1) := by decide +kernel
theorem d_Gr_become_2 : decode prog_3_method_9_code 2 = .ok (.getfield 15, 3) := by decide +kernel
theorem d_Gr_become_5 : decode prog_3_method_9_code 5 = .ok (.putfield 15, 3) := by decide +kernel
theorem d_Gr_become_8 : decode prog_3_method_9_code 8 = .ok (.iconst 0, 1) := by decide +kernel
theorem d_Gr_become_9 : decode prog_3_method_9_code 9 = .ok (.istore_n 2, 1) := by decide +kernel
theorem d_Gr_become_10 : decode prog_3_method_9_code 10 = .ok (.iload_n 2, 1) := by decide +kernel
theorem d_Gr_become_11 : decode prog_3_method_9_code 11 = .ok (.aload_n 0, 1) := by decide +kernel
theorem d_Gr_become_12 : decode prog_3_method_9_code 12 = .ok (.getfield 15, 3) := by decide +kernel
theorem d_Gr_become_15 : decode prog_3_method_9_code 15 = .ok (.if_icmp .ge 21, 3) := by decide +kernel
theorem d_Gr_become_18 : decode prog_3_method_9_code 18 = .ok (.aload_n 0, 1) := by decide +kernel
theorem d_Gr_become_19 : decode prog_3_method_9_code 19 = .ok (.getfield 9, 3) := by decide +kernel
theorem d_Gr_become_22 : decode prog_3_method_9_code 22 = .ok (.iload_n 2, 1) := by decide +kernel
theorem d_Gr_become_23 : decode prog_3_method_9_code 23 = .ok (.aload_n 1, 1) := by decide +kernel
theorem d_Gr_become_24 : decode prog_3_method_9_code 24 = .ok (.getfield 9, 3) := by decide +kernel
theorem d_Gr_become_27 : decode prog_3_method_9_code 27 = .ok (.iload_n 2, 1) := by decide +kernel
theorem d_Gr_become_28 : decode prog_3_method_9_code 28 = .ok (.iaload, 1) := by decide +kernel
theorem d_Gr_become_29 : decode prog_3_method_9_code 29 = .ok (.iastore, 1) := by decide +kernel
theorem d_Gr_become_30 : decode prog_3_method_9_code 30 = .ok (.iinc 2 1, 3) := by decide +kernel
theorem d_Gr_become_33 : decode prog_3_method_9_code 33 = .ok (.goto (-23), 3) := by decide +kernel
theorem d_Gr_become_36 : decode prog_3_method_9_code 36 = .ok (.return_, 1) := by decide +kernel
def y_Gr_isSameRow : MethodName := ⟨"MergeGraphs$Graph", "isSameRow", "([I)Z"⟩
abbrev M_Gr_isSameRow : zM := (nR0, prog_3_method_11_code, 3, (some .boolean), 0)
set_option maxRecDepth 100000 in
theorem zk_Gr_isSameRow : Cond.code y_Gr_isSameRow (M_Gr_isSameRow).2.1 (M_Gr_isSameRow).2.2.1 (M_Gr_isSameRow).2.2.2.1 ∈ zTg := zmem 482 rfl rfl
theorem zy_Gr_isSameRow : (y_Gr_isSameRow).cls ≠ "java/lang/invoke/MethodHandle" ∧ (y_Gr_isSameRow).cls ≠ "java/lang/invoke/VarHandle" ∧ (parseMethodDescriptor (y_Gr_isSameRow).desc).map (fun d => d.parameters.length) = some 1 := by decide +kernel
theorem d_Gr_isSameRow_0 : decode prog_3_method_11_code 0 = .ok (.iconst 0, 1) := by decide +kernel
theorem d_Gr_isSameRow_1 : decode prog_3_method_11_code 1 = .ok (.istore_n 2, 1) := by decide +kernel
theorem d_Gr_isSameRow_2 : decode prog_3_method_11_code 2 = .ok (.iload_n 2, 1) := by decide +kernel
theorem d_Gr_isSameRow_3 : decode prog_3_method_11_code 3 = .ok (.aload_n 0, 1) := by decide +kernel
theorem d_Gr_isSameRow_4 : decode prog_3_method_11_code 4 = .ok (.getfield 15, 3) := by decide +kernel
theorem d_Gr_isSameRow_7 : decode prog_3_method_11_code 7 = .ok (.if_icmp .ge 29, 3) := by decide +kernel
theorem d_Gr_isSameRow_10 : decode prog_3_method_11_code 10 = .ok (.iload_n 2, 1) := by decide +kernel
theorem d_Gr_isSameRow_11 : decode prog_3_method_11_code 11 = .ok (.aload_n 1, 1) := by decide +kernel
theorem d_Gr_isSameRow_12 : decode prog_3_method_11_code 12 = .ok (.arraylength, 1) := by decide +kernel
theorem d_Gr_isSameRow_13 : decode prog_3_method_11_code 13 = .ok (.if_icmp .ge 23, 3) := by decide +kernel
theorem d_Gr_isSameRow_16 : decode prog_3_method_11_code 16 = .ok (.aload_n 0, 1) := by decide +kernel
theorem d_Gr_isSameRow_17 : decode prog_3_method_11_code 17 = .ok (.getfield 9, 3) := by decide +kernel
theorem d_Gr_isSameRow_20 : decode prog_3_method_11_code 20 = .ok (.iload_n 2, 1) := by decide +kernel
theorem d_Gr_isSameRow_21 : decode prog_3_method_11_code 21 = .ok (.iaload, 1) := by decide +kernel
theorem d_Gr_isSameRow_22 : decode prog_3_method_11_code 22 = .ok (.aload_n 1, 1) := by decide +kernel
theorem d_Gr_isSameRow_23 : decode prog_3_method_11_code 23 = .ok (.iload_n 2, 1) := by decide +kernel
theorem d_Gr_isSameRow_24 : decode prog_3_method_11_code 24 = .ok (.iaload, 1) := by decide +kernel
theorem d_Gr_isSameRow_25 : decode prog_3_method_11_code 25 = .ok (.if_icmp .eq 5, 3) := by decide +kernel
theorem d_Gr_isSameRow_28 : decode prog_3_method_11_code 28 = .ok (.iconst 0, 1) := by decide +kernel
theorem d_Gr_isSameRow_29 : decode prog_3_method_11_code 29 = .ok (.ireturn, 1) := by decide +kernel
theorem d_Gr_isSameRow_30 : decode prog_3_method_11_code 30 = .ok (.iinc 2 1, 3) := by decide +kernel
theorem d_Gr_isSameRow_33 : decode prog_3_method_11_code 33 = .ok (.goto (-31), 3) := by decide +kernel
theorem d_Gr_isSameRow_36 : decode prog_3_method_11_code 36 = .ok (.iconst 1, 1) := by decide +kernel
theorem d_Gr_isSameRow_37 : decode prog_3_method_11_code 37 = .ok (.ireturn, 1) := by decide +kernel
def y_Gr_isSame : MethodName := ⟨"MergeGraphs$Graph", "isSame", "(LMergeGraphs$Graph;)Z"⟩
abbrev M_Gr_isSame : zM := (nR0, prog_3_method_10_code, 2, (some .boolean), 1)
set_option maxRecDepth 100000 in
theorem zk_Gr_isSame : Cond.code y_Gr_isSame (M_Gr_isSame).2.1 (M_Gr_isSame).2.2.1 (M_Gr_isSame).2.2.2.1 ∈ zTg := zmem 478 rfl rfl
theorem zy_Gr_isSame : (y_Gr_isSame).cls ≠ "java/lang/invoke/MethodHandle" ∧ (y_Gr_isSame).cls ≠ "java/lang/invoke/VarHandle" ∧ (parseMethodDescriptor (y_Gr_isSame).desc).map (fun d => d.parameters.length) = some 1 := by decide +kernel
theorem d_Gr_isSame_0 : decode prog_3_method_10_code 0 = .ok (.aload_n 0, 1) := by decide +kernel
theorem d_Gr_isSame_1 : decode prog_3_method_10_code 1 = .ok (.getfield 15, 3) := by decide +kernel
theorem d_Gr_isSame_4 : decode prog_3_method_10_code 4 = .ok (.aload_n 1, 1) := by decide +kernel
theorem d_Gr_isSame_5 : decode prog_3_method_10_code 5 = .ok (.getfield 15, 3) := by decide +kernel
theorem d_Gr_isSame_8 : decode prog_3_method_10_code 8 = .ok (.if_icmp .ne 18, 3) := by decide +kernel
theorem d_Gr_isSame_11 : decode prog_3_method_10_code 11 = .ok (.aload_n 0, 1) := by decide +kernel
theorem d_Gr_isSame_12 : decode prog_3_method_10_code 12 = .ok (.aload_n 1, 1) := by decide +kernel
theorem d_Gr_isSame_13 : decode prog_3_method_10_code 13 = .ok (.getfield 9, 3) := by decide +kernel
theorem d_Gr_isSame_16 : decode prog_3_method_10_code 16 = .ok (.invokevirtual 26, 3) := by decide +kernel
theorem d_Gr_isSame_19 : decode prog_3_method_10_code 19 = .ok (.ifCond .eq 7, 3) := by decide +kernel
theorem d_Gr_isSame_22 : decode prog_3_method_10_code 22 = .ok (.iconst 1, 1) := by decide +kernel
theorem d_Gr_isSame_23 : decode prog_3_method_10_code 23 = .ok (.goto 4, 3) := by decide +kernel
theorem d_Gr_isSame_26 : decode prog_3_method_10_code 26 = .ok (.iconst 0, 1) := by decide +kernel
theorem d_Gr_isSame_27 : decode prog_3_method_10_code 27 = .ok (.ireturn, 1) := by decide +kernel
theorem zt_479 : (Cond.methodLink "MergeGraphs$Graph" (26 : Nat) (⟨"MergeGraphs$Graph", "isSameRow", "([I)Z"⟩ : MethodName)) ∈ zTg := zmem 479 (by decide +kernel) (by decide +kernel)
theorem zt_480 : (Cond.instanceMethod (⟨"MergeGraphs$Graph", "isSameRow", "([I)Z"⟩ : MethodName)) ∈ zTg := zmem 480 (by decide +kernel) (by decide +kernel)
theorem zt_481 : (Cond.selects "MergeGraphs$Graph" (⟨"MergeGraphs$Graph", "isSameRow", "([I)Z"⟩ : MethodName) (⟨"MergeGraphs$Graph", "isSameRow", "([I)Z"⟩ : MethodName)) ∈ zTg := zmem 481 (by decide +kernel) (by decide +kernel)
def y_Gr_countShared : MethodName := ⟨"MergeGraphs$Graph", "countShared", "(LMergeGraphs$Graph;)I"⟩
abbrev M_Gr_countShared : zM := (nR0, prog_3_method_12_code, 4, (some .int), 2)
set_option maxRecDepth 100000 in
theorem zk_Gr_countShared : Cond.code y_Gr_countShared (M_Gr_countShared).2.1 (M_Gr_countShared).2.2.1 (M_Gr_countShared).2.2.2.1 ∈ zTg := zmem 664 rfl rfl
theorem zy_Gr_countShared : (y_Gr_countShared).cls ≠ "java/lang/invoke/MethodHandle" ∧ (y_Gr_countShared).cls ≠ "java/lang/invoke/VarHandle" ∧ (parseMethodDescriptor (y_Gr_countShared).desc).map (fun d => d.parameters.length) = some 1 := by decide +kernel
theorem d_Gr_countShared_0 : decode prog_3_method_12_code 0 = .ok (.iconst 0, 1) := by decide +kernel
theorem d_Gr_countShared_1 : decode prog_3_method_12_code 1 = .ok (.istore_n 2, 1) := by decide +kernel
theorem d_Gr_countShared_2 : decode prog_3_method_12_code 2 = .ok (.iconst 0, 1) := by decide +kernel
theorem d_Gr_countShared_3 : decode prog_3_method_12_code 3 = .ok (.istore_n 3, 1) := by decide +kernel
theorem d_Gr_countShared_4 : decode prog_3_method_12_code 4 = .ok (.iload_n 3, 1) := by decide +kernel
theorem d_Gr_countShared_5 : decode prog_3_method_12_code 5 = .ok (.aload_n 0, 1) := by decide +kernel
theorem d_Gr_countShared_6 : decode prog_3_method_12_code 6 = .ok (.getfield 15, 3) := by decide +kernel
theorem d_Gr_countShared_9 : decode prog_3_method_12_code 9 = .ok (.if_icmp .ge 25, 3) := by decide +kernel
theorem d_Gr_countShared_12 : decode prog_3_method_12_code 12 = .ok (.aload_n 1, 1) := by decide +kernel
theorem d_Gr_countShared_13 : decode prog_3_method_12_code 13 = .ok (.aload_n 0, 1) := by decide +kernel
theorem d_Gr_countShared_14 : decode prog_3_method_12_code 14 = .ok (.getfield 9, 3) := by decide +kernel
theorem d_Gr_countShared_17 : decode prog_3_method_12_code 17 = .ok (.iload_n 3, 1) := by decide +kernel
theorem d_Gr_countShared_18 : decode prog_3_method_12_code 18 = .ok (.iaload, 1) := by decide +kernel
theorem d_Gr_countShared_19 : decode prog_3_method_12_code 19 = .ok (.invokevirtual 30, 3) := by decide +kernel
theorem d_Gr_countShared_22 : decode prog_3_method_12_code 22 = .ok (.ifCond .eq 6, 3) := by decide +kernel
theorem d_Gr_countShared_25 : decode prog_3_method_12_code 25 = .ok (.iinc 2 1, 3) := by decide +kernel
theorem d_Gr_countShared_28 : decode prog_3_method_12_code 28 = .ok (.iinc 3 1, 3) := by decide +kernel
theorem d_Gr_countShared_31 : decode prog_3_method_12_code 31 = .ok (.goto (-27), 3) := by decide +kernel
theorem d_Gr_countShared_34 : decode prog_3_method_12_code 34 = .ok (.iload_n 2, 1) := by decide +kernel
theorem d_Gr_countShared_35 : decode prog_3_method_12_code 35 = .ok (.ireturn, 1) := by decide +kernel
theorem zt_606 : (Cond.methodLink "MergeGraphs$Graph" (30 : Nat) (⟨"MergeGraphs$Graph", "has", "(I)Z"⟩ : MethodName)) ∈ zTg := zmem 606 (by decide +kernel) (by decide +kernel)
theorem zt_607 : (Cond.instanceMethod (⟨"MergeGraphs$Graph", "has", "(I)Z"⟩ : MethodName)) ∈ zTg := zmem 607 (by decide +kernel) (by decide +kernel)
theorem zt_608 : (Cond.selects "MergeGraphs$Graph" (⟨"MergeGraphs$Graph", "has", "(I)Z"⟩ : MethodName) (⟨"MergeGraphs$Graph", "has", "(I)Z"⟩ : MethodName)) ∈ zTg := zmem 608 (by decide +kernel) (by decide +kernel)
def y_Gr_eraseAll : MethodName := ⟨"MergeGraphs$Graph", "eraseAll", "(LMergeGraphs$Graph;)V"⟩
abbrev M_Gr_eraseAll : zM := (nR0, prog_3_method_13_code, 3, none, 2)
set_option maxRecDepth 100000 in
theorem zk_Gr_eraseAll : Cond.code y_Gr_eraseAll (M_Gr_eraseAll).2.1 (M_Gr_eraseAll).2.2.1 (M_Gr_eraseAll).2.2.2.1 ∈ zTg := zmem 668 rfl rfl
theorem zy_Gr_eraseAll : (y_Gr_eraseAll).cls ≠ "java/lang/invoke/MethodHandle" ∧ (y_Gr_eraseAll).cls ≠ "java/lang/invoke/VarHandle" ∧ (parseMethodDescriptor (y_Gr_eraseAll).desc).map (fun d => d.parameters.length) = some 1 := by decide +kernel
theorem d_Gr_eraseAll_0 : decode prog_3_method_13_code 0 = .ok (.iconst 0, 1) := by decide +kernel
theorem d_Gr_eraseAll_1 : decode prog_3_method_13_code 1 = .ok (.istore_n 2, 1) := by decide +kernel
theorem d_Gr_eraseAll_2 : decode prog_3_method_13_code 2 = .ok (.iload_n 2, 1) := by decide +kernel
theorem d_Gr_eraseAll_3 : decode prog_3_method_13_code 3 = .ok (.aload_n 1, 1) := by decide +kernel
theorem d_Gr_eraseAll_4 : decode prog_3_method_13_code 4 = .ok (.getfield 15, 3) := by decide +kernel
theorem d_Gr_eraseAll_7 : decode prog_3_method_13_code 7 = .ok (.if_icmp .ge 20, 3) := by decide +kernel
theorem d_Gr_eraseAll_10 : decode prog_3_method_13_code 10 = .ok (.aload_n 0, 1) := by decide +kernel
theorem d_Gr_eraseAll_11 : decode prog_3_method_13_code 11 = .ok (.aload_n 1, 1) := by decide +kernel
theorem d_Gr_eraseAll_12 : decode prog_3_method_13_code 12 = .ok (.getfield 9, 3) := by decide +kernel
theorem d_Gr_eraseAll_15 : decode prog_3_method_13_code 15 = .ok (.iload_n 2, 1) := by decide +kernel
theorem d_Gr_eraseAll_16 : decode prog_3_method_13_code 16 = .ok (.iaload, 1) := by decide +kernel
theorem d_Gr_eraseAll_17 : decode prog_3_method_13_code 17 = .ok (.invokevirtual 34, 3) := by decide +kernel
theorem d_Gr_eraseAll_20 : decode prog_3_method_13_code 20 = .ok (.pop, 1) := by decide +kernel
theorem d_Gr_eraseAll_21 : decode prog_3_method_13_code 21 = .ok (.iinc 2 1, 3) := by decide +kernel
theorem d_Gr_eraseAll_24 : decode prog_3_method_13_code 24 = .ok (.goto (-22), 3) := by decide +kernel
theorem d_Gr_eraseAll_27 : decode prog_3_method_13_code 27 = .ok (.return_, 1) := by decide +kernel
theorem zt_296 : (Cond.instanceMethod (⟨"MergeGraphs$Graph", "erase", "(I)I"⟩ : MethodName)) ∈ zTg := zmem 296 (by decide +kernel) (by decide +kernel)
theorem zt_297 : (Cond.selects "MergeGraphs$Graph" (⟨"MergeGraphs$Graph", "erase", "(I)I"⟩ : MethodName) (⟨"MergeGraphs$Graph", "erase", "(I)I"⟩ : MethodName)) ∈ zTg := zmem 297 (by decide +kernel) (by decide +kernel)
theorem zt_669 : (Cond.methodLink "MergeGraphs$Graph" (34 : Nat) (⟨"MergeGraphs$Graph", "erase", "(I)I"⟩ : MethodName)) ∈ zTg := zmem 669 (by decide +kernel) (by decide +kernel)
def y_Gr_insertAll : MethodName := ⟨"MergeGraphs$Graph", "insertAll", "(LMergeGraphs$Graph;)V"⟩
abbrev M_Gr_insertAll : zM := (nR0, prog_3_method_14_code, 3, none, 2)
set_option maxRecDepth 100000 in
theorem zk_Gr_insertAll : Cond.code y_Gr_insertAll (M_Gr_insertAll).2.1 (M_Gr_insertAll).2.2.1 (M_Gr_insertAll).2.2.2.1 ∈ zTg := zmem 673 rfl rfl
theorem zy_Gr_insertAll : (y_Gr_insertAll).cls ≠ "java/lang/invoke/MethodHandle" ∧ (y_Gr_insertAll).cls ≠ "java/lang/invoke/VarHandle" ∧ (parseMethodDescriptor (y_Gr_insertAll).desc).map (fun d => d.parameters.length) = some 1 := by decide +kernel
theorem d_Gr_insertAll_0 : decode prog_3_method_14_code 0 = .ok (.iconst 0, 1) := by decide +kernel
theorem d_Gr_insertAll_1 : decode prog_3_method_14_code 1 = .ok (.istore_n 2, 1) := by decide +kernel
theorem d_Gr_insertAll_2 : decode prog_3_method_14_code 2 = .ok (.iload_n 2, 1) := by decide +kernel
theorem d_Gr_insertAll_3 : decode prog_3_method_14_code 3 = .ok (.aload_n 1, 1) := by decide +kernel
theorem d_Gr_insertAll_4 : decode prog_3_method_14_code 4 = .ok (.getfield 15, 3) := by decide +kernel
theorem d_Gr_insertAll_7 : decode prog_3_method_14_code 7 = .ok (.if_icmp .ge 20, 3) := by decide +kernel
theorem d_Gr_insertAll_10 : decode prog_3_method_14_code 10 = .ok (.aload_n 0, 1) := by decide +kernel
theorem d_Gr_insertAll_11 : decode prog_3_method_14_code 11 = .ok (.aload_n 1, 1) := by decide +kernel
theorem d_Gr_insertAll_12 : decode prog_3_method_14_code 12 = .ok (.getfield 9, 3) := by decide +kernel
theorem d_Gr_insertAll_15 : decode prog_3_method_14_code 15 = .ok (.iload_n 2, 1) := by decide +kernel
theorem d_Gr_insertAll_16 : decode prog_3_method_14_code 16 = .ok (.iaload, 1) := by decide +kernel
theorem d_Gr_insertAll_17 : decode prog_3_method_14_code 17 = .ok (.invokevirtual 37, 3) := by decide +kernel
theorem d_Gr_insertAll_20 : decode prog_3_method_14_code 20 = .ok (.pop, 1) := by decide +kernel
theorem d_Gr_insertAll_21 : decode prog_3_method_14_code 21 = .ok (.iinc 2 1, 3) := by decide +kernel
theorem d_Gr_insertAll_24 : decode prog_3_method_14_code 24 = .ok (.goto (-22), 3) := by decide +kernel
theorem d_Gr_insertAll_27 : decode prog_3_method_14_code 27 = .ok (.return_, 1) := by decide +kernel
theorem zt_277 : (Cond.instanceMethod (⟨"MergeGraphs$Graph", "insert", "(I)I"⟩ : MethodName)) ∈ zTg := zmem 277 (by decide +kernel) (by decide +kernel)
theorem zt_278 : (Cond.selects "MergeGraphs$Graph" (⟨"MergeGraphs$Graph", "insert", "(I)I"⟩ : MethodName) (⟨"MergeGraphs$Graph", "insert", "(I)I"⟩ : MethodName)) ∈ zTg := zmem 278 (by decide +kernel) (by decide +kernel)
theorem zt_577 : (Cond.methodLink "MergeGraphs$Graph" (37 : Nat) (⟨"MergeGraphs$Graph", "insert", "(I)I"⟩ : MethodName)) ∈ zTg := zmem 577 (by decide +kernel) (by decide +kernel)
def y_Gr_insertMissing : MethodName := ⟨"MergeGraphs$Graph", "insertMissing", "(LMergeGraphs$Graph;LMergeGraphs$Graph;)Z"⟩
abbrev M_Gr_insertMissing : zM := (nR0, prog_3_method_15_code, 5, (some .boolean), 2)
set_option maxRecDepth 100000 in
theorem zk_Gr_insertMissing : Cond.code y_Gr_insertMissing (M_Gr_insertMissing).2.1 (M_Gr_insertMissing).2.2.1 (M_Gr_insertMissing).2.2.2.1 ∈ zTg := zmem 613 rfl rfl
theorem zy_Gr_insertMissing : (y_Gr_insertMissing).cls ≠ "java/lang/invoke/MethodHandle" ∧ (y_Gr_insertMissing).cls ≠ "java/lang/invoke/VarHandle" ∧ (parseMethodDescriptor (y_Gr_insertMissing).desc).map (fun d => d.parameters.length) = some 2 := by decide +kernel
theorem d_Gr_insertMissing_0 : decode prog_3_method_15_code 0 = .ok (.iconst 0, 1) := by decide +kernel
theorem d_Gr_insertMissing_1 : decode prog_3_method_15_code 1 = .ok (.istore_n 3, 1) := by decide +kernel
theorem d_Gr_insertMissing_2 : decode prog_3_method_15_code 2 = .ok (.iload_n 3, 1) := by decide +kernel
theorem d_Gr_insertMissing_3 : decode prog_3_method_15_code 3 = .ok (.aload_n 1, 1) := by decide +kernel
theorem d_Gr_insertMissing_4 : decode prog_3_method_15_code 4 = .ok (.getfield 15, 3) := by decide +kernel
theorem d_Gr_insertMissing_7 : decode prog_3_method_15_code 7 = .ok (.if_icmp .ge 38, 3) := by decide +kernel
theorem d_Gr_insertMissing_10 : decode prog_3_method_15_code 10 = .ok (.aload_n 1, 1) := by decide +kernel
theorem d_Gr_insertMissing_11 : decode prog_3_method_15_code 11 = .ok (.getfield 9, 3) := by decide +kernel
theorem d_Gr_insertMissing_14 : decode prog_3_method_15_code 14 = .ok (.iload_n 3, 1) := by decide +kernel
theorem d_Gr_insertMissing_15 : decode prog_3_method_15_code 15 = .ok (.iaload, 1) := by decide +kernel
theorem d_Gr_insertMissing_16 : decode prog_3_method_15_code 16 = .ok (.istore 4, 2) := by decide +kernel
theorem d_Gr_insertMissing_18 : decode prog_3_method_15_code 18 = .ok (.aload_n 2, 1) := by decide +kernel
theorem d_Gr_insertMissing_19 : decode prog_3_method_15_code 19 = .ok (.iload 4, 2) := by decide +kernel
theorem d_Gr_insertMissing_21 : decode prog_3_method_15_code 21 = .ok (.invokevirtual 30, 3) := by decide +kernel
theorem d_Gr_insertMissing_24 : decode prog_3_method_15_code 24 = .ok (.ifCond .ne 15, 3) := by decide +kernel
theorem d_Gr_insertMissing_27 : decode prog_3_method_15_code 27 = .ok (.aload_n 0, 1) := by decide +kernel
theorem d_Gr_insertMissing_28 : decode prog_3_method_15_code 28 = .ok (.iload 4, 2) := by decide +kernel
theorem d_Gr_insertMissing_30 : decode prog_3_method_15_code 30 = .ok (.invokevirtual 37, 3) := by decide +kernel
theorem d_Gr_insertMissing_33 : decode prog_3_method_15_code 33 = .ok (.iconst (-1), 1) := by decide +kernel
theorem d_Gr_insertMissing_34 : decode prog_3_method_15_code 34 = .ok (.if_icmp .ne 5, 3) := by decide +kernel
theorem d_Gr_insertMissing_37 : decode prog_3_method_15_code 37 = .ok (.iconst 0, 1) := by decide +kernel
theorem d_Gr_insertMissing_38 : decode prog_3_method_15_code 38 = .ok (.ireturn, 1) := by decide +kernel
theorem d_Gr_insertMissing_39 : decode prog_3_method_15_code 39 = .ok (.iinc 3 1, 3) := by decide +kernel
theorem d_Gr_insertMissing_42 : decode prog_3_method_15_code 42 = .ok (.goto (-40), 3) := by decide +kernel
theorem d_Gr_insertMissing_45 : decode prog_3_method_15_code 45 = .ok (.iconst 1, 1) := by decide +kernel
theorem d_Gr_insertMissing_46 : decode prog_3_method_15_code 46 = .ok (.ireturn, 1) := by decide +kernel
def y_Gr_insertKept : MethodName := ⟨"MergeGraphs$Graph", "insertKept", "(LMergeGraphs$Graph;LMergeGraphs$Graph;LMergeGraphs$Graph;)V"⟩
abbrev M_Gr_insertKept : zM := (nR0, prog_3_method_16_code, 6, none, 2)
set_option maxRecDepth 100000 in
theorem zk_Gr_insertKept : Cond.code y_Gr_insertKept (M_Gr_insertKept).2.1 (M_Gr_insertKept).2.2.1 (M_Gr_insertKept).2.2.2.1 ∈ zTg := zmem 605 rfl rfl
theorem zy_Gr_insertKept : (y_Gr_insertKept).cls ≠ "java/lang/invoke/MethodHandle" ∧ (y_Gr_insertKept).cls ≠ "java/lang/invoke/VarHandle" ∧ (parseMethodDescriptor (y_Gr_insertKept).desc).map (fun d => d.parameters.length) = some 3 := by decide +kernel
theorem d_Gr_insertKept_0 : decode prog_3_method_16_code 0 = .ok (.iconst 0, 1) := by decide +kernel
theorem d_Gr_insertKept_1 : decode prog_3_method_16_code 1 = .ok (.istore 4, 2) := by decide +kernel
theorem d_Gr_insertKept_3 : decode prog_3_method_16_code 3 = .ok (.iload 4, 2) := by decide +kernel
theorem d_Gr_insertKept_5 : decode prog_3_method_16_code 5 = .ok (.aload_n 1, 1) := by decide +kernel
theorem d_Gr_insertKept_6 : decode prog_3_method_16_code 6 = .ok (.getfield 15, 3) := by decide +kernel
theorem d_Gr_insertKept_9 : decode prog_3_method_16_code 9 = .ok (.if_icmp .ge 43, 3) := by decide +kernel
theorem d_Gr_insertKept_12 : decode prog_3_method_16_code 12 = .ok (.aload_n 1, 1) := by decide +kernel
theorem d_Gr_insertKept_13 : decode prog_3_method_16_code 13 = .ok (.getfield 9, 3) := by decide +kernel
theorem d_Gr_insertKept_16 : decode prog_3_method_16_code 16 = .ok (.iload 4, 2) := by decide +kernel
theorem d_Gr_insertKept_18 : decode prog_3_method_16_code 18 = .ok (.iaload, 1) := by decide +kernel
theorem d_Gr_insertKept_19 : decode prog_3_method_16_code 19 = .ok (.istore 5, 2) := by decide +kernel
theorem d_Gr_insertKept_21 : decode prog_3_method_16_code 21 = .ok (.aload_n 2, 1) := by decide +kernel
theorem d_Gr_insertKept_22 : decode prog_3_method_16_code 22 = .ok (.iload 5, 2) := by decide +kernel
theorem d_Gr_insertKept_24 : decode prog_3_method_16_code 24 = .ok (.invokevirtual 30, 3) := by decide +kernel
theorem d_Gr_insertKept_27 : decode prog_3_method_16_code 27 = .ok (.ifCond .eq 19, 3) := by decide +kernel
theorem d_Gr_insertKept_30 : decode prog_3_method_16_code 30 = .ok (.aload_n 3, 1) := by decide +kernel
theorem d_Gr_insertKept_31 : decode prog_3_method_16_code 31 = .ok (.iload 5, 2) := by decide +kernel
theorem d_Gr_insertKept_33 : decode prog_3_method_16_code 33 = .ok (.invokevirtual 30, 3) := by decide +kernel
theorem d_Gr_insertKept_36 : decode prog_3_method_16_code 36 = .ok (.ifCond .eq 10, 3) := by decide +kernel
theorem d_Gr_insertKept_39 : decode prog_3_method_16_code 39 = .ok (.aload_n 0, 1) := by decide +kernel
theorem d_Gr_insertKept_40 : decode prog_3_method_16_code 40 = .ok (.iload 5, 2) := by decide +kernel
theorem d_Gr_insertKept_42 : decode prog_3_method_16_code 42 = .ok (.invokevirtual 37, 3) := by decide +kernel
theorem d_Gr_insertKept_45 : decode prog_3_method_16_code 45 = .ok (.pop, 1) := by decide +kernel
theorem d_Gr_insertKept_46 : decode prog_3_method_16_code 46 = .ok (.iinc 4 1, 3) := by decide +kernel
theorem d_Gr_insertKept_49 : decode prog_3_method_16_code 49 = .ok (.goto (-46), 3) := by decide +kernel
theorem d_Gr_insertKept_52 : decode prog_3_method_16_code 52 = .ok (.return_, 1) := by decide +kernel
def f_Gr_count (G : Nat) (x0 : Nat) (h : pH) : Option pR := (gI h x0 0 1).bind fun v1 => some (some (.int v1), h)
theorem f_Gr_count_eq (G : Nat) (x0 : Nat) (h : pH) : f_Gr_count G x0 h = ((gI h x0 0 1).bind fun v1 => some (some (.int v1), h)) := rfl
set_option maxRecDepth 100000 in
set_option maxHeartbeats 4000000 in
theorem w_Gr_count_b0 {X : zX} {r : pR} {G : Nat} (hQ : zQ X r) : ∀ (x0 : Nat) (h : pH), f_Gr_count G x0 h = some r → Z X M_Gr_count 0 0 h 0 [(0, .ref x0)] [] := by
  intro x0 h E
  rw [f_Gr_count_eq] at E
  refine z_aload_n 0 d_Gr_count_0 rfl rfl ?_
  refine z_getI (ci := 0) (j := 1) rfl (by decide) zf_Gr_15 d_Gr_count_1 E (fun v1 _ E => ?_)
  exact z_ireturn hQ rfl z00 d_Gr_count_4 E
theorem m_Gr_count {l : Launch} {G : Nat} {x0 : Nat} {h : pH} {r : pR} (E : f_Gr_count G x0 h = some r) : zMet l y_Gr_count M_Gr_count 0 0 [.ref x0] h r :=
  zMet_of (by decide) rfl (Nat.le_of_ble_eq_true rfl) (fun p e s m args below meth c D0 cT => w_Gr_count_b0 (X := (p, l, e, s, m, args, below, meth, c, D0, cT, h, _, 0, 0)) rfl x0 h E)
def f_Gr_at_b21 (G : Nat) (k22 : Int32 → pH → Option pR) (h : pH) : Option pR := k22 (-1 : Int32) h
theorem f_Gr_at_b21_eq (G : Nat) (k22 : Int32 → pH → Option pR) (h : pH) : f_Gr_at_b21 G k22 h = (k22 (-1 : Int32) h) := rfl
def f_Gr_at_b22 (G : Nat) (s0 : Int32) (h : pH) : Option pR := some (some (.int s0), h)
theorem f_Gr_at_b22_eq (G : Nat) (s0 : Int32) (h : pH) : f_Gr_at_b22 G s0 h = (some (some (.int s0), h)) := rfl
def f_Gr_at (G : Nat) (x0 : Nat) (x1 : Int32) (h : pH) : Option pR := if x1 < 0 then ((f_Gr_at_b21 G (f_Gr_at_b22 G)) h) else ((gI h x0 0 1).bind fun v1 => if v1 ≤ x1 then ((f_Gr_at_b21 G (f_Gr_at_b22 G)) h) else ((gR h x0 0 0).bind fun v2 => (aI h v2 x1).bind fun v3 => (f_Gr_at_b22 G) v3 h))
theorem f_Gr_at_eq (G : Nat) (x0 : Nat) (x1 : Int32) (h : pH) : f_Gr_at G x0 x1 h = (if x1 < 0 then ((f_Gr_at_b21 G (f_Gr_at_b22 G)) h) else ((gI h x0 0 1).bind fun v1 => if v1 ≤ x1 then ((f_Gr_at_b21 G (f_Gr_at_b22 G)) h) else ((gR h x0 0 0).bind fun v2 => (aI h v2 x1).bind fun v3 => (f_Gr_at_b22 G) v3 h))) := rfl
set_option maxRecDepth 100000 in
set_option maxHeartbeats 4000000 in
theorem w_Gr_at_b21 {X : zX} {r : pR} {G : Nat} {k22 : Int32 → pH → Option pR} (hQ : zQ X r) (hk22 : ∀ (s0 : Int32) (h : pH), k22 s0 h = some r → Z X M_Gr_at 0 0 h 22 [] [.int s0]) : ∀ (h : pH), f_Gr_at_b21 G k22 h = some r → Z X M_Gr_at 0 0 h 21 [] [] := by
  intro h E
  rw [f_Gr_at_b21_eq] at E
  refine z_iconst (v := (-1 : Int32)) d_Gr_at_21 (by decide) ?_
  exact hk22 (-1 : Int32) h E
set_option maxRecDepth 100000 in
set_option maxHeartbeats 4000000 in
theorem w_Gr_at_b22 {X : zX} {r : pR} {G : Nat} (hQ : zQ X r) : ∀ (s0 : Int32) (h : pH), f_Gr_at_b22 G s0 h = some r → Z X M_Gr_at 0 0 h 22 [] [.int s0] := by
  intro s0 h E
  rw [f_Gr_at_b22_eq] at E
  exact z_ireturn hQ rfl z00 d_Gr_at_22 E
set_option maxRecDepth 100000 in
set_option maxHeartbeats 4000000 in
theorem w_Gr_at_b0 {X : zX} {r : pR} {G : Nat} (hQ : zQ X r) : ∀ (x0 : Nat) (x1 : Int32) (h : pH), f_Gr_at G x0 x1 h = some r → Z X M_Gr_at 0 0 h 0 [(0, .ref x0), (1, .int x1)] [] := by
  intro x0 x1 h E
  rw [f_Gr_at_eq] at E
  refine z_iload_n 1 d_Gr_at_0 rfl rfl ?_
  refine z_if_lt (y := 0) (tgt := 21) d_Gr_at_1 (by decide) E (fun E => ?_) (fun E => ?_)
  · refine z_lv [] rfl ?_
    exact (w_Gr_at_b21 hQ (w_Gr_at_b22 hQ)) h E
  · refine z_iload_n 1 d_Gr_at_4 rfl rfl ?_
    refine z_aload_n 0 d_Gr_at_5 rfl rfl ?_
    refine z_getI (ci := 0) (j := 1) rfl (by decide) zf_Gr_15 d_Gr_at_6 E (fun v1 _ E => ?_)
    refine z_ic_ge (tgt := 21) d_Gr_at_9 (by decide) E (fun E => ?_) (fun E => ?_)
    · refine z_lv [] rfl ?_
      exact (w_Gr_at_b21 hQ (w_Gr_at_b22 hQ)) h E
    · refine z_aload_n 0 d_Gr_at_12 rfl rfl ?_
      refine z_getR (ci := 0) (j := 0) rfl (by decide) zf_Gr_9 d_Gr_at_13 E (fun v2 _ E => ?_)
      refine z_iload_n 1 d_Gr_at_16 rfl rfl ?_
      refine z_iaload d_Gr_at_17 E (fun v3 _ E => ?_)
      refine z_goto (tgt := 22) d_Gr_at_18 (by decide) ?_
      refine z_lv [] rfl ?_
      exact (w_Gr_at_b22 hQ) v3 h E
theorem m_Gr_at {l : Launch} {G : Nat} {x0 : Nat} {x1 : Int32} {h : pH} {r : pR} (E : f_Gr_at G x0 x1 h = some r) : zMet l y_Gr_at M_Gr_at 0 0 [.ref x0, .int x1] h r :=
  zMet_of (by decide) rfl (Nat.le_of_ble_eq_true rfl) (fun p e s m args below meth c D0 cT => w_Gr_at_b0 (X := (p, l, e, s, m, args, below, meth, c, D0, cT, h, _, 0, 0)) rfl x0 x1 h E)
def f_Gr_placeOf_b39 (G : Nat) (k5 : Nat → Int32 → Int32 → Int32 → pH → Option pR) (x0 : Nat) (x1 : Int32) (x2 : Int32) (x3 : Int32) (h : pH) : Option pR := k5 x0 x1 x2 (x3 >>> ((1 : Int32) &&& 31)) h
theorem f_Gr_placeOf_b39_eq (G : Nat) (k5 : Nat → Int32 → Int32 → Int32 → pH → Option pR) (x0 : Nat) (x1 : Int32) (x2 : Int32) (x3 : Int32) (h : pH) : f_Gr_placeOf_b39 G k5 x0 x1 x2 x3 h = (k5 x0 x1 x2 (x3 >>> ((1 : Int32) &&& 31)) h) := rfl
def f_Gr_placeOf_b5 (G : Nat) : Nat → Nat → Int32 → Int32 → Int32 → pH → Option pR
  | 0 => fun _ _ _ _ _ => none
  | F + 1 => fun x0 x1 x2 x3 h => if x3 ≤ 0 then (some (some (.int x2), h)) else ((gI h x0 0 1).bind fun v1 => if v1 < (x2 + x3) then ((f_Gr_placeOf_b39 G (f_Gr_placeOf_b5 G F)) x0 x1 x2 x3 h) else ((gR h x0 0 0).bind fun v2 => (aI h v2 ((x2 + x3) - (1 : Int32))).bind fun v3 => if x1 ≤ v3 then ((f_Gr_placeOf_b39 G (f_Gr_placeOf_b5 G F)) x0 x1 x2 x3 h) else ((f_Gr_placeOf_b39 G (f_Gr_placeOf_b5 G F)) x0 x1 (x2 + x3) x3 h)))
theorem f_Gr_placeOf_b5_eq (G : Nat) (F : Nat) (x0 : Nat) (x1 : Int32) (x2 : Int32) (x3 : Int32) (h : pH) : f_Gr_placeOf_b5 G (F + 1) x0 x1 x2 x3 h = (if x3 ≤ 0 then (some (some (.int x2), h)) else ((gI h x0 0 1).bind fun v1 => if v1 < (x2 + x3) then ((f_Gr_placeOf_b39 G (f_Gr_placeOf_b5 G F)) x0 x1 x2 x3 h) else ((gR h x0 0 0).bind fun v2 => (aI h v2 ((x2 + x3) - (1 : Int32))).bind fun v3 => if x1 ≤ v3 then ((f_Gr_placeOf_b39 G (f_Gr_placeOf_b5 G F)) x0 x1 x2 x3 h) else ((f_Gr_placeOf_b39 G (f_Gr_placeOf_b5 G F)) x0 x1 (x2 + x3) x3 h)))) := rfl
def f_Gr_placeOf (G : Nat) (x0 : Nat) (x1 : Int32) (h : pH) : Option pR := (f_Gr_placeOf_b5 G G) x0 x1 (0 : Int32) (16 : Int32) h
theorem f_Gr_placeOf_eq (G : Nat) (x0 : Nat) (x1 : Int32) (h : pH) : f_Gr_placeOf G x0 x1 h = ((f_Gr_placeOf_b5 G G) x0 x1 (0 : Int32) (16 : Int32) h) := rfl
set_option maxRecDepth 100000 in
set_option maxHeartbeats 4000000 in
theorem w_Gr_placeOf_b39 {X : zX} {r : pR} {G : Nat} {k5 : Nat → Int32 → Int32 → Int32 → pH → Option pR} (hQ : zQ X r) (hk5 : ∀ (x0 : Nat) (x1 : Int32) (x2 : Int32) (x3 : Int32) (h : pH), k5 x0 x1 x2 x3 h = some r → Z X M_Gr_placeOf 0 0 h 5 [(0, .ref x0), (1, .int x1), (2, .int x2), (3, .int x3)] []) : ∀ (x0 : Nat) (x1 : Int32) (x2 : Int32) (x3 : Int32) (h : pH), f_Gr_placeOf_b39 G k5 x0 x1 x2 x3 h = some r → Z X M_Gr_placeOf 0 0 h 39 [(0, .ref x0), (1, .int x1), (2, .int x2), (3, .int x3)] [] := by
  intro x0 x1 x2 x3 h E
  rw [f_Gr_placeOf_b39_eq] at E
  refine z_iload_n 3 d_Gr_placeOf_39 rfl rfl ?_
  refine z_iconst (v := (1 : Int32)) d_Gr_placeOf_40 (by decide) ?_
  refine z_ishr d_Gr_placeOf_41 ?_
  refine z_istore_n (lv2 := [(3, .int (x3 >>> ((1 : Int32) &&& 31))), (0, .ref x0), (1, .int x1), (2, .int x2)]) d_Gr_placeOf_42 rfl (Nat.le_of_ble_eq_true rfl) rfl ?_
  refine z_goto (tgt := 5) d_Gr_placeOf_43 (by decide) ?_
  refine z_lv [1, 2, 3, 0] rfl ?_
  exact hk5 x0 x1 x2 (x3 >>> ((1 : Int32) &&& 31)) h E
set_option maxRecDepth 100000 in
set_option maxHeartbeats 4000000 in
theorem w_Gr_placeOf_b5 {X : zX} {r : pR} {G : Nat} (hQ : zQ X r) : ∀ (F : Nat) (x0 : Nat) (x1 : Int32) (x2 : Int32) (x3 : Int32) (h : pH), f_Gr_placeOf_b5 G F x0 x1 x2 x3 h = some r → Z X M_Gr_placeOf 0 0 h 5 [(0, .ref x0), (1, .int x1), (2, .int x2), (3, .int x3)] [] := by
  intro F
  induction F with
  | zero => intro x0 x1 x2 x3 h E; exact nomatch (show (none : Option pR) = some _ from E)
  | succ F ih =>
    intro x0 x1 x2 x3 h E
    rw [f_Gr_placeOf_b5_eq] at E
    refine z_iload_n 3 d_Gr_placeOf_5 rfl rfl ?_
    refine z_if_le (y := 0) (tgt := 46) d_Gr_placeOf_6 (by decide) E (fun E => ?_) (fun E => ?_)
    · refine z_iload_n 2 d_Gr_placeOf_46 rfl rfl ?_
      exact z_ireturn hQ rfl z00 d_Gr_placeOf_47 E
    · refine z_iload_n 2 d_Gr_placeOf_9 rfl rfl ?_
      refine z_iload_n 3 d_Gr_placeOf_10 rfl rfl ?_
      refine z_iadd d_Gr_placeOf_11 ?_
      refine z_istore (lv2 := [(4, .int (x2 + x3)), (0, .ref x0), (1, .int x1), (2, .int x2), (3, .int x3)]) d_Gr_placeOf_12 (Nat.le_of_ble_eq_true rfl) rfl ?_
      refine z_iload 0 d_Gr_placeOf_14 rfl ?_
      refine z_aload_n 1 d_Gr_placeOf_16 rfl rfl ?_
      refine z_getI (ci := 0) (j := 1) rfl (by decide) zf_Gr_15 d_Gr_placeOf_17 E (fun v1 _ E => ?_)
      refine z_ic_gt (tgt := 39) d_Gr_placeOf_20 (by decide) E (fun E => ?_) (fun E => ?_)
      · refine z_lv [1, 2, 3, 4] rfl ?_
        exact (w_Gr_placeOf_b39 hQ ih) x0 x1 x2 x3 h E
      · refine z_aload_n 1 d_Gr_placeOf_23 rfl rfl ?_
        refine z_getR (ci := 0) (j := 0) rfl (by decide) zf_Gr_9 d_Gr_placeOf_24 E (fun v2 _ E => ?_)
        refine z_iload 0 d_Gr_placeOf_27 rfl ?_
        refine z_iconst (v := (1 : Int32)) d_Gr_placeOf_29 (by decide) ?_
        refine z_isub d_Gr_placeOf_30 ?_
        refine z_iaload d_Gr_placeOf_31 E (fun v3 _ E => ?_)
        refine z_iload_n 2 d_Gr_placeOf_32 rfl rfl ?_
        refine z_ic_ge (tgt := 39) d_Gr_placeOf_33 (by decide) E (fun E => ?_) (fun E => ?_)
        · refine z_lv [1, 2, 3, 4] rfl ?_
          exact (w_Gr_placeOf_b39 hQ ih) x0 x1 x2 x3 h E
        · refine z_iload 0 d_Gr_placeOf_36 rfl ?_
          refine z_istore_n (lv2 := [(2, .int (x2 + x3)), (4, .int (x2 + x3)), (0, .ref x0), (1, .int x1), (3, .int x3)]) d_Gr_placeOf_38 rfl (Nat.le_of_ble_eq_true rfl) rfl ?_
          refine z_lv [2, 3, 0, 4] rfl ?_
          exact (w_Gr_placeOf_b39 hQ ih) x0 x1 (x2 + x3) x3 h E
set_option maxRecDepth 100000 in
set_option maxHeartbeats 4000000 in
theorem w_Gr_placeOf_b0 {X : zX} {r : pR} {G : Nat} (hQ : zQ X r) : ∀ (x0 : Nat) (x1 : Int32) (h : pH), f_Gr_placeOf G x0 x1 h = some r → Z X M_Gr_placeOf 0 0 h 0 [(0, .ref x0), (1, .int x1)] [] := by
  intro x0 x1 h E
  rw [f_Gr_placeOf_eq] at E
  refine z_iconst (v := (0 : Int32)) d_Gr_placeOf_0 (by decide) ?_
  refine z_istore_n (lv2 := [(2, .int (0 : Int32)), (0, .ref x0), (1, .int x1)]) d_Gr_placeOf_1 rfl (Nat.le_of_ble_eq_true rfl) rfl ?_
  refine z_bipush (v := (16 : Int32)) d_Gr_placeOf_2 (by decide) ?_
  refine z_istore_n (lv2 := [(3, .int (16 : Int32)), (2, .int (0 : Int32)), (0, .ref x0), (1, .int x1)]) d_Gr_placeOf_4 rfl (Nat.le_of_ble_eq_true rfl) rfl ?_
  refine z_lv [2, 3, 1, 0] rfl ?_
  exact (w_Gr_placeOf_b5 hQ G) x0 x1 (0 : Int32) (16 : Int32) h E
theorem m_Gr_placeOf {l : Launch} {G : Nat} {x0 : Nat} {x1 : Int32} {h : pH} {r : pR} (E : f_Gr_placeOf G x0 x1 h = some r) : zMet l y_Gr_placeOf M_Gr_placeOf 0 0 [.ref x0, .int x1] h r :=
  zMet_of (by decide) rfl (Nat.le_of_ble_eq_true rfl) (fun p e s m args below meth c D0 cT => w_Gr_placeOf_b0 (X := (p, l, e, s, m, args, below, meth, c, D0, cT, h, _, 0, 0)) rfl x0 x1 h E)
def f_Gr_has_b18 (G : Nat) (s0 : Int32) (h : pH) : Option pR := (if isZ s0 = true then some (some (.int s0), h) else none)
theorem f_Gr_has_b18_eq (G : Nat) (s0 : Int32) (h : pH) : f_Gr_has_b18 G s0 h = ((if isZ s0 = true then some (some (.int s0), h) else none)) := rfl
def f_Gr_has (G : Nat) (x0 : Nat) (x1 : Int32) (h : pH) : Option pR := cI (oC h x0 0) (f_Gr_placeOf G x0 x1 h) fun v4 h1 => cI (oC h1 x0 0) (f_Gr_at G x0 v4 h1) fun v8 h5 => if v8 = x1 then ((f_Gr_has_b18 G) (1 : Int32) h5) else ((f_Gr_has_b18 G) (0 : Int32) h5)
theorem f_Gr_has_eq (G : Nat) (x0 : Nat) (x1 : Int32) (h : pH) : f_Gr_has G x0 x1 h = (cI (oC h x0 0) (f_Gr_placeOf G x0 x1 h) fun v4 h1 => cI (oC h1 x0 0) (f_Gr_at G x0 v4 h1) fun v8 h5 => if v8 = x1 then ((f_Gr_has_b18 G) (1 : Int32) h5) else ((f_Gr_has_b18 G) (0 : Int32) h5)) := rfl
set_option maxRecDepth 100000 in
set_option maxHeartbeats 4000000 in
theorem w_Gr_has_b18 {X : zX} {r : pR} {G : Nat} (hQ : zQ X r) : ∀ (s0 : Int32) (h : pH), f_Gr_has_b18 G s0 h = some r → Z X M_Gr_has 0 0 h 18 [] [.int s0] := by
  intro s0 h E
  rw [f_Gr_has_b18_eq] at E
  exact z_zreturn hQ rfl z00 d_Gr_has_18 E
set_option maxRecDepth 100000 in
set_option maxHeartbeats 4000000 in
theorem w_Gr_has_b0 {X : zX} {r : pR} {G : Nat} (hQ : zQ X r) : ∀ (x0 : Nat) (x1 : Int32) (h : pH), f_Gr_has G x0 x1 h = some r → Z X M_Gr_has 0 0 h 0 [(0, .ref x0), (1, .int x1)] [] := by
  intro x0 x1 h E
  rw [f_Gr_has_eq] at E
  refine z_aload_n 0 d_Gr_has_0 rfl rfl ?_
  refine z_aload_n 0 d_Gr_has_1 rfl rfl ?_
  refine z_iload_n 1 d_Gr_has_2 rfl rfl ?_
  obtain ⟨g2, v4, h1, e3, E⟩ := cI_some E
  refine z_invV (ci := 0) (y := y_Gr_placeOf) (Mc := M_Gr_placeOf) (av := [.int x1]) (rest := [.ref x0]) rfl rfl ⟨zt_280, zt_282, zt_2, zt_49⟩ zk_Gr_placeOf zy_Gr_placeOf (by decide) (Nat.le_of_ble_eq_true rfl) z00 rfl (Nat.le_of_ble_eq_true rfl) d_Gr_has_3 g2 (m_Gr_placeOf e3) ?_
  show Z X M_Gr_has 0 0 h1 6 [(0, .ref x0), (1, .int x1)] [.int v4, .ref x0]
  obtain ⟨g6, v8, h5, e7, E⟩ := cI_some E
  refine z_invV (ci := 0) (y := y_Gr_at) (Mc := M_Gr_at) (av := [.int v4]) (rest := []) rfl rfl ⟨zt_284, zt_285, zt_286, zt_49⟩ zk_Gr_at zy_Gr_at (by decide) (Nat.le_of_ble_eq_true rfl) z00 rfl (Nat.le_of_ble_eq_true rfl) d_Gr_has_6 g6 (m_Gr_at e7) ?_
  show Z X M_Gr_has 0 0 h5 9 [(0, .ref x0), (1, .int x1)] [.int v8]
  refine z_iload_n 1 d_Gr_has_9 rfl rfl ?_
  refine z_ic_ne (tgt := 17) d_Gr_has_10 (by decide) E (fun E => ?_) (fun E => ?_)
  · refine z_iconst (v := (0 : Int32)) d_Gr_has_17 (by decide) ?_
    refine z_lv [] rfl ?_
    exact (w_Gr_has_b18 hQ) (0 : Int32) h5 E
  · refine z_iconst (v := (1 : Int32)) d_Gr_has_13 (by decide) ?_
    refine z_goto (tgt := 18) d_Gr_has_14 (by decide) ?_
    refine z_lv [] rfl ?_
    exact (w_Gr_has_b18 hQ) (1 : Int32) h5 E
theorem m_Gr_has {l : Launch} {G : Nat} {x0 : Nat} {x1 : Int32} {h : pH} {r : pR} (E : f_Gr_has G x0 x1 h = some r) : zMet l y_Gr_has M_Gr_has 0 0 [.ref x0, .int x1] h r :=
  zMet_of (by decide) rfl (Nat.le_of_ble_eq_true rfl) (fun p e s m args below meth c D0 cT => w_Gr_has_b0 (X := (p, l, e, s, m, args, below, meth, c, D0, cT, h, _, 0, 0)) rfl x0 x1 h E)
def f_Gr_insert_b33 (G : Nat) : Nat → Nat → Int32 → Int32 → Int32 → pH → Option pR
  | 0 => fun _ _ _ _ _ => none
  | F + 1 => fun x0 x1 x2 x3 h => if x3 ≤ x2 then ((gR h x0 0 0).bind fun v11 => (sI h v11 x2 x1).bind fun h12 => (gI h12 x0 0 1).bind fun v13 => (oP h12 x0 0 1 (.int (v13 + (1 : Int32)))).bind fun h14 => some (some (.int (1 : Int32)), h14)) else ((gR h x0 0 0).bind fun v15 => (gR h x0 0 0).bind fun v16 => (aI h v16 (x3 - (1 : Int32))).bind fun v17 => (sI h v15 x3 v17).bind fun h18 => (f_Gr_insert_b33 G F) x0 x1 x2 (x3 + (-1)) h18)
theorem f_Gr_insert_b33_eq (G : Nat) (F : Nat) (x0 : Nat) (x1 : Int32) (x2 : Int32) (x3 : Int32) (h : pH) : f_Gr_insert_b33 G (F + 1) x0 x1 x2 x3 h = (if x3 ≤ x2 then ((gR h x0 0 0).bind fun v11 => (sI h v11 x2 x1).bind fun h12 => (gI h12 x0 0 1).bind fun v13 => (oP h12 x0 0 1 (.int (v13 + (1 : Int32)))).bind fun h14 => some (some (.int (1 : Int32)), h14)) else ((gR h x0 0 0).bind fun v15 => (gR h x0 0 0).bind fun v16 => (aI h v16 (x3 - (1 : Int32))).bind fun v17 => (sI h v15 x3 v17).bind fun h18 => (f_Gr_insert_b33 G F) x0 x1 x2 (x3 + (-1)) h18)) := rfl
def f_Gr_insert (G : Nat) (x0 : Nat) (x1 : Int32) (h : pH) : Option pR := cI (oC h x0 0) (f_Gr_placeOf G x0 x1 h) fun v4 h1 => cI (oC h1 x0 0) (f_Gr_at G x0 v4 h1) fun v8 h5 => if v8 = x1 then (some (some (.int (0 : Int32)), h5)) else ((gI h5 x0 0 1).bind fun v9 => if v9 < (30 : Int32) then ((gI h5 x0 0 1).bind fun v10 => (f_Gr_insert_b33 G G) x0 x1 v4 v10 h5) else (some (some (.int (-1 : Int32)), h5)))
theorem f_Gr_insert_eq (G : Nat) (x0 : Nat) (x1 : Int32) (h : pH) : f_Gr_insert G x0 x1 h = (cI (oC h x0 0) (f_Gr_placeOf G x0 x1 h) fun v4 h1 => cI (oC h1 x0 0) (f_Gr_at G x0 v4 h1) fun v8 h5 => if v8 = x1 then (some (some (.int (0 : Int32)), h5)) else ((gI h5 x0 0 1).bind fun v9 => if v9 < (30 : Int32) then ((gI h5 x0 0 1).bind fun v10 => (f_Gr_insert_b33 G G) x0 x1 v4 v10 h5) else (some (some (.int (-1 : Int32)), h5)))) := rfl
set_option maxRecDepth 100000 in
set_option maxHeartbeats 4000000 in
theorem w_Gr_insert_b33 {X : zX} {r : pR} {G : Nat} (hQ : zQ X r) : ∀ (F : Nat) (x0 : Nat) (x1 : Int32) (x2 : Int32) (x3 : Int32) (h : pH), f_Gr_insert_b33 G F x0 x1 x2 x3 h = some r → Z X M_Gr_insert 0 0 h 33 [(0, .ref x0), (1, .int x1), (2, .int x2), (3, .int x3)] [] := by
  intro F
  induction F with
  | zero => intro x0 x1 x2 x3 h E; exact nomatch (show (none : Option pR) = some _ from E)
  | succ F ih =>
    intro x0 x1 x2 x3 h E
    rw [f_Gr_insert_b33_eq] at E
    refine z_iload_n 3 d_Gr_insert_33 rfl rfl ?_
    refine z_iload_n 2 d_Gr_insert_34 rfl rfl ?_
    refine z_ic_le (tgt := 58) d_Gr_insert_35 (by decide) E (fun E => ?_) (fun E => ?_)
    · refine z_aload_n 0 d_Gr_insert_58 rfl rfl ?_
      refine z_getR (ci := 0) (j := 0) rfl (by decide) zf_Gr_9 d_Gr_insert_59 E (fun v11 _ E => ?_)
      refine z_iload_n 2 d_Gr_insert_62 rfl rfl ?_
      refine z_iload_n 1 d_Gr_insert_63 rfl rfl ?_
      refine z_iastore d_Gr_insert_64 E (fun h12 _ E => ?_)
      refine z_aload_n 0 d_Gr_insert_65 rfl rfl ?_
      refine z_dup d_Gr_insert_66 rfl ?_
      refine z_getI (ci := 0) (j := 1) rfl (by decide) zf_Gr_15 d_Gr_insert_67 E (fun v13 _ E => ?_)
      refine z_iconst (v := (1 : Int32)) d_Gr_insert_70 (by decide) ?_
      refine z_iadd d_Gr_insert_71 ?_
      refine z_putI (ci := 0) (j := 1) rfl (by decide) zf_Gr_15 rfl rfl d_Gr_insert_72 E (fun h14 _ E => ?_)
      refine z_iconst (v := (1 : Int32)) d_Gr_insert_75 (by decide) ?_
      exact z_ireturn hQ rfl z00 d_Gr_insert_76 E
    · refine z_aload_n 0 d_Gr_insert_38 rfl rfl ?_
      refine z_getR (ci := 0) (j := 0) rfl (by decide) zf_Gr_9 d_Gr_insert_39 E (fun v15 _ E => ?_)
      refine z_iload_n 3 d_Gr_insert_42 rfl rfl ?_
      refine z_aload_n 0 d_Gr_insert_43 rfl rfl ?_
      refine z_getR (ci := 0) (j := 0) rfl (by decide) zf_Gr_9 d_Gr_insert_44 E (fun v16 _ E => ?_)
      refine z_iload_n 3 d_Gr_insert_47 rfl rfl ?_
      refine z_iconst (v := (1 : Int32)) d_Gr_insert_48 (by decide) ?_
      refine z_isub d_Gr_insert_49 ?_
      refine z_iaload d_Gr_insert_50 E (fun v17 _ E => ?_)
      refine z_iastore d_Gr_insert_51 E (fun h18 _ E => ?_)
      refine z_iinc (v := (x3 + (-1))) (lv2 := [(3, .int (x3 + (-1))), (0, .ref x0), (1, .int x1), (2, .int x2)]) 3 d_Gr_insert_52 rfl rfl (Nat.le_of_ble_eq_true rfl) rfl ?_
      refine z_goto (tgt := 33) d_Gr_insert_55 (by decide) ?_
      refine z_lv [1, 2, 3, 0] rfl ?_
      exact ih x0 x1 x2 (x3 + (-1)) h18 E
set_option maxRecDepth 100000 in
set_option maxHeartbeats 4000000 in
theorem w_Gr_insert_b0 {X : zX} {r : pR} {G : Nat} (hQ : zQ X r) : ∀ (x0 : Nat) (x1 : Int32) (h : pH), f_Gr_insert G x0 x1 h = some r → Z X M_Gr_insert 0 0 h 0 [(0, .ref x0), (1, .int x1)] [] := by
  intro x0 x1 h E
  rw [f_Gr_insert_eq] at E
  refine z_aload_n 0 d_Gr_insert_0 rfl rfl ?_
  refine z_iload_n 1 d_Gr_insert_1 rfl rfl ?_
  obtain ⟨g2, v4, h1, e3, E⟩ := cI_some E
  refine z_invV (ci := 0) (y := y_Gr_placeOf) (Mc := M_Gr_placeOf) (av := [.int x1]) (rest := []) rfl rfl ⟨zt_280, zt_282, zt_2, zt_49⟩ zk_Gr_placeOf zy_Gr_placeOf (by decide) (Nat.le_of_ble_eq_true rfl) z00 rfl (Nat.le_of_ble_eq_true rfl) d_Gr_insert_2 g2 (m_Gr_placeOf e3) ?_
  show Z X M_Gr_insert 0 0 h1 5 [(0, .ref x0), (1, .int x1)] [.int v4]
  refine z_istore_n (lv2 := [(2, .int v4), (0, .ref x0), (1, .int x1)]) d_Gr_insert_5 rfl (Nat.le_of_ble_eq_true rfl) rfl ?_
  refine z_aload_n 1 d_Gr_insert_6 rfl rfl ?_
  refine z_iload_n 0 d_Gr_insert_7 rfl rfl ?_
  obtain ⟨g6, v8, h5, e7, E⟩ := cI_some E
  refine z_invV (ci := 0) (y := y_Gr_at) (Mc := M_Gr_at) (av := [.int v4]) (rest := []) rfl rfl ⟨zt_284, zt_285, zt_286, zt_49⟩ zk_Gr_at zy_Gr_at (by decide) (Nat.le_of_ble_eq_true rfl) z00 rfl (Nat.le_of_ble_eq_true rfl) d_Gr_insert_8 g6 (m_Gr_at e7) ?_
  show Z X M_Gr_insert 0 0 h5 11 [(2, .int v4), (0, .ref x0), (1, .int x1)] [.int v8]
  refine z_iload_n 2 d_Gr_insert_11 rfl rfl ?_
  refine z_ic_ne (tgt := 17) d_Gr_insert_12 (by decide) E (fun E => ?_) (fun E => ?_)
  · refine z_aload_n 1 d_Gr_insert_17 rfl rfl ?_
    refine z_getI (ci := 0) (j := 1) rfl (by decide) zf_Gr_15 d_Gr_insert_18 E (fun v9 _ E => ?_)
    refine z_bipush (v := (30 : Int32)) d_Gr_insert_21 (by decide) ?_
    refine z_ic_lt (tgt := 28) d_Gr_insert_23 (by decide) E (fun E => ?_) (fun E => ?_)
    · refine z_aload_n 1 d_Gr_insert_28 rfl rfl ?_
      refine z_getI (ci := 0) (j := 1) rfl (by decide) zf_Gr_15 d_Gr_insert_29 E (fun v10 _ E => ?_)
      refine z_istore_n (lv2 := [(3, .int v10), (2, .int v4), (0, .ref x0), (1, .int x1)]) d_Gr_insert_32 rfl (Nat.le_of_ble_eq_true rfl) rfl ?_
      refine z_lv [2, 3, 1, 0] rfl ?_
      exact (w_Gr_insert_b33 hQ G) x0 x1 v4 v10 h5 E
    · refine z_iconst (v := (-1 : Int32)) d_Gr_insert_26 (by decide) ?_
      exact z_ireturn hQ rfl z00 d_Gr_insert_27 E
  · refine z_iconst (v := (0 : Int32)) d_Gr_insert_15 (by decide) ?_
    exact z_ireturn hQ rfl z00 d_Gr_insert_16 E
theorem m_Gr_insert {l : Launch} {G : Nat} {x0 : Nat} {x1 : Int32} {h : pH} {r : pR} (E : f_Gr_insert G x0 x1 h = some r) : zMet l y_Gr_insert M_Gr_insert 0 0 [.ref x0, .int x1] h r :=
  zMet_of (by decide) rfl (Nat.le_of_ble_eq_true rfl) (fun p e s m args below meth c D0 cT => w_Gr_insert_b0 (X := (p, l, e, s, m, args, below, meth, c, D0, cT, h, _, 0, 0)) rfl x0 x1 h E)
def f_Gr_erase_b29 (G : Nat) : Nat → Nat → Int32 → pH → Option pR
  | 0 => fun _ _ _ => none
  | F + 1 => fun x0 x3 h => (gI h x0 0 1).bind fun v11 => if v11 ≤ x3 then (some (some (.int (1 : Int32)), h)) else ((gR h x0 0 0).bind fun v12 => (gR h x0 0 0).bind fun v13 => (aI h v13 (x3 + (1 : Int32))).bind fun v14 => (sI h v12 x3 v14).bind fun h15 => (f_Gr_erase_b29 G F) x0 (x3 + 1) h15)
theorem f_Gr_erase_b29_eq (G : Nat) (F : Nat) (x0 : Nat) (x3 : Int32) (h : pH) : f_Gr_erase_b29 G (F + 1) x0 x3 h = ((gI h x0 0 1).bind fun v11 => if v11 ≤ x3 then (some (some (.int (1 : Int32)), h)) else ((gR h x0 0 0).bind fun v12 => (gR h x0 0 0).bind fun v13 => (aI h v13 (x3 + (1 : Int32))).bind fun v14 => (sI h v12 x3 v14).bind fun h15 => (f_Gr_erase_b29 G F) x0 (x3 + 1) h15)) := rfl
def f_Gr_erase (G : Nat) (x0 : Nat) (x1 : Int32) (h : pH) : Option pR := cI (oC h x0 0) (f_Gr_placeOf G x0 x1 h) fun v4 h1 => cI (oC h1 x0 0) (f_Gr_at G x0 v4 h1) fun v8 h5 => if v8 = x1 then ((gI h5 x0 0 1).bind fun v9 => (oP h5 x0 0 1 (.int (v9 - (1 : Int32)))).bind fun h10 => (f_Gr_erase_b29 G G) x0 v4 h10) else (some (some (.int (0 : Int32)), h5))
theorem f_Gr_erase_eq (G : Nat) (x0 : Nat) (x1 : Int32) (h : pH) : f_Gr_erase G x0 x1 h = (cI (oC h x0 0) (f_Gr_placeOf G x0 x1 h) fun v4 h1 => cI (oC h1 x0 0) (f_Gr_at G x0 v4 h1) fun v8 h5 => if v8 = x1 then ((gI h5 x0 0 1).bind fun v9 => (oP h5 x0 0 1 (.int (v9 - (1 : Int32)))).bind fun h10 => (f_Gr_erase_b29 G G) x0 v4 h10) else (some (some (.int (0 : Int32)), h5))) := rfl
set_option maxRecDepth 100000 in
set_option maxHeartbeats 4000000 in
theorem w_Gr_erase_b29 {X : zX} {r : pR} {G : Nat} (hQ : zQ X r) : ∀ (F : Nat) (x0 : Nat) (x3 : Int32) (h : pH), f_Gr_erase_b29 G F x0 x3 h = some r → Z X M_Gr_erase 0 0 h 29 [(0, .ref x0), (3, .int x3)] [] := by
  intro F
  induction F with
  | zero => intro x0 x3 h E; exact nomatch (show (none : Option pR) = some _ from E)
  | succ F ih =>
    intro x0 x3 h E
    rw [f_Gr_erase_b29_eq] at E
    refine z_iload_n 1 d_Gr_erase_29 rfl rfl ?_
    refine z_aload_n 0 d_Gr_erase_30 rfl rfl ?_
    refine z_getI (ci := 0) (j := 1) rfl (by decide) zf_Gr_15 d_Gr_erase_31 E (fun v11 _ E => ?_)
    refine z_ic_ge (tgt := 57) d_Gr_erase_34 (by decide) E (fun E => ?_) (fun E => ?_)
    · refine z_iconst (v := (1 : Int32)) d_Gr_erase_57 (by decide) ?_
      exact z_ireturn hQ rfl z00 d_Gr_erase_58 E
    · refine z_aload_n 0 d_Gr_erase_37 rfl rfl ?_
      refine z_getR (ci := 0) (j := 0) rfl (by decide) zf_Gr_9 d_Gr_erase_38 E (fun v12 _ E => ?_)
      refine z_iload_n 1 d_Gr_erase_41 rfl rfl ?_
      refine z_aload_n 0 d_Gr_erase_42 rfl rfl ?_
      refine z_getR (ci := 0) (j := 0) rfl (by decide) zf_Gr_9 d_Gr_erase_43 E (fun v13 _ E => ?_)
      refine z_iload_n 1 d_Gr_erase_46 rfl rfl ?_
      refine z_iconst (v := (1 : Int32)) d_Gr_erase_47 (by decide) ?_
      refine z_iadd d_Gr_erase_48 ?_
      refine z_iaload d_Gr_erase_49 E (fun v14 _ E => ?_)
      refine z_iastore d_Gr_erase_50 E (fun h15 _ E => ?_)
      refine z_iinc (v := (x3 + 1)) (lv2 := [(3, .int (x3 + 1)), (0, .ref x0)]) 1 d_Gr_erase_51 rfl rfl (Nat.le_of_ble_eq_true rfl) rfl ?_
      refine z_goto (tgt := 29) d_Gr_erase_54 (by decide) ?_
      refine z_lv [1, 0] rfl ?_
      exact ih x0 (x3 + 1) h15 E
set_option maxRecDepth 100000 in
set_option maxHeartbeats 4000000 in
theorem w_Gr_erase_b0 {X : zX} {r : pR} {G : Nat} (hQ : zQ X r) : ∀ (x0 : Nat) (x1 : Int32) (h : pH), f_Gr_erase G x0 x1 h = some r → Z X M_Gr_erase 0 0 h 0 [(0, .ref x0), (1, .int x1)] [] := by
  intro x0 x1 h E
  rw [f_Gr_erase_eq] at E
  refine z_aload_n 0 d_Gr_erase_0 rfl rfl ?_
  refine z_iload_n 1 d_Gr_erase_1 rfl rfl ?_
  obtain ⟨g2, v4, h1, e3, E⟩ := cI_some E
  refine z_invV (ci := 0) (y := y_Gr_placeOf) (Mc := M_Gr_placeOf) (av := [.int x1]) (rest := []) rfl rfl ⟨zt_280, zt_282, zt_2, zt_49⟩ zk_Gr_placeOf zy_Gr_placeOf (by decide) (Nat.le_of_ble_eq_true rfl) z00 rfl (Nat.le_of_ble_eq_true rfl) d_Gr_erase_2 g2 (m_Gr_placeOf e3) ?_
  show Z X M_Gr_erase 0 0 h1 5 [(0, .ref x0), (1, .int x1)] [.int v4]
  refine z_istore_n (lv2 := [(2, .int v4), (0, .ref x0), (1, .int x1)]) d_Gr_erase_5 rfl (Nat.le_of_ble_eq_true rfl) rfl ?_
  refine z_aload_n 1 d_Gr_erase_6 rfl rfl ?_
  refine z_iload_n 0 d_Gr_erase_7 rfl rfl ?_
  obtain ⟨g6, v8, h5, e7, E⟩ := cI_some E
  refine z_invV (ci := 0) (y := y_Gr_at) (Mc := M_Gr_at) (av := [.int v4]) (rest := []) rfl rfl ⟨zt_284, zt_285, zt_286, zt_49⟩ zk_Gr_at zy_Gr_at (by decide) (Nat.le_of_ble_eq_true rfl) z00 rfl (Nat.le_of_ble_eq_true rfl) d_Gr_erase_8 g6 (m_Gr_at e7) ?_
  show Z X M_Gr_erase 0 0 h5 11 [(2, .int v4), (0, .ref x0), (1, .int x1)] [.int v8]
  refine z_iload_n 2 d_Gr_erase_11 rfl rfl ?_
  refine z_ic_eq (tgt := 17) d_Gr_erase_12 (by decide) E (fun E => ?_) (fun E => ?_)
  · refine z_aload_n 1 d_Gr_erase_17 rfl rfl ?_
    refine z_dup d_Gr_erase_18 rfl ?_
    refine z_getI (ci := 0) (j := 1) rfl (by decide) zf_Gr_15 d_Gr_erase_19 E (fun v9 _ E => ?_)
    refine z_iconst (v := (1 : Int32)) d_Gr_erase_22 (by decide) ?_
    refine z_isub d_Gr_erase_23 ?_
    refine z_putI (ci := 0) (j := 1) rfl (by decide) zf_Gr_15 rfl rfl d_Gr_erase_24 E (fun h10 _ E => ?_)
    refine z_iload_n 0 d_Gr_erase_27 rfl rfl ?_
    refine z_istore_n (lv2 := [(3, .int v4), (2, .int v4), (0, .ref x0), (1, .int x1)]) d_Gr_erase_28 rfl (Nat.le_of_ble_eq_true rfl) rfl ?_
    refine z_lv [2, 0] rfl ?_
    exact (w_Gr_erase_b29 hQ G) x0 v4 h10 E
  · refine z_iconst (v := (0 : Int32)) d_Gr_erase_15 (by decide) ?_
    exact z_ireturn hQ rfl z00 d_Gr_erase_16 E
theorem m_Gr_erase {l : Launch} {G : Nat} {x0 : Nat} {x1 : Int32} {h : pH} {r : pR} (E : f_Gr_erase G x0 x1 h = some r) : zMet l y_Gr_erase M_Gr_erase 0 0 [.ref x0, .int x1] h r :=
  zMet_of (by decide) rfl (Nat.le_of_ble_eq_true rfl) (fun p e s m args below meth c D0 cT => w_Gr_erase_b0 (X := (p, l, e, s, m, args, below, meth, c, D0, cT, h, _, 0, 0)) rfl x0 x1 h E)
def f_Gr_clear (G : Nat) (x0 : Nat) (h : pH) : Option pR := (oP h x0 0 1 (.int (0 : Int32))).bind fun h1 => some (none, h1)
theorem f_Gr_clear_eq (G : Nat) (x0 : Nat) (h : pH) : f_Gr_clear G x0 h = ((oP h x0 0 1 (.int (0 : Int32))).bind fun h1 => some (none, h1)) := rfl
set_option maxRecDepth 100000 in
set_option maxHeartbeats 4000000 in
theorem w_Gr_clear_b0 {X : zX} {r : pR} {G : Nat} (hQ : zQ X r) : ∀ (x0 : Nat) (h : pH), f_Gr_clear G x0 h = some r → Z X M_Gr_clear 0 0 h 0 [(0, .ref x0)] [] := by
  intro x0 h E
  rw [f_Gr_clear_eq] at E
  refine z_aload_n 0 d_Gr_clear_0 rfl rfl ?_
  refine z_iconst (v := (0 : Int32)) d_Gr_clear_1 (by decide) ?_
  refine z_putI (ci := 0) (j := 1) rfl (by decide) zf_Gr_15 rfl rfl d_Gr_clear_2 E (fun h1 _ E => ?_)
  exact z_return hQ rfl z00 d_Gr_clear_5 E
theorem m_Gr_clear {l : Launch} {G : Nat} {x0 : Nat} {h : pH} {r : pR} (E : f_Gr_clear G x0 h = some r) : zMet l y_Gr_clear M_Gr_clear 0 0 [.ref x0] h r :=
  zMet_of (by decide) rfl (Nat.le_of_ble_eq_true rfl) (fun p e s m args below meth c D0 cT => w_Gr_clear_b0 (X := (p, l, e, s, m, args, below, meth, c, D0, cT, h, _, 0, 0)) rfl x0 h E)
def f_Gr_become_b10 (G : Nat) : Nat → Nat → Nat → Int32 → pH → Option pR
  | 0 => fun _ _ _ _ => none
  | F + 1 => fun x0 x1 x2 h => (gI h x0 0 1).bind fun v3 => if v3 ≤ x2 then (some (none, h)) else ((gR h x0 0 0).bind fun v4 => (gR h x1 0 0).bind fun v5 => (aI h v5 x2).bind fun v6 => (sI h v4 x2 v6).bind fun h7 => (f_Gr_become_b10 G F) x0 x1 (x2 + 1) h7)
theorem f_Gr_become_b10_eq (G : Nat) (F : Nat) (x0 : Nat) (x1 : Nat) (x2 : Int32) (h : pH) : f_Gr_become_b10 G (F + 1) x0 x1 x2 h = ((gI h x0 0 1).bind fun v3 => if v3 ≤ x2 then (some (none, h)) else ((gR h x0 0 0).bind fun v4 => (gR h x1 0 0).bind fun v5 => (aI h v5 x2).bind fun v6 => (sI h v4 x2 v6).bind fun h7 => (f_Gr_become_b10 G F) x0 x1 (x2 + 1) h7)) := rfl
def f_Gr_become (G : Nat) (x0 : Nat) (x1 : Nat) (h : pH) : Option pR := (gI h x1 0 1).bind fun v1 => (oP h x0 0 1 (.int v1)).bind fun h2 => (f_Gr_become_b10 G G) x0 x1 (0 : Int32) h2
theorem f_Gr_become_eq (G : Nat) (x0 : Nat) (x1 : Nat) (h : pH) : f_Gr_become G x0 x1 h = ((gI h x1 0 1).bind fun v1 => (oP h x0 0 1 (.int v1)).bind fun h2 => (f_Gr_become_b10 G G) x0 x1 (0 : Int32) h2) := rfl
set_option maxRecDepth 100000 in
set_option maxHeartbeats 4000000 in
theorem w_Gr_become_b10 {X : zX} {r : pR} {G : Nat} (hQ : zQ X r) : ∀ (F : Nat) (x0 : Nat) (x1 : Nat) (x2 : Int32) (h : pH), f_Gr_become_b10 G F x0 x1 x2 h = some r → Z X M_Gr_become 0 0 h 10 [(0, .ref x0), (1, .ref x1), (2, .int x2)] [] := by
  intro F
  induction F with
  | zero => intro x0 x1 x2 h E; exact nomatch (show (none : Option pR) = some _ from E)
  | succ F ih =>
    intro x0 x1 x2 h E
    rw [f_Gr_become_b10_eq] at E
    refine z_iload_n 2 d_Gr_become_10 rfl rfl ?_
    refine z_aload_n 0 d_Gr_become_11 rfl rfl ?_
    refine z_getI (ci := 0) (j := 1) rfl (by decide) zf_Gr_15 d_Gr_become_12 E (fun v3 _ E => ?_)
    refine z_ic_ge (tgt := 36) d_Gr_become_15 (by decide) E (fun E => ?_) (fun E => ?_)
    · exact z_return hQ rfl z00 d_Gr_become_36 E
    · refine z_aload_n 0 d_Gr_become_18 rfl rfl ?_
      refine z_getR (ci := 0) (j := 0) rfl (by decide) zf_Gr_9 d_Gr_become_19 E (fun v4 _ E => ?_)
      refine z_iload_n 2 d_Gr_become_22 rfl rfl ?_
      refine z_aload_n 1 d_Gr_become_23 rfl rfl ?_
      refine z_getR (ci := 0) (j := 0) rfl (by decide) zf_Gr_9 d_Gr_become_24 E (fun v5 _ E => ?_)
      refine z_iload_n 2 d_Gr_become_27 rfl rfl ?_
      refine z_iaload d_Gr_become_28 E (fun v6 _ E => ?_)
      refine z_iastore d_Gr_become_29 E (fun h7 _ E => ?_)
      refine z_iinc (v := (x2 + 1)) (lv2 := [(2, .int (x2 + 1)), (0, .ref x0), (1, .ref x1)]) 2 d_Gr_become_30 rfl rfl (Nat.le_of_ble_eq_true rfl) rfl ?_
      refine z_goto (tgt := 10) d_Gr_become_33 (by decide) ?_
      refine z_lv [1, 2, 0] rfl ?_
      exact ih x0 x1 (x2 + 1) h7 E
set_option maxRecDepth 100000 in
set_option maxHeartbeats 4000000 in
theorem w_Gr_become_b0 {X : zX} {r : pR} {G : Nat} (hQ : zQ X r) : ∀ (x0 : Nat) (x1 : Nat) (h : pH), f_Gr_become G x0 x1 h = some r → Z X M_Gr_become 0 0 h 0 [(0, .ref x0), (1, .ref x1)] [] := by
  intro x0 x1 h E
  rw [f_Gr_become_eq] at E
  refine z_aload_n 0 d_Gr_become_0 rfl rfl ?_
  refine z_aload_n 1 d_Gr_become_1 rfl rfl ?_
  refine z_getI (ci := 0) (j := 1) rfl (by decide) zf_Gr_15 d_Gr_become_2 E (fun v1 _ E => ?_)
  refine z_putI (ci := 0) (j := 1) rfl (by decide) zf_Gr_15 rfl rfl d_Gr_become_5 E (fun h2 _ E => ?_)
  refine z_iconst (v := (0 : Int32)) d_Gr_become_8 (by decide) ?_
  refine z_istore_n (lv2 := [(2, .int (0 : Int32)), (0, .ref x0), (1, .ref x1)]) d_Gr_become_9 rfl (Nat.le_of_ble_eq_true rfl) rfl ?_
  refine z_lv [1, 2, 0] rfl ?_
  exact (w_Gr_become_b10 hQ G) x0 x1 (0 : Int32) h2 E
theorem m_Gr_become {l : Launch} {G : Nat} {x0 : Nat} {x1 : Nat} {h : pH} {r : pR} (E : f_Gr_become G x0 x1 h = some r) : zMet l y_Gr_become M_Gr_become 0 0 [.ref x0, .ref x1] h r :=
  zMet_of (by decide) rfl (Nat.le_of_ble_eq_true rfl) (fun p e s m args below meth c D0 cT => w_Gr_become_b0 (X := (p, l, e, s, m, args, below, meth, c, D0, cT, h, _, 0, 0)) rfl x0 x1 h E)
def f_Gr_isSameRow_b36 (G : Nat) (h : pH) : Option pR := (if isZ (1 : Int32) = true then some (some (.int (1 : Int32)), h) else none)
theorem f_Gr_isSameRow_b36_eq (G : Nat) (h : pH) : f_Gr_isSameRow_b36 G h = ((if isZ (1 : Int32) = true then some (some (.int (1 : Int32)), h) else none)) := rfl
def f_Gr_isSameRow_b2 (G : Nat) : Nat → Nat → Nat → Int32 → pH → Option pR
  | 0 => fun _ _ _ _ => none
  | F + 1 => fun x0 x1 x2 h => (gI h x0 0 1).bind fun v1 => if v1 ≤ x2 then ((f_Gr_isSameRow_b36 G) h) else ((aL h 0 x1).bind fun v2 => if v2 ≤ x2 then ((f_Gr_isSameRow_b36 G) h) else ((gR h x0 0 0).bind fun v3 => (aI h v3 x2).bind fun v4 => (aI h x1 x2).bind fun v5 => if v4 = v5 then ((f_Gr_isSameRow_b2 G F) x0 x1 (x2 + 1) h) else ((if isZ (0 : Int32) = true then some (some (.int (0 : Int32)), h) else none))))
theorem f_Gr_isSameRow_b2_eq (G : Nat) (F : Nat) (x0 : Nat) (x1 : Nat) (x2 : Int32) (h : pH) : f_Gr_isSameRow_b2 G (F + 1) x0 x1 x2 h = ((gI h x0 0 1).bind fun v1 => if v1 ≤ x2 then ((f_Gr_isSameRow_b36 G) h) else ((aL h 0 x1).bind fun v2 => if v2 ≤ x2 then ((f_Gr_isSameRow_b36 G) h) else ((gR h x0 0 0).bind fun v3 => (aI h v3 x2).bind fun v4 => (aI h x1 x2).bind fun v5 => if v4 = v5 then ((f_Gr_isSameRow_b2 G F) x0 x1 (x2 + 1) h) else ((if isZ (0 : Int32) = true then some (some (.int (0 : Int32)), h) else none))))) := rfl
def f_Gr_isSameRow (G : Nat) (x0 : Nat) (x1 : Nat) (h : pH) : Option pR := (f_Gr_isSameRow_b2 G G) x0 x1 (0 : Int32) h
theorem f_Gr_isSameRow_eq (G : Nat) (x0 : Nat) (x1 : Nat) (h : pH) : f_Gr_isSameRow G x0 x1 h = ((f_Gr_isSameRow_b2 G G) x0 x1 (0 : Int32) h) := rfl
set_option maxRecDepth 100000 in
set_option maxHeartbeats 4000000 in
theorem w_Gr_isSameRow_b36 {X : zX} {r : pR} {G : Nat} (hQ : zQ X r) : ∀ (h : pH), f_Gr_isSameRow_b36 G h = some r → Z X M_Gr_isSameRow 0 0 h 36 [] [] := by
  intro h E
  rw [f_Gr_isSameRow_b36_eq] at E
  refine z_iconst (v := (1 : Int32)) d_Gr_isSameRow_36 (by decide) ?_
  exact z_zreturn hQ rfl z00 d_Gr_isSameRow_37 E
set_option maxRecDepth 100000 in
set_option maxHeartbeats 4000000 in
theorem w_Gr_isSameRow_b2 {X : zX} {r : pR} {G : Nat} (hQ : zQ X r) : ∀ (F : Nat) (x0 : Nat) (x1 : Nat) (x2 : Int32) (h : pH), f_Gr_isSameRow_b2 G F x0 x1 x2 h = some r → Z X M_Gr_isSameRow 0 0 h 2 [(0, .ref x0), (1, .ref x1), (2, .int x2)] [] := by
  intro F
  induction F with
  | zero => intro x0 x1 x2 h E; exact nomatch (show (none : Option pR) = some _ from E)
  | succ F ih =>
    intro x0 x1 x2 h E
    rw [f_Gr_isSameRow_b2_eq] at E
    refine z_iload_n 2 d_Gr_isSameRow_2 rfl rfl ?_
    refine z_aload_n 0 d_Gr_isSameRow_3 rfl rfl ?_
    refine z_getI (ci := 0) (j := 1) rfl (by decide) zf_Gr_15 d_Gr_isSameRow_4 E (fun v1 _ E => ?_)
    refine z_ic_ge (tgt := 36) d_Gr_isSameRow_7 (by decide) E (fun E => ?_) (fun E => ?_)
    · refine z_lv [] rfl ?_
      exact (w_Gr_isSameRow_b36 hQ) h E
    · refine z_iload_n 2 d_Gr_isSameRow_10 rfl rfl ?_
      refine z_aload_n 1 d_Gr_isSameRow_11 rfl rfl ?_
      refine z_alen 0 (fun _ => rfl) d_Gr_isSameRow_12 E (fun v2 _ E => ?_)
      refine z_ic_ge (tgt := 36) d_Gr_isSameRow_13 (by decide) E (fun E => ?_) (fun E => ?_)
      · refine z_lv [] rfl ?_
        exact (w_Gr_isSameRow_b36 hQ) h E
      · refine z_aload_n 0 d_Gr_isSameRow_16 rfl rfl ?_
        refine z_getR (ci := 0) (j := 0) rfl (by decide) zf_Gr_9 d_Gr_isSameRow_17 E (fun v3 _ E => ?_)
        refine z_iload_n 2 d_Gr_isSameRow_20 rfl rfl ?_
        refine z_iaload d_Gr_isSameRow_21 E (fun v4 _ E => ?_)
        refine z_aload_n 1 d_Gr_isSameRow_22 rfl rfl ?_
        refine z_iload_n 2 d_Gr_isSameRow_23 rfl rfl ?_
        refine z_iaload d_Gr_isSameRow_24 E (fun v5 _ E => ?_)
        refine z_ic_eq (tgt := 30) d_Gr_isSameRow_25 (by decide) E (fun E => ?_) (fun E => ?_)
        · refine z_iinc (v := (x2 + 1)) (lv2 := [(2, .int (x2 + 1)), (0, .ref x0), (1, .ref x1)]) 2 d_Gr_isSameRow_30 rfl rfl (Nat.le_of_ble_eq_true rfl) rfl ?_
          refine z_goto (tgt := 2) d_Gr_isSameRow_33 (by decide) ?_
          refine z_lv [1, 2, 0] rfl ?_
          exact ih x0 x1 (x2 + 1) h E
        · refine z_iconst (v := (0 : Int32)) d_Gr_isSameRow_28 (by decide) ?_
          exact z_zreturn hQ rfl z00 d_Gr_isSameRow_29 E
set_option maxRecDepth 100000 in
set_option maxHeartbeats 4000000 in
theorem w_Gr_isSameRow_b0 {X : zX} {r : pR} {G : Nat} (hQ : zQ X r) : ∀ (x0 : Nat) (x1 : Nat) (h : pH), f_Gr_isSameRow G x0 x1 h = some r → Z X M_Gr_isSameRow 0 0 h 0 [(0, .ref x0), (1, .ref x1)] [] := by
  intro x0 x1 h E
  rw [f_Gr_isSameRow_eq] at E
  refine z_iconst (v := (0 : Int32)) d_Gr_isSameRow_0 (by decide) ?_
  refine z_istore_n (lv2 := [(2, .int (0 : Int32)), (0, .ref x0), (1, .ref x1)]) d_Gr_isSameRow_1 rfl (Nat.le_of_ble_eq_true rfl) rfl ?_
  refine z_lv [1, 2, 0] rfl ?_
  exact (w_Gr_isSameRow_b2 hQ G) x0 x1 (0 : Int32) h E
theorem m_Gr_isSameRow {l : Launch} {G : Nat} {x0 : Nat} {x1 : Nat} {h : pH} {r : pR} (E : f_Gr_isSameRow G x0 x1 h = some r) : zMet l y_Gr_isSameRow M_Gr_isSameRow 0 0 [.ref x0, .ref x1] h r :=
  zMet_of (by decide) rfl (Nat.le_of_ble_eq_true rfl) (fun p e s m args below meth c D0 cT => w_Gr_isSameRow_b0 (X := (p, l, e, s, m, args, below, meth, c, D0, cT, h, _, 0, 0)) rfl x0 x1 h E)
def f_Gr_isSame_b26 (G : Nat) (k27 : Int32 → pH → Option pR) (h : pH) : Option pR := k27 (0 : Int32) h
theorem f_Gr_isSame_b26_eq (G : Nat) (k27 : Int32 → pH → Option pR) (h : pH) : f_Gr_isSame_b26 G k27 h = (k27 (0 : Int32) h) := rfl
def f_Gr_isSame_b27 (G : Nat) (s0 : Int32) (h : pH) : Option pR := (if isZ s0 = true then some (some (.int s0), h) else none)
theorem f_Gr_isSame_b27_eq (G : Nat) (s0 : Int32) (h : pH) : f_Gr_isSame_b27 G s0 h = ((if isZ s0 = true then some (some (.int s0), h) else none)) := rfl
def f_Gr_isSame (G : Nat) (x0 : Nat) (x1 : Nat) (h : pH) : Option pR := (gI h x0 0 1).bind fun v1 => (gI h x1 0 1).bind fun v2 => if v1 = v2 then ((gR h x1 0 0).bind fun v3 => cI (oC h x0 0) (f_Gr_isSameRow G x0 v3 h) fun v7 h4 => if v7 = 0 then ((f_Gr_isSame_b26 G (f_Gr_isSame_b27 G)) h4) else ((f_Gr_isSame_b27 G) (1 : Int32) h4)) else ((f_Gr_isSame_b26 G (f_Gr_isSame_b27 G)) h)
theorem f_Gr_isSame_eq (G : Nat) (x0 : Nat) (x1 : Nat) (h : pH) : f_Gr_isSame G x0 x1 h = ((gI h x0 0 1).bind fun v1 => (gI h x1 0 1).bind fun v2 => if v1 = v2 then ((gR h x1 0 0).bind fun v3 => cI (oC h x0 0) (f_Gr_isSameRow G x0 v3 h) fun v7 h4 => if v7 = 0 then ((f_Gr_isSame_b26 G (f_Gr_isSame_b27 G)) h4) else ((f_Gr_isSame_b27 G) (1 : Int32) h4)) else ((f_Gr_isSame_b26 G (f_Gr_isSame_b27 G)) h)) := rfl
set_option maxRecDepth 100000 in
set_option maxHeartbeats 4000000 in
theorem w_Gr_isSame_b26 {X : zX} {r : pR} {G : Nat} {k27 : Int32 → pH → Option pR} (hQ : zQ X r) (hk27 : ∀ (s0 : Int32) (h : pH), k27 s0 h = some r → Z X M_Gr_isSame 0 0 h 27 [] [.int s0]) : ∀ (h : pH), f_Gr_isSame_b26 G k27 h = some r → Z X M_Gr_isSame 0 0 h 26 [] [] := by
  intro h E
  rw [f_Gr_isSame_b26_eq] at E
  refine z_iconst (v := (0 : Int32)) d_Gr_isSame_26 (by decide) ?_
  exact hk27 (0 : Int32) h E
set_option maxRecDepth 100000 in
set_option maxHeartbeats 4000000 in
theorem w_Gr_isSame_b27 {X : zX} {r : pR} {G : Nat} (hQ : zQ X r) : ∀ (s0 : Int32) (h : pH), f_Gr_isSame_b27 G s0 h = some r → Z X M_Gr_isSame 0 0 h 27 [] [.int s0] := by
  intro s0 h E
  rw [f_Gr_isSame_b27_eq] at E
  exact z_zreturn hQ rfl z00 d_Gr_isSame_27 E
set_option maxRecDepth 100000 in
set_option maxHeartbeats 4000000 in
theorem w_Gr_isSame_b0 {X : zX} {r : pR} {G : Nat} (hQ : zQ X r) : ∀ (x0 : Nat) (x1 : Nat) (h : pH), f_Gr_isSame G x0 x1 h = some r → Z X M_Gr_isSame 0 0 h 0 [(0, .ref x0), (1, .ref x1)] [] := by
  intro x0 x1 h E
  rw [f_Gr_isSame_eq] at E
  refine z_aload_n 0 d_Gr_isSame_0 rfl rfl ?_
  refine z_getI (ci := 0) (j := 1) rfl (by decide) zf_Gr_15 d_Gr_isSame_1 E (fun v1 _ E => ?_)
  refine z_aload_n 1 d_Gr_isSame_4 rfl rfl ?_
  refine z_getI (ci := 0) (j := 1) rfl (by decide) zf_Gr_15 d_Gr_isSame_5 E (fun v2 _ E => ?_)
  refine z_ic_ne (tgt := 26) d_Gr_isSame_8 (by decide) E (fun E => ?_) (fun E => ?_)
  · refine z_lv [] rfl ?_
    exact (w_Gr_isSame_b26 hQ (w_Gr_isSame_b27 hQ)) h E
  · refine z_aload_n 0 d_Gr_isSame_11 rfl rfl ?_
    refine z_aload_n 1 d_Gr_isSame_12 rfl rfl ?_
    refine z_getR (ci := 0) (j := 0) rfl (by decide) zf_Gr_9 d_Gr_isSame_13 E (fun v3 _ E => ?_)
    obtain ⟨g5, v7, h4, e6, E⟩ := cI_some E
    refine z_invV (ci := 0) (y := y_Gr_isSameRow) (Mc := M_Gr_isSameRow) (av := [.ref v3]) (rest := []) rfl rfl ⟨zt_479, zt_480, zt_481, zt_49⟩ zk_Gr_isSameRow zy_Gr_isSameRow (by decide) (Nat.le_of_ble_eq_true rfl) z00 rfl (Nat.le_of_ble_eq_true rfl) d_Gr_isSame_16 g5 (m_Gr_isSameRow e6) ?_
    show Z X M_Gr_isSame 0 0 h4 19 [(0, .ref x0), (1, .ref x1)] [.int v7]
    refine z_if_eq (y := 0) (tgt := 26) d_Gr_isSame_19 (by decide) E (fun E => ?_) (fun E => ?_)
    · refine z_lv [] rfl ?_
      exact (w_Gr_isSame_b26 hQ (w_Gr_isSame_b27 hQ)) h4 E
    · refine z_iconst (v := (1 : Int32)) d_Gr_isSame_22 (by decide) ?_
      refine z_goto (tgt := 27) d_Gr_isSame_23 (by decide) ?_
      refine z_lv [] rfl ?_
      exact (w_Gr_isSame_b27 hQ) (1 : Int32) h4 E
theorem m_Gr_isSame {l : Launch} {G : Nat} {x0 : Nat} {x1 : Nat} {h : pH} {r : pR} (E : f_Gr_isSame G x0 x1 h = some r) : zMet l y_Gr_isSame M_Gr_isSame 0 0 [.ref x0, .ref x1] h r :=
  zMet_of (by decide) rfl (Nat.le_of_ble_eq_true rfl) (fun p e s m args below meth c D0 cT => w_Gr_isSame_b0 (X := (p, l, e, s, m, args, below, meth, c, D0, cT, h, _, 0, 0)) rfl x0 x1 h E)
def f_Gr_countShared_b28 (G : Nat) (k4 : Nat → Nat → Int32 → Int32 → pH → Option pR) (x0 : Nat) (x1 : Nat) (x2 : Int32) (x3 : Int32) (h : pH) : Option pR := k4 x0 x1 x2 (x3 + 1) h
theorem f_Gr_countShared_b28_eq (G : Nat) (k4 : Nat → Nat → Int32 → Int32 → pH → Option pR) (x0 : Nat) (x1 : Nat) (x2 : Int32) (x3 : Int32) (h : pH) : f_Gr_countShared_b28 G k4 x0 x1 x2 x3 h = (k4 x0 x1 x2 (x3 + 1) h) := rfl
def f_Gr_countShared_b4 (G : Nat) : Nat → Nat → Nat → Int32 → Int32 → pH → Option pR
  | 0 => fun _ _ _ _ _ => none
  | F + 1 => fun x0 x1 x2 x3 h => (gI h x0 0 1).bind fun v1 => if v1 ≤ x3 then (some (some (.int x2), h)) else ((gR h x0 0 0).bind fun v2 => (aI h v2 x3).bind fun v3 => cI (oC h x1 0) (f_Gr_has G x1 v3 h) fun v7 h4 => if v7 = 0 then ((f_Gr_countShared_b28 G (f_Gr_countShared_b4 G F)) x0 x1 x2 x3 h4) else ((f_Gr_countShared_b28 G (f_Gr_countShared_b4 G F)) x0 x1 (x2 + 1) x3 h4))
theorem f_Gr_countShared_b4_eq (G : Nat) (F : Nat) (x0 : Nat) (x1 : Nat) (x2 : Int32) (x3 : Int32) (h : pH) : f_Gr_countShared_b4 G (F + 1) x0 x1 x2 x3 h = ((gI h x0 0 1).bind fun v1 => if v1 ≤ x3 then (some (some (.int x2), h)) else ((gR h x0 0 0).bind fun v2 => (aI h v2 x3).bind fun v3 => cI (oC h x1 0) (f_Gr_has G x1 v3 h) fun v7 h4 => if v7 = 0 then ((f_Gr_countShared_b28 G (f_Gr_countShared_b4 G F)) x0 x1 x2 x3 h4) else ((f_Gr_countShared_b28 G (f_Gr_countShared_b4 G F)) x0 x1 (x2 + 1) x3 h4))) := rfl
def f_Gr_countShared (G : Nat) (x0 : Nat) (x1 : Nat) (h : pH) : Option pR := (f_Gr_countShared_b4 G G) x0 x1 (0 : Int32) (0 : Int32) h
theorem f_Gr_countShared_eq (G : Nat) (x0 : Nat) (x1 : Nat) (h : pH) : f_Gr_countShared G x0 x1 h = ((f_Gr_countShared_b4 G G) x0 x1 (0 : Int32) (0 : Int32) h) := rfl
set_option maxRecDepth 100000 in
set_option maxHeartbeats 4000000 in
theorem w_Gr_countShared_b28 {X : zX} {r : pR} {G : Nat} {k4 : Nat → Nat → Int32 → Int32 → pH → Option pR} (hQ : zQ X r) (hk4 : ∀ (x0 : Nat) (x1 : Nat) (x2 : Int32) (x3 : Int32) (h : pH), k4 x0 x1 x2 x3 h = some r → Z X M_Gr_countShared 0 0 h 4 [(0, .ref x0), (1, .ref x1), (2, .int x2), (3, .int x3)] []) : ∀ (x0 : Nat) (x1 : Nat) (x2 : Int32) (x3 : Int32) (h : pH), f_Gr_countShared_b28 G k4 x0 x1 x2 x3 h = some r → Z X M_Gr_countShared 0 0 h 28 [(0, .ref x0), (1, .ref x1), (2, .int x2), (3, .int x3)] [] := by
  intro x0 x1 x2 x3 h E
  rw [f_Gr_countShared_b28_eq] at E
  refine z_iinc (v := (x3 + 1)) (lv2 := [(3, .int (x3 + 1)), (0, .ref x0), (1, .ref x1), (2, .int x2)]) 3 d_Gr_countShared_28 rfl rfl (Nat.le_of_ble_eq_true rfl) rfl ?_
  refine z_goto (tgt := 4) d_Gr_countShared_31 (by decide) ?_
  refine z_lv [1, 2, 3, 0] rfl ?_
  exact hk4 x0 x1 x2 (x3 + 1) h E
set_option maxRecDepth 100000 in
set_option maxHeartbeats 4000000 in
theorem w_Gr_countShared_b4 {X : zX} {r : pR} {G : Nat} (hQ : zQ X r) : ∀ (F : Nat) (x0 : Nat) (x1 : Nat) (x2 : Int32) (x3 : Int32) (h : pH), f_Gr_countShared_b4 G F x0 x1 x2 x3 h = some r → Z X M_Gr_countShared 0 0 h 4 [(0, .ref x0), (1, .ref x1), (2, .int x2), (3, .int x3)] [] := by
  intro F
  induction F with
  | zero => intro x0 x1 x2 x3 h E; exact nomatch (show (none : Option pR) = some _ from E)
  | succ F ih =>
    intro x0 x1 x2 x3 h E
    rw [f_Gr_countShared_b4_eq] at E
    refine z_iload_n 3 d_Gr_countShared_4 rfl rfl ?_
    refine z_aload_n 0 d_Gr_countShared_5 rfl rfl ?_
    refine z_getI (ci := 0) (j := 1) rfl (by decide) zf_Gr_15 d_Gr_countShared_6 E (fun v1 _ E => ?_)
    refine z_ic_ge (tgt := 34) d_Gr_countShared_9 (by decide) E (fun E => ?_) (fun E => ?_)
    · refine z_iload_n 2 d_Gr_countShared_34 rfl rfl ?_
      exact z_ireturn hQ rfl z00 d_Gr_countShared_35 E
    · refine z_aload_n 1 d_Gr_countShared_12 rfl rfl ?_
      refine z_aload_n 0 d_Gr_countShared_13 rfl rfl ?_
      refine z_getR (ci := 0) (j := 0) rfl (by decide) zf_Gr_9 d_Gr_countShared_14 E (fun v2 _ E => ?_)
      refine z_iload_n 3 d_Gr_countShared_17 rfl rfl ?_
      refine z_iaload d_Gr_countShared_18 E (fun v3 _ E => ?_)
      obtain ⟨g5, v7, h4, e6, E⟩ := cI_some E
      refine z_invV (ci := 0) (y := y_Gr_has) (Mc := M_Gr_has) (av := [.int v3]) (rest := []) rfl rfl ⟨zt_606, zt_607, zt_608, zt_49⟩ zk_Gr_has zy_Gr_has (by decide) (Nat.le_of_ble_eq_true rfl) z00 rfl (Nat.le_of_ble_eq_true rfl) d_Gr_countShared_19 g5 (m_Gr_has e6) ?_
      show Z X M_Gr_countShared 0 0 h4 22 [(0, .ref x0), (1, .ref x1), (2, .int x2), (3, .int x3)] [.int v7]
      refine z_if_eq (y := 0) (tgt := 28) d_Gr_countShared_22 (by decide) E (fun E => ?_) (fun E => ?_)
      · exact (w_Gr_countShared_b28 hQ ih) x0 x1 x2 x3 h4 E
      · refine z_iinc (v := (x2 + 1)) (lv2 := [(2, .int (x2 + 1)), (0, .ref x0), (1, .ref x1), (3, .int x3)]) 2 d_Gr_countShared_25 rfl rfl (Nat.le_of_ble_eq_true rfl) rfl ?_
        refine z_lv [1, 2, 0, 3] rfl ?_
        exact (w_Gr_countShared_b28 hQ ih) x0 x1 (x2 + 1) x3 h4 E
set_option maxRecDepth 100000 in
set_option maxHeartbeats 4000000 in
theorem w_Gr_countShared_b0 {X : zX} {r : pR} {G : Nat} (hQ : zQ X r) : ∀ (x0 : Nat) (x1 : Nat) (h : pH), f_Gr_countShared G x0 x1 h = some r → Z X M_Gr_countShared 0 0 h 0 [(0, .ref x0), (1, .ref x1)] [] := by
  intro x0 x1 h E
  rw [f_Gr_countShared_eq] at E
  refine z_iconst (v := (0 : Int32)) d_Gr_countShared_0 (by decide) ?_
  refine z_istore_n (lv2 := [(2, .int (0 : Int32)), (0, .ref x0), (1, .ref x1)]) d_Gr_countShared_1 rfl (Nat.le_of_ble_eq_true rfl) rfl ?_
  refine z_iconst (v := (0 : Int32)) d_Gr_countShared_2 (by decide) ?_
  refine z_istore_n (lv2 := [(3, .int (0 : Int32)), (2, .int (0 : Int32)), (0, .ref x0), (1, .ref x1)]) d_Gr_countShared_3 rfl (Nat.le_of_ble_eq_true rfl) rfl ?_
  refine z_lv [2, 3, 1, 0] rfl ?_
  exact (w_Gr_countShared_b4 hQ G) x0 x1 (0 : Int32) (0 : Int32) h E
theorem m_Gr_countShared {l : Launch} {G : Nat} {x0 : Nat} {x1 : Nat} {h : pH} {r : pR} (E : f_Gr_countShared G x0 x1 h = some r) : zMet l y_Gr_countShared M_Gr_countShared 0 0 [.ref x0, .ref x1] h r :=
  zMet_of (by decide) rfl (Nat.le_of_ble_eq_true rfl) (fun p e s m args below meth c D0 cT => w_Gr_countShared_b0 (X := (p, l, e, s, m, args, below, meth, c, D0, cT, h, _, 0, 0)) rfl x0 x1 h E)
def f_Gr_eraseAll_b2 (G : Nat) : Nat → Nat → Nat → Int32 → pH → Option pR
  | 0 => fun _ _ _ _ => none
  | F + 1 => fun x0 x1 x2 h => (gI h x1 0 1).bind fun v1 => if v1 ≤ x2 then (some (none, h)) else ((gR h x1 0 0).bind fun v2 => (aI h v2 x2).bind fun v3 => cI (oC h x0 0) (f_Gr_erase G x0 v3 h) fun v7 h4 => (f_Gr_eraseAll_b2 G F) x0 x1 (x2 + 1) h4)
theorem f_Gr_eraseAll_b2_eq (G : Nat) (F : Nat) (x0 : Nat) (x1 : Nat) (x2 : Int32) (h : pH) : f_Gr_eraseAll_b2 G (F + 1) x0 x1 x2 h = ((gI h x1 0 1).bind fun v1 => if v1 ≤ x2 then (some (none, h)) else ((gR h x1 0 0).bind fun v2 => (aI h v2 x2).bind fun v3 => cI (oC h x0 0) (f_Gr_erase G x0 v3 h) fun v7 h4 => (f_Gr_eraseAll_b2 G F) x0 x1 (x2 + 1) h4)) := rfl
def f_Gr_eraseAll (G : Nat) (x0 : Nat) (x1 : Nat) (h : pH) : Option pR := (f_Gr_eraseAll_b2 G G) x0 x1 (0 : Int32) h
theorem f_Gr_eraseAll_eq (G : Nat) (x0 : Nat) (x1 : Nat) (h : pH) : f_Gr_eraseAll G x0 x1 h = ((f_Gr_eraseAll_b2 G G) x0 x1 (0 : Int32) h) := rfl
set_option maxRecDepth 100000 in
set_option maxHeartbeats 4000000 in
theorem w_Gr_eraseAll_b2 {X : zX} {r : pR} {G : Nat} (hQ : zQ X r) : ∀ (F : Nat) (x0 : Nat) (x1 : Nat) (x2 : Int32) (h : pH), f_Gr_eraseAll_b2 G F x0 x1 x2 h = some r → Z X M_Gr_eraseAll 0 0 h 2 [(0, .ref x0), (1, .ref x1), (2, .int x2)] [] := by
  intro F
  induction F with
  | zero => intro x0 x1 x2 h E; exact nomatch (show (none : Option pR) = some _ from E)
  | succ F ih =>
    intro x0 x1 x2 h E
    rw [f_Gr_eraseAll_b2_eq] at E
    refine z_iload_n 2 d_Gr_eraseAll_2 rfl rfl ?_
    refine z_aload_n 1 d_Gr_eraseAll_3 rfl rfl ?_
    refine z_getI (ci := 0) (j := 1) rfl (by decide) zf_Gr_15 d_Gr_eraseAll_4 E (fun v1 _ E => ?_)
    refine z_ic_ge (tgt := 27) d_Gr_eraseAll_7 (by decide) E (fun E => ?_) (fun E => ?_)
    · exact z_return hQ rfl z00 d_Gr_eraseAll_27 E
    · refine z_aload_n 0 d_Gr_eraseAll_10 rfl rfl ?_
      refine z_aload_n 1 d_Gr_eraseAll_11 rfl rfl ?_
      refine z_getR (ci := 0) (j := 0) rfl (by decide) zf_Gr_9 d_Gr_eraseAll_12 E (fun v2 _ E => ?_)
      refine z_iload_n 2 d_Gr_eraseAll_15 rfl rfl ?_
      refine z_iaload d_Gr_eraseAll_16 E (fun v3 _ E => ?_)
      obtain ⟨g5, v7, h4, e6, E⟩ := cI_some E
      refine z_invV (ci := 0) (y := y_Gr_erase) (Mc := M_Gr_erase) (av := [.int v3]) (rest := []) rfl rfl ⟨zt_669, zt_296, zt_297, zt_49⟩ zk_Gr_erase zy_Gr_erase (by decide) (Nat.le_of_ble_eq_true rfl) z00 rfl (Nat.le_of_ble_eq_true rfl) d_Gr_eraseAll_17 g5 (m_Gr_erase e6) ?_
      show Z X M_Gr_eraseAll 0 0 h4 20 [(0, .ref x0), (1, .ref x1), (2, .int x2)] [.int v7]
      refine z_pop d_Gr_eraseAll_20 rfl ?_
      refine z_iinc (v := (x2 + 1)) (lv2 := [(2, .int (x2 + 1)), (0, .ref x0), (1, .ref x1)]) 2 d_Gr_eraseAll_21 rfl rfl (Nat.le_of_ble_eq_true rfl) rfl ?_
      refine z_goto (tgt := 2) d_Gr_eraseAll_24 (by decide) ?_
      refine z_lv [1, 2, 0] rfl ?_
      exact ih x0 x1 (x2 + 1) h4 E
set_option maxRecDepth 100000 in
set_option maxHeartbeats 4000000 in
theorem w_Gr_eraseAll_b0 {X : zX} {r : pR} {G : Nat} (hQ : zQ X r) : ∀ (x0 : Nat) (x1 : Nat) (h : pH), f_Gr_eraseAll G x0 x1 h = some r → Z X M_Gr_eraseAll 0 0 h 0 [(0, .ref x0), (1, .ref x1)] [] := by
  intro x0 x1 h E
  rw [f_Gr_eraseAll_eq] at E
  refine z_iconst (v := (0 : Int32)) d_Gr_eraseAll_0 (by decide) ?_
  refine z_istore_n (lv2 := [(2, .int (0 : Int32)), (0, .ref x0), (1, .ref x1)]) d_Gr_eraseAll_1 rfl (Nat.le_of_ble_eq_true rfl) rfl ?_
  refine z_lv [1, 2, 0] rfl ?_
  exact (w_Gr_eraseAll_b2 hQ G) x0 x1 (0 : Int32) h E
theorem m_Gr_eraseAll {l : Launch} {G : Nat} {x0 : Nat} {x1 : Nat} {h : pH} {r : pR} (E : f_Gr_eraseAll G x0 x1 h = some r) : zMet l y_Gr_eraseAll M_Gr_eraseAll 0 0 [.ref x0, .ref x1] h r :=
  zMet_of (by decide) rfl (Nat.le_of_ble_eq_true rfl) (fun p e s m args below meth c D0 cT => w_Gr_eraseAll_b0 (X := (p, l, e, s, m, args, below, meth, c, D0, cT, h, _, 0, 0)) rfl x0 x1 h E)
def f_Gr_insertAll_b2 (G : Nat) : Nat → Nat → Nat → Int32 → pH → Option pR
  | 0 => fun _ _ _ _ => none
  | F + 1 => fun x0 x1 x2 h => (gI h x1 0 1).bind fun v1 => if v1 ≤ x2 then (some (none, h)) else ((gR h x1 0 0).bind fun v2 => (aI h v2 x2).bind fun v3 => cI (oC h x0 0) (f_Gr_insert G x0 v3 h) fun v7 h4 => (f_Gr_insertAll_b2 G F) x0 x1 (x2 + 1) h4)
theorem f_Gr_insertAll_b2_eq (G : Nat) (F : Nat) (x0 : Nat) (x1 : Nat) (x2 : Int32) (h : pH) : f_Gr_insertAll_b2 G (F + 1) x0 x1 x2 h = ((gI h x1 0 1).bind fun v1 => if v1 ≤ x2 then (some (none, h)) else ((gR h x1 0 0).bind fun v2 => (aI h v2 x2).bind fun v3 => cI (oC h x0 0) (f_Gr_insert G x0 v3 h) fun v7 h4 => (f_Gr_insertAll_b2 G F) x0 x1 (x2 + 1) h4)) := rfl
def f_Gr_insertAll (G : Nat) (x0 : Nat) (x1 : Nat) (h : pH) : Option pR := (f_Gr_insertAll_b2 G G) x0 x1 (0 : Int32) h
theorem f_Gr_insertAll_eq (G : Nat) (x0 : Nat) (x1 : Nat) (h : pH) : f_Gr_insertAll G x0 x1 h = ((f_Gr_insertAll_b2 G G) x0 x1 (0 : Int32) h) := rfl
set_option maxRecDepth 100000 in
set_option maxHeartbeats 4000000 in
theorem w_Gr_insertAll_b2 {X : zX} {r : pR} {G : Nat} (hQ : zQ X r) : ∀ (F : Nat) (x0 : Nat) (x1 : Nat) (x2 : Int32) (h : pH), f_Gr_insertAll_b2 G F x0 x1 x2 h = some r → Z X M_Gr_insertAll 0 0 h 2 [(0, .ref x0), (1, .ref x1), (2, .int x2)] [] := by
  intro F
  induction F with
  | zero => intro x0 x1 x2 h E; exact nomatch (show (none : Option pR) = some _ from E)
  | succ F ih =>
    intro x0 x1 x2 h E
    rw [f_Gr_insertAll_b2_eq] at E
    refine z_iload_n 2 d_Gr_insertAll_2 rfl rfl ?_
    refine z_aload_n 1 d_Gr_insertAll_3 rfl rfl ?_
    refine z_getI (ci := 0) (j := 1) rfl (by decide) zf_Gr_15 d_Gr_insertAll_4 E (fun v1 _ E => ?_)
    refine z_ic_ge (tgt := 27) d_Gr_insertAll_7 (by decide) E (fun E => ?_) (fun E => ?_)
    · exact z_return hQ rfl z00 d_Gr_insertAll_27 E
    · refine z_aload_n 0 d_Gr_insertAll_10 rfl rfl ?_
      refine z_aload_n 1 d_Gr_insertAll_11 rfl rfl ?_
      refine z_getR (ci := 0) (j := 0) rfl (by decide) zf_Gr_9 d_Gr_insertAll_12 E (fun v2 _ E => ?_)
      refine z_iload_n 2 d_Gr_insertAll_15 rfl rfl ?_
      refine z_iaload d_Gr_insertAll_16 E (fun v3 _ E => ?_)
      obtain ⟨g5, v7, h4, e6, E⟩ := cI_some E
      refine z_invV (ci := 0) (y := y_Gr_insert) (Mc := M_Gr_insert) (av := [.int v3]) (rest := []) rfl rfl ⟨zt_577, zt_277, zt_278, zt_49⟩ zk_Gr_insert zy_Gr_insert (by decide) (Nat.le_of_ble_eq_true rfl) z00 rfl (Nat.le_of_ble_eq_true rfl) d_Gr_insertAll_17 g5 (m_Gr_insert e6) ?_
      show Z X M_Gr_insertAll 0 0 h4 20 [(0, .ref x0), (1, .ref x1), (2, .int x2)] [.int v7]
      refine z_pop d_Gr_insertAll_20 rfl ?_
      refine z_iinc (v := (x2 + 1)) (lv2 := [(2, .int (x2 + 1)), (0, .ref x0), (1, .ref x1)]) 2 d_Gr_insertAll_21 rfl rfl (Nat.le_of_ble_eq_true rfl) rfl ?_
      refine z_goto (tgt := 2) d_Gr_insertAll_24 (by decide) ?_
      refine z_lv [1, 2, 0] rfl ?_
      exact ih x0 x1 (x2 + 1) h4 E
set_option maxRecDepth 100000 in
set_option maxHeartbeats 4000000 in
theorem w_Gr_insertAll_b0 {X : zX} {r : pR} {G : Nat} (hQ : zQ X r) : ∀ (x0 : Nat) (x1 : Nat) (h : pH), f_Gr_insertAll G x0 x1 h = some r → Z X M_Gr_insertAll 0 0 h 0 [(0, .ref x0), (1, .ref x1)] [] := by
  intro x0 x1 h E
  rw [f_Gr_insertAll_eq] at E
  refine z_iconst (v := (0 : Int32)) d_Gr_insertAll_0 (by decide) ?_
  refine z_istore_n (lv2 := [(2, .int (0 : Int32)), (0, .ref x0), (1, .ref x1)]) d_Gr_insertAll_1 rfl (Nat.le_of_ble_eq_true rfl) rfl ?_
  refine z_lv [1, 2, 0] rfl ?_
  exact (w_Gr_insertAll_b2 hQ G) x0 x1 (0 : Int32) h E
theorem m_Gr_insertAll {l : Launch} {G : Nat} {x0 : Nat} {x1 : Nat} {h : pH} {r : pR} (E : f_Gr_insertAll G x0 x1 h = some r) : zMet l y_Gr_insertAll M_Gr_insertAll 0 0 [.ref x0, .ref x1] h r :=
  zMet_of (by decide) rfl (Nat.le_of_ble_eq_true rfl) (fun p e s m args below meth c D0 cT => w_Gr_insertAll_b0 (X := (p, l, e, s, m, args, below, meth, c, D0, cT, h, _, 0, 0)) rfl x0 x1 h E)
def f_Gr_insertMissing_b39 (G : Nat) (k2 : Nat → Nat → Nat → Int32 → pH → Option pR) (x0 : Nat) (x1 : Nat) (x2 : Nat) (x3 : Int32) (h : pH) : Option pR := k2 x0 x1 x2 (x3 + 1) h
theorem f_Gr_insertMissing_b39_eq (G : Nat) (k2 : Nat → Nat → Nat → Int32 → pH → Option pR) (x0 : Nat) (x1 : Nat) (x2 : Nat) (x3 : Int32) (h : pH) : f_Gr_insertMissing_b39 G k2 x0 x1 x2 x3 h = (k2 x0 x1 x2 (x3 + 1) h) := rfl
def f_Gr_insertMissing_b2 (G : Nat) : Nat → Nat → Nat → Nat → Int32 → pH → Option pR
  | 0 => fun _ _ _ _ _ => none
  | F + 1 => fun x0 x1 x2 x3 h => (gI h x1 0 1).bind fun v1 => if v1 ≤ x3 then ((if isZ (1 : Int32) = true then some (some (.int (1 : Int32)), h) else none)) else ((gR h x1 0 0).bind fun v2 => (aI h v2 x3).bind fun v3 => cI (oC h x2 0) (f_Gr_has G x2 v3 h) fun v7 h4 => if v7 = 0 then (cI (oC h4 x0 0) (f_Gr_insert G x0 v3 h4) fun v11 h8 => if v11 = (-1 : Int32) then ((if isZ (0 : Int32) = true then some (some (.int (0 : Int32)), h8) else none)) else ((f_Gr_insertMissing_b39 G (f_Gr_insertMissing_b2 G F)) x0 x1 x2 x3 h8)) else ((f_Gr_insertMissing_b39 G (f_Gr_insertMissing_b2 G F)) x0 x1 x2 x3 h4))
theorem f_Gr_insertMissing_b2_eq (G : Nat) (F : Nat) (x0 : Nat) (x1 : Nat) (x2 : Nat) (x3 : Int32) (h : pH) : f_Gr_insertMissing_b2 G (F + 1) x0 x1 x2 x3 h = ((gI h x1 0 1).bind fun v1 => if v1 ≤ x3 then ((if isZ (1 : Int32) = true then some (some (.int (1 : Int32)), h) else none)) else ((gR h x1 0 0).bind fun v2 => (aI h v2 x3).bind fun v3 => cI (oC h x2 0) (f_Gr_has G x2 v3 h) fun v7 h4 => if v7 = 0 then (cI (oC h4 x0 0) (f_Gr_insert G x0 v3 h4) fun v11 h8 => if v11 = (-1 : Int32) then ((if isZ (0 : Int32) = true then some (some (.int (0 : Int32)), h8) else none)) else ((f_Gr_insertMissing_b39 G (f_Gr_insertMissing_b2 G F)) x0 x1 x2 x3 h8)) else ((f_Gr_insertMissing_b39 G (f_Gr_insertMissing_b2 G F)) x0 x1 x2 x3 h4))) := rfl
def f_Gr_insertMissing (G : Nat) (x0 : Nat) (x1 : Nat) (x2 : Nat) (h : pH) : Option pR := (f_Gr_insertMissing_b2 G G) x0 x1 x2 (0 : Int32) h
theorem f_Gr_insertMissing_eq (G : Nat) (x0 : Nat) (x1 : Nat) (x2 : Nat) (h : pH) : f_Gr_insertMissing G x0 x1 x2 h = ((f_Gr_insertMissing_b2 G G) x0 x1 x2 (0 : Int32) h) := rfl
set_option maxRecDepth 100000 in
set_option maxHeartbeats 4000000 in
theorem w_Gr_insertMissing_b39 {X : zX} {r : pR} {G : Nat} {k2 : Nat → Nat → Nat → Int32 → pH → Option pR} (hQ : zQ X r) (hk2 : ∀ (x0 : Nat) (x1 : Nat) (x2 : Nat) (x3 : Int32) (h : pH), k2 x0 x1 x2 x3 h = some r → Z X M_Gr_insertMissing 0 0 h 2 [(0, .ref x0), (1, .ref x1), (2, .ref x2), (3, .int x3)] []) : ∀ (x0 : Nat) (x1 : Nat) (x2 : Nat) (x3 : Int32) (h : pH), f_Gr_insertMissing_b39 G k2 x0 x1 x2 x3 h = some r → Z X M_Gr_insertMissing 0 0 h 39 [(0, .ref x0), (1, .ref x1), (2, .ref x2), (3, .int x3)] [] := by
  intro x0 x1 x2 x3 h E
  rw [f_Gr_insertMissing_b39_eq] at E
  refine z_iinc (v := (x3 + 1)) (lv2 := [(3, .int (x3 + 1)), (0, .ref x0), (1, .ref x1), (2, .ref x2)]) 3 d_Gr_insertMissing_39 rfl rfl (Nat.le_of_ble_eq_true rfl) rfl ?_
  refine z_goto (tgt := 2) d_Gr_insertMissing_42 (by decide) ?_
  refine z_lv [1, 2, 3, 0] rfl ?_
  exact hk2 x0 x1 x2 (x3 + 1) h E
set_option maxRecDepth 100000 in
set_option maxHeartbeats 4000000 in
theorem w_Gr_insertMissing_b2 {X : zX} {r : pR} {G : Nat} (hQ : zQ X r) : ∀ (F : Nat) (x0 : Nat) (x1 : Nat) (x2 : Nat) (x3 : Int32) (h : pH), f_Gr_insertMissing_b2 G F x0 x1 x2 x3 h = some r → Z X M_Gr_insertMissing 0 0 h 2 [(0, .ref x0), (1, .ref x1), (2, .ref x2), (3, .int x3)] [] := by
  intro F
  induction F with
  | zero => intro x0 x1 x2 x3 h E; exact nomatch (show (none : Option pR) = some _ from E)
  | succ F ih =>
    intro x0 x1 x2 x3 h E
    rw [f_Gr_insertMissing_b2_eq] at E
    refine z_iload_n 3 d_Gr_insertMissing_2 rfl rfl ?_
    refine z_aload_n 1 d_Gr_insertMissing_3 rfl rfl ?_
    refine z_getI (ci := 0) (j := 1) rfl (by decide) zf_Gr_15 d_Gr_insertMissing_4 E (fun v1 _ E => ?_)
    refine z_ic_ge (tgt := 45) d_Gr_insertMissing_7 (by decide) E (fun E => ?_) (fun E => ?_)
    · refine z_iconst (v := (1 : Int32)) d_Gr_insertMissing_45 (by decide) ?_
      exact z_zreturn hQ rfl z00 d_Gr_insertMissing_46 E
    · refine z_aload_n 1 d_Gr_insertMissing_10 rfl rfl ?_
      refine z_getR (ci := 0) (j := 0) rfl (by decide) zf_Gr_9 d_Gr_insertMissing_11 E (fun v2 _ E => ?_)
      refine z_iload_n 3 d_Gr_insertMissing_14 rfl rfl ?_
      refine z_iaload d_Gr_insertMissing_15 E (fun v3 _ E => ?_)
      refine z_istore (lv2 := [(4, .int v3), (0, .ref x0), (1, .ref x1), (2, .ref x2), (3, .int x3)]) d_Gr_insertMissing_16 (Nat.le_of_ble_eq_true rfl) rfl ?_
      refine z_aload_n 3 d_Gr_insertMissing_18 rfl rfl ?_
      refine z_iload 0 d_Gr_insertMissing_19 rfl ?_
      obtain ⟨g5, v7, h4, e6, E⟩ := cI_some E
      refine z_invV (ci := 0) (y := y_Gr_has) (Mc := M_Gr_has) (av := [.int v3]) (rest := []) rfl rfl ⟨zt_606, zt_607, zt_608, zt_49⟩ zk_Gr_has zy_Gr_has (by decide) (Nat.le_of_ble_eq_true rfl) z00 rfl (Nat.le_of_ble_eq_true rfl) d_Gr_insertMissing_21 g5 (m_Gr_has e6) ?_
      show Z X M_Gr_insertMissing 0 0 h4 24 [(4, .int v3), (0, .ref x0), (1, .ref x1), (2, .ref x2), (3, .int x3)] [.int v7]
      refine z_if_ne (y := 0) (tgt := 39) d_Gr_insertMissing_24 (by decide) E (fun E => ?_) (fun E => ?_)
      · refine z_lv [1, 2, 3, 4] rfl ?_
        exact (w_Gr_insertMissing_b39 hQ ih) x0 x1 x2 x3 h4 E
      · refine z_aload_n 1 d_Gr_insertMissing_27 rfl rfl ?_
        refine z_iload 0 d_Gr_insertMissing_28 rfl ?_
        obtain ⟨g9, v11, h8, e10, E⟩ := cI_some E
        refine z_invV (ci := 0) (y := y_Gr_insert) (Mc := M_Gr_insert) (av := [.int v3]) (rest := []) rfl rfl ⟨zt_577, zt_277, zt_278, zt_49⟩ zk_Gr_insert zy_Gr_insert (by decide) (Nat.le_of_ble_eq_true rfl) z00 rfl (Nat.le_of_ble_eq_true rfl) d_Gr_insertMissing_30 g9 (m_Gr_insert e10) ?_
        show Z X M_Gr_insertMissing 0 0 h8 33 [(4, .int v3), (0, .ref x0), (1, .ref x1), (2, .ref x2), (3, .int x3)] [.int v11]
        refine z_iconst (v := (-1 : Int32)) d_Gr_insertMissing_33 (by decide) ?_
        refine z_ic_ne (tgt := 39) d_Gr_insertMissing_34 (by decide) E (fun E => ?_) (fun E => ?_)
        · refine z_lv [1, 2, 3, 4] rfl ?_
          exact (w_Gr_insertMissing_b39 hQ ih) x0 x1 x2 x3 h8 E
        · refine z_iconst (v := (0 : Int32)) d_Gr_insertMissing_37 (by decide) ?_
          exact z_zreturn hQ rfl z00 d_Gr_insertMissing_38 E
set_option maxRecDepth 100000 in
set_option maxHeartbeats 4000000 in
theorem w_Gr_insertMissing_b0 {X : zX} {r : pR} {G : Nat} (hQ : zQ X r) : ∀ (x0 : Nat) (x1 : Nat) (x2 : Nat) (h : pH), f_Gr_insertMissing G x0 x1 x2 h = some r → Z X M_Gr_insertMissing 0 0 h 0 [(0, .ref x0), (1, .ref x1), (2, .ref x2)] [] := by
  intro x0 x1 x2 h E
  rw [f_Gr_insertMissing_eq] at E
  refine z_iconst (v := (0 : Int32)) d_Gr_insertMissing_0 (by decide) ?_
  refine z_istore_n (lv2 := [(3, .int (0 : Int32)), (0, .ref x0), (1, .ref x1), (2, .ref x2)]) d_Gr_insertMissing_1 rfl (Nat.le_of_ble_eq_true rfl) rfl ?_
  refine z_lv [1, 2, 3, 0] rfl ?_
  exact (w_Gr_insertMissing_b2 hQ G) x0 x1 x2 (0 : Int32) h E
theorem m_Gr_insertMissing {l : Launch} {G : Nat} {x0 : Nat} {x1 : Nat} {x2 : Nat} {h : pH} {r : pR} (E : f_Gr_insertMissing G x0 x1 x2 h = some r) : zMet l y_Gr_insertMissing M_Gr_insertMissing 0 0 [.ref x0, .ref x1, .ref x2] h r :=
  zMet_of (by decide) rfl (Nat.le_of_ble_eq_true rfl) (fun p e s m args below meth c D0 cT => w_Gr_insertMissing_b0 (X := (p, l, e, s, m, args, below, meth, c, D0, cT, h, _, 0, 0)) rfl x0 x1 x2 h E)
def f_Gr_insertKept_b46 (G : Nat) (k3 : Nat → Nat → Nat → Nat → Int32 → pH → Option pR) (x0 : Nat) (x1 : Nat) (x2 : Nat) (x3 : Nat) (x4 : Int32) (h : pH) : Option pR := k3 x0 x1 x2 x3 (x4 + 1) h
theorem f_Gr_insertKept_b46_eq (G : Nat) (k3 : Nat → Nat → Nat → Nat → Int32 → pH → Option pR) (x0 : Nat) (x1 : Nat) (x2 : Nat) (x3 : Nat) (x4 : Int32) (h : pH) : f_Gr_insertKept_b46 G k3 x0 x1 x2 x3 x4 h = (k3 x0 x1 x2 x3 (x4 + 1) h) := rfl
def f_Gr_insertKept_b3 (G : Nat) : Nat → Nat → Nat → Nat → Nat → Int32 → pH → Option pR
  | 0 => fun _ _ _ _ _ _ => none
  | F + 1 => fun x0 x1 x2 x3 x4 h => (gI h x1 0 1).bind fun v1 => if v1 ≤ x4 then (some (none, h)) else ((gR h x1 0 0).bind fun v2 => (aI h v2 x4).bind fun v3 => cI (oC h x2 0) (f_Gr_has G x2 v3 h) fun v7 h4 => if v7 = 0 then ((f_Gr_insertKept_b46 G (f_Gr_insertKept_b3 G F)) x0 x1 x2 x3 x4 h4) else (cI (oC h4 x3 0) (f_Gr_has G x3 v3 h4) fun v11 h8 => if v11 = 0 then ((f_Gr_insertKept_b46 G (f_Gr_insertKept_b3 G F)) x0 x1 x2 x3 x4 h8) else (cI (oC h8 x0 0) (f_Gr_insert G x0 v3 h8) fun v15 h12 => (f_Gr_insertKept_b46 G (f_Gr_insertKept_b3 G F)) x0 x1 x2 x3 x4 h12)))
theorem f_Gr_insertKept_b3_eq (G : Nat) (F : Nat) (x0 : Nat) (x1 : Nat) (x2 : Nat) (x3 : Nat) (x4 : Int32) (h : pH) : f_Gr_insertKept_b3 G (F + 1) x0 x1 x2 x3 x4 h = ((gI h x1 0 1).bind fun v1 => if v1 ≤ x4 then (some (none, h)) else ((gR h x1 0 0).bind fun v2 => (aI h v2 x4).bind fun v3 => cI (oC h x2 0) (f_Gr_has G x2 v3 h) fun v7 h4 => if v7 = 0 then ((f_Gr_insertKept_b46 G (f_Gr_insertKept_b3 G F)) x0 x1 x2 x3 x4 h4) else (cI (oC h4 x3 0) (f_Gr_has G x3 v3 h4) fun v11 h8 => if v11 = 0 then ((f_Gr_insertKept_b46 G (f_Gr_insertKept_b3 G F)) x0 x1 x2 x3 x4 h8) else (cI (oC h8 x0 0) (f_Gr_insert G x0 v3 h8) fun v15 h12 => (f_Gr_insertKept_b46 G (f_Gr_insertKept_b3 G F)) x0 x1 x2 x3 x4 h12)))) := rfl
def f_Gr_insertKept (G : Nat) (x0 : Nat) (x1 : Nat) (x2 : Nat) (x3 : Nat) (h : pH) : Option pR := (f_Gr_insertKept_b3 G G) x0 x1 x2 x3 (0 : Int32) h
theorem f_Gr_insertKept_eq (G : Nat) (x0 : Nat) (x1 : Nat) (x2 : Nat) (x3 : Nat) (h : pH) : f_Gr_insertKept G x0 x1 x2 x3 h = ((f_Gr_insertKept_b3 G G) x0 x1 x2 x3 (0 : Int32) h) := rfl
set_option maxRecDepth 100000 in
set_option maxHeartbeats 4000000 in
theorem w_Gr_insertKept_b46 {X : zX} {r : pR} {G : Nat} {k3 : Nat → Nat → Nat → Nat → Int32 → pH → Option pR} (hQ : zQ X r) (hk3 : ∀ (x0 : Nat) (x1 : Nat) (x2 : Nat) (x3 : Nat) (x4 : Int32) (h : pH), k3 x0 x1 x2 x3 x4 h = some r → Z X M_Gr_insertKept 0 0 h 3 [(0, .ref x0), (1, .ref x1), (2, .ref x2), (3, .ref x3), (4, .int x4)] []) : ∀ (x0 : Nat) (x1 : Nat) (x2 : Nat) (x3 : Nat) (x4 : Int32) (h : pH), f_Gr_insertKept_b46 G k3 x0 x1 x2 x3 x4 h = some r → Z X M_Gr_insertKept 0 0 h 46 [(0, .ref x0), (1, .ref x1), (2, .ref x2), (3, .ref x3), (4, .int x4)] [] := by
  intro x0 x1 x2 x3 x4 h E
  rw [f_Gr_insertKept_b46_eq] at E
  refine z_iinc (v := (x4 + 1)) (lv2 := [(4, .int (x4 + 1)), (0, .ref x0), (1, .ref x1), (2, .ref x2), (3, .ref x3)]) 4 d_Gr_insertKept_46 rfl rfl (Nat.le_of_ble_eq_true rfl) rfl ?_
  refine z_goto (tgt := 3) d_Gr_insertKept_49 (by decide) ?_
  refine z_lv [1, 2, 3, 4, 0] rfl ?_
  exact hk3 x0 x1 x2 x3 (x4 + 1) h E
set_option maxRecDepth 100000 in
set_option maxHeartbeats 4000000 in
theorem w_Gr_insertKept_b3 {X : zX} {r : pR} {G : Nat} (hQ : zQ X r) : ∀ (F : Nat) (x0 : Nat) (x1 : Nat) (x2 : Nat) (x3 : Nat) (x4 : Int32) (h : pH), f_Gr_insertKept_b3 G F x0 x1 x2 x3 x4 h = some r → Z X M_Gr_insertKept 0 0 h 3 [(0, .ref x0), (1, .ref x1), (2, .ref x2), (3, .ref x3), (4, .int x4)] [] := by
  intro F
  induction F with
  | zero => intro x0 x1 x2 x3 x4 h E; exact nomatch (show (none : Option pR) = some _ from E)
  | succ F ih =>
    intro x0 x1 x2 x3 x4 h E
    rw [f_Gr_insertKept_b3_eq] at E
    refine z_iload 4 d_Gr_insertKept_3 rfl ?_
    refine z_aload_n 1 d_Gr_insertKept_5 rfl rfl ?_
    refine z_getI (ci := 0) (j := 1) rfl (by decide) zf_Gr_15 d_Gr_insertKept_6 E (fun v1 _ E => ?_)
    refine z_ic_ge (tgt := 52) d_Gr_insertKept_9 (by decide) E (fun E => ?_) (fun E => ?_)
    · exact z_return hQ rfl z00 d_Gr_insertKept_52 E
    · refine z_aload_n 1 d_Gr_insertKept_12 rfl rfl ?_
      refine z_getR (ci := 0) (j := 0) rfl (by decide) zf_Gr_9 d_Gr_insertKept_13 E (fun v2 _ E => ?_)
      refine z_iload 4 d_Gr_insertKept_16 rfl ?_
      refine z_iaload d_Gr_insertKept_18 E (fun v3 _ E => ?_)
      refine z_istore (lv2 := [(5, .int v3), (0, .ref x0), (1, .ref x1), (2, .ref x2), (3, .ref x3), (4, .int x4)]) d_Gr_insertKept_19 (Nat.le_of_ble_eq_true rfl) rfl ?_
      refine z_aload_n 3 d_Gr_insertKept_21 rfl rfl ?_
      refine z_iload 0 d_Gr_insertKept_22 rfl ?_
      obtain ⟨g5, v7, h4, e6, E⟩ := cI_some E
      refine z_invV (ci := 0) (y := y_Gr_has) (Mc := M_Gr_has) (av := [.int v3]) (rest := []) rfl rfl ⟨zt_606, zt_607, zt_608, zt_49⟩ zk_Gr_has zy_Gr_has (by decide) (Nat.le_of_ble_eq_true rfl) z00 rfl (Nat.le_of_ble_eq_true rfl) d_Gr_insertKept_24 g5 (m_Gr_has e6) ?_
      show Z X M_Gr_insertKept 0 0 h4 27 [(5, .int v3), (0, .ref x0), (1, .ref x1), (2, .ref x2), (3, .ref x3), (4, .int x4)] [.int v7]
      refine z_if_eq (y := 0) (tgt := 46) d_Gr_insertKept_27 (by decide) E (fun E => ?_) (fun E => ?_)
      · refine z_lv [1, 2, 3, 4, 5] rfl ?_
        exact (w_Gr_insertKept_b46 hQ ih) x0 x1 x2 x3 x4 h4 E
      · refine z_aload_n 4 d_Gr_insertKept_30 rfl rfl ?_
        refine z_iload 0 d_Gr_insertKept_31 rfl ?_
        obtain ⟨g9, v11, h8, e10, E⟩ := cI_some E
        refine z_invV (ci := 0) (y := y_Gr_has) (Mc := M_Gr_has) (av := [.int v3]) (rest := []) rfl rfl ⟨zt_606, zt_607, zt_608, zt_49⟩ zk_Gr_has zy_Gr_has (by decide) (Nat.le_of_ble_eq_true rfl) z00 rfl (Nat.le_of_ble_eq_true rfl) d_Gr_insertKept_33 g9 (m_Gr_has e10) ?_
        show Z X M_Gr_insertKept 0 0 h8 36 [(5, .int v3), (0, .ref x0), (1, .ref x1), (2, .ref x2), (3, .ref x3), (4, .int x4)] [.int v11]
        refine z_if_eq (y := 0) (tgt := 46) d_Gr_insertKept_36 (by decide) E (fun E => ?_) (fun E => ?_)
        · refine z_lv [1, 2, 3, 4, 5] rfl ?_
          exact (w_Gr_insertKept_b46 hQ ih) x0 x1 x2 x3 x4 h8 E
        · refine z_aload_n 1 d_Gr_insertKept_39 rfl rfl ?_
          refine z_iload 0 d_Gr_insertKept_40 rfl ?_
          obtain ⟨g13, v15, h12, e14, E⟩ := cI_some E
          refine z_invV (ci := 0) (y := y_Gr_insert) (Mc := M_Gr_insert) (av := [.int v3]) (rest := []) rfl rfl ⟨zt_577, zt_277, zt_278, zt_49⟩ zk_Gr_insert zy_Gr_insert (by decide) (Nat.le_of_ble_eq_true rfl) z00 rfl (Nat.le_of_ble_eq_true rfl) d_Gr_insertKept_42 g13 (m_Gr_insert e14) ?_
          show Z X M_Gr_insertKept 0 0 h12 45 [(5, .int v3), (0, .ref x0), (1, .ref x1), (2, .ref x2), (3, .ref x3), (4, .int x4)] [.int v15]
          refine z_pop d_Gr_insertKept_45 rfl ?_
          refine z_lv [1, 2, 3, 4, 5] rfl ?_
          exact (w_Gr_insertKept_b46 hQ ih) x0 x1 x2 x3 x4 h12 E
set_option maxRecDepth 100000 in
set_option maxHeartbeats 4000000 in
theorem w_Gr_insertKept_b0 {X : zX} {r : pR} {G : Nat} (hQ : zQ X r) : ∀ (x0 : Nat) (x1 : Nat) (x2 : Nat) (x3 : Nat) (h : pH), f_Gr_insertKept G x0 x1 x2 x3 h = some r → Z X M_Gr_insertKept 0 0 h 0 [(0, .ref x0), (1, .ref x1), (2, .ref x2), (3, .ref x3)] [] := by
  intro x0 x1 x2 x3 h E
  rw [f_Gr_insertKept_eq] at E
  refine z_iconst (v := (0 : Int32)) d_Gr_insertKept_0 (by decide) ?_
  refine z_istore (lv2 := [(4, .int (0 : Int32)), (0, .ref x0), (1, .ref x1), (2, .ref x2), (3, .ref x3)]) d_Gr_insertKept_1 (Nat.le_of_ble_eq_true rfl) rfl ?_
  refine z_lv [1, 2, 3, 4, 0] rfl ?_
  exact (w_Gr_insertKept_b3 hQ G) x0 x1 x2 x3 (0 : Int32) h E
theorem m_Gr_insertKept {l : Launch} {G : Nat} {x0 : Nat} {x1 : Nat} {x2 : Nat} {x3 : Nat} {h : pH} {r : pR} (E : f_Gr_insertKept G x0 x1 x2 x3 h = some r) : zMet l y_Gr_insertKept M_Gr_insertKept 0 0 [.ref x0, .ref x1, .ref x2, .ref x3] h r :=
  zMet_of (by decide) rfl (Nat.le_of_ble_eq_true rfl) (fun p e s m args below meth c D0 cT => w_Gr_insertKept_b0 (X := (p, l, e, s, m, args, below, meth, c, D0, cT, h, _, 0, 0)) rfl x0 x1 x2 x3 h E)

def y_Mo_thrown : MethodName := ⟨"MergeGraphsModel", "thrown", "()I"⟩
abbrev M_Mo_thrown : zM := (nR4, prog_6_method_2_code, 1, (some .int), 0)
set_option maxRecDepth 100000 in
theorem zk_Mo_thrown : Cond.code y_Mo_thrown (M_Mo_thrown).2.1 (M_Mo_thrown).2.2.1 (M_Mo_thrown).2.2.2.1 ∈ zTg := zmem 741 rfl rfl
theorem zy_Mo_thrown : (y_Mo_thrown).cls ≠ "java/lang/invoke/MethodHandle" ∧ (y_Mo_thrown).cls ≠ "java/lang/invoke/VarHandle" ∧ (parseMethodDescriptor (y_Mo_thrown).desc).map (fun d => d.parameters.length) = some 0 := by decide +kernel
theorem d_Mo_thrown_0 : decode prog_6_method_2_code 0 = .ok (.aload_n 0, 1) := by decide +kernel
theorem d_Mo_thrown_1 : decode prog_6_method_2_code 1 = .ok (.getfield 46, 3) := by decide +kernel
theorem d_Mo_thrown_4 : decode prog_6_method_2_code 4 = .ok (.ireturn, 1) := by decide +kernel
theorem zf_Mo_46 : Cond.fieldLink nR4 46 (nT4 0).1 (nT4 0).2.1 (nT4 0).2.2.1 ∈ zTg := zmem 680 (by decide +kernel) (by decide +kernel)
def y_Mo_isGraph : MethodName := ⟨"MergeGraphsModel", "isGraph", "(I)Z"⟩
abbrev M_Mo_isGraph : zM := (nR4, prog_6_method_3_code, 1, (some .boolean), 0)
set_option maxRecDepth 100000 in
theorem zk_Mo_isGraph : Cond.code y_Mo_isGraph (M_Mo_isGraph).2.1 (M_Mo_isGraph).2.2.1 (M_Mo_isGraph).2.2.2.1 ∈ zTg := zmem 752 rfl rfl
theorem zy_Mo_isGraph : (y_Mo_isGraph).cls ≠ "java/lang/invoke/MethodHandle" ∧ (y_Mo_isGraph).cls ≠ "java/lang/invoke/VarHandle" ∧ (parseMethodDescriptor (y_Mo_isGraph).desc).map (fun d => d.parameters.length) = some 1 := by decide +kernel
theorem d_Mo_isGraph_0 : decode prog_6_method_3_code 0 = .ok (.iload_n 0, 1) := by decide +kernel
theorem d_Mo_isGraph_1 : decode prog_6_method_3_code 1 = .ok (.ifCond .lt 13, 3) := by decide +kernel
theorem d_Mo_isGraph_4 : decode prog_6_method_3_code 4 = .ok (.iload_n 0, 1) := by decide +kernel
theorem d_Mo_isGraph_5 : decode prog_6_method_3_code 5 = .ok (.bipush 6, 2) := by decide +kernel
theorem d_Mo_isGraph_7 : decode prog_6_method_3_code 7 = .ok (.if_icmp .ge 7, 3) := by decide +kernel
theorem d_Mo_isGraph_10 : decode prog_6_method_3_code 10 = .ok (.iconst 1, 1) := by decide +kernel
theorem d_Mo_isGraph_11 : decode prog_6_method_3_code 11 = .ok (.goto 4, 3) := by decide +kernel
theorem d_Mo_isGraph_14 : decode prog_6_method_3_code 14 = .ok (.iconst 0, 1) := by decide +kernel
theorem d_Mo_isGraph_15 : decode prog_6_method_3_code 15 = .ok (.ireturn, 1) := by decide +kernel
def y_Mo_there : MethodName := ⟨"MergeGraphsModel", "there", "(Z)Z"⟩
abbrev M_Mo_there : zM := (nR4, prog_6_method_4_code, 2, (some .boolean), 0)
set_option maxRecDepth 100000 in
theorem zk_Mo_there : Cond.code y_Mo_there (M_Mo_there).2.1 (M_Mo_there).2.2.1 (M_Mo_there).2.2.2.1 ∈ zTg := zmem 783 rfl rfl
theorem zy_Mo_there : (y_Mo_there).cls ≠ "java/lang/invoke/MethodHandle" ∧ (y_Mo_there).cls ≠ "java/lang/invoke/VarHandle" ∧ (parseMethodDescriptor (y_Mo_there).desc).map (fun d => d.parameters.length) = some 1 := by decide +kernel
theorem d_Mo_there_0 : decode prog_6_method_4_code 0 = .ok (.aload_n 0, 1) := by decide +kernel
theorem d_Mo_there_1 : decode prog_6_method_4_code 1 = .ok (.iload_n 1, 1) := by decide +kernel
theorem d_Mo_there_2 : decode prog_6_method_4_code 2 = .ok (.ifCond .eq 7, 3) := by decide +kernel
theorem d_Mo_there_5 : decode prog_6_method_4_code 5 = .ok (.iconst 0, 1) := by decide +kernel
theorem d_Mo_there_6 : decode prog_6_method_4_code 6 = .ok (.goto 4, 3) := by decide +kernel
theorem d_Mo_there_9 : decode prog_6_method_4_code 9 = .ok (.iconst 1, 1) := by decide +kernel
theorem d_Mo_there_10 : decode prog_6_method_4_code 10 = .ok (.putfield 46, 3) := by decide +kernel
theorem d_Mo_there_13 : decode prog_6_method_4_code 13 = .ok (.iload_n 1, 1) := by decide +kernel
theorem d_Mo_there_14 : decode prog_6_method_4_code 14 = .ok (.ireturn, 1) := by decide +kernel
def y_Mo_numberOf : MethodName := ⟨"MergeGraphsModel", "numberOf", "(II)I"⟩
abbrev M_Mo_numberOf : zM := (nR4, prog_6_method_5_code, 3, (some .int), 0)
set_option maxRecDepth 100000 in
theorem zk_Mo_numberOf : Cond.code y_Mo_numberOf (M_Mo_numberOf).2.1 (M_Mo_numberOf).2.2.1 (M_Mo_numberOf).2.2.2.1 ∈ zTg := zmem 763 rfl rfl
theorem zy_Mo_numberOf : (y_Mo_numberOf).cls ≠ "java/lang/invoke/MethodHandle" ∧ (y_Mo_numberOf).cls ≠ "java/lang/invoke/VarHandle" ∧ (parseMethodDescriptor (y_Mo_numberOf).desc).map (fun d => d.parameters.length) = some 2 := by decide +kernel
theorem d_Mo_numberOf_0 : decode prog_6_method_5_code 0 = .ok (.aload_n 0, 1) := by decide +kernel
theorem d_Mo_numberOf_1 : decode prog_6_method_5_code 1 = .ok (.getfield 7, 3) := by decide +kernel
theorem d_Mo_numberOf_4 : decode prog_6_method_5_code 4 = .ok (.bipush 30, 2) := by decide +kernel
theorem d_Mo_numberOf_6 : decode prog_6_method_5_code 6 = .ok (.iload_n 1, 1) := by decide +kernel
theorem d_Mo_numberOf_7 : decode prog_6_method_5_code 7 = .ok (.imul, 1) := by decide +kernel
theorem d_Mo_numberOf_8 : decode prog_6_method_5_code 8 = .ok (.iload_n 2, 1) := by decide +kernel
theorem d_Mo_numberOf_9 : decode prog_6_method_5_code 9 = .ok (.iadd, 1) := by decide +kernel
theorem d_Mo_numberOf_10 : decode prog_6_method_5_code 10 = .ok (.iaload, 1) := by decide +kernel
theorem d_Mo_numberOf_11 : decode prog_6_method_5_code 11 = .ok (.ireturn, 1) := by decide +kernel
theorem zf_Mo_7 : Cond.fieldLink nR4 7 (nT4 1).1 (nT4 1).2.1 (nT4 1).2.2.1 ∈ zTg := zmem 681 (by decide +kernel) (by decide +kernel)
def y_Mo_has : MethodName := ⟨"MergeGraphsModel", "has", "(II)Z"⟩
abbrev M_Mo_has : zM := (nR4, prog_6_method_6_code, 5, (some .boolean), 1)
set_option maxRecDepth 100000 in
theorem zk_Mo_has : Cond.code y_Mo_has (M_Mo_has).2.1 (M_Mo_has).2.2.1 (M_Mo_has).2.2.2.1 ∈ zTg := zmem 759 rfl rfl
theorem zy_Mo_has : (y_Mo_has).cls ≠ "java/lang/invoke/MethodHandle" ∧ (y_Mo_has).cls ≠ "java/lang/invoke/VarHandle" ∧ (parseMethodDescriptor (y_Mo_has).desc).map (fun d => d.parameters.length) = some 2 := by decide +kernel
theorem d_Mo_has_0 : decode prog_6_method_6_code 0 = .ok (.iconst 0, 1) := by decide +kernel
theorem d_Mo_has_1 : decode prog_6_method_6_code 1 = .ok (.istore_n 3, 1) := by decide +kernel
theorem d_Mo_has_2 : decode prog_6_method_6_code 2 = .ok (.iconst 0, 1) := by decide +kernel
theorem d_Mo_has_3 : decode prog_6_method_6_code 3 = .ok (.istore 4, 2) := by decide +kernel
theorem d_Mo_has_5 : decode prog_6_method_6_code 5 = .ok (.iload 4, 2) := by decide +kernel
theorem d_Mo_has_7 : decode prog_6_method_6_code 7 = .ok (.aload_n 0, 1) := by decide +kernel
theorem d_Mo_has_8 : decode prog_6_method_6_code 8 = .ok (.getfield 13, 3) := by decide +kernel
theorem d_Mo_has_11 : decode prog_6_method_6_code 11 = .ok (.iload_n 1, 1) := by decide +kernel
theorem d_Mo_has_12 : decode prog_6_method_6_code 12 = .ok (.iaload, 1) := by decide +kernel
theorem d_Mo_has_13 : decode prog_6_method_6_code 13 = .ok (.if_icmp .ge 30, 3) := by decide +kernel
theorem d_Mo_has_16 : decode prog_6_method_6_code 16 = .ok (.iload_n 3, 1) := by decide +kernel
theorem d_Mo_has_17 : decode prog_6_method_6_code 17 = .ok (.ifCond .ne 14, 3) := by decide +kernel
theorem d_Mo_has_20 : decode prog_6_method_6_code 20 = .ok (.aload_n 0, 1) := by decide +kernel
theorem d_Mo_has_21 : decode prog_6_method_6_code 21 = .ok (.iload_n 1, 1) := by decide +kernel
theorem d_Mo_has_22 : decode prog_6_method_6_code 22 = .ok (.iload 4, 2) := by decide +kernel
theorem d_Mo_has_24 : decode prog_6_method_6_code 24 = .ok (.invokevirtual 50, 3) := by decide +kernel
theorem d_Mo_has_27 : decode prog_6_method_6_code 27 = .ok (.iload_n 2, 1) := by decide +kernel
theorem d_Mo_has_28 : decode prog_6_method_6_code 28 = .ok (.if_icmp .ne 7, 3) := by decide +kernel
theorem d_Mo_has_31 : decode prog_6_method_6_code 31 = .ok (.iconst 1, 1) := by decide +kernel
theorem d_Mo_has_32 : decode prog_6_method_6_code 32 = .ok (.goto 4, 3) := by decide +kernel
theorem d_Mo_has_35 : decode prog_6_method_6_code 35 = .ok (.iconst 0, 1) := by decide +kernel
theorem d_Mo_has_36 : decode prog_6_method_6_code 36 = .ok (.istore_n 3, 1) := by decide +kernel
theorem d_Mo_has_37 : decode prog_6_method_6_code 37 = .ok (.iinc 4 1, 3) := by decide +kernel
theorem d_Mo_has_40 : decode prog_6_method_6_code 40 = .ok (.goto (-35), 3) := by decide +kernel
theorem d_Mo_has_43 : decode prog_6_method_6_code 43 = .ok (.iload_n 3, 1) := by decide +kernel
theorem d_Mo_has_44 : decode prog_6_method_6_code 44 = .ok (.ireturn, 1) := by decide +kernel
theorem zf_Mo_13 : Cond.fieldLink nR4 13 (nT4 2).1 (nT4 2).2.1 (nT4 2).2.2.1 ∈ zTg := zmem 682 (by decide +kernel) (by decide +kernel)
theorem zt_27 : (Cond.selects "MergeGraphsModel" (⟨"MergeGraphsModel", "numberOf", "(II)I"⟩ : MethodName) (⟨"MergeGraphsModel", "numberOf", "(II)I"⟩ : MethodName)) ∈ zTg := zmem 27 (by decide +kernel) (by decide +kernel)
theorem zt_52 : (Cond.initialized "MergeGraphsModel") ∈ zTg := zmem 52 (by decide +kernel) (by decide +kernel)
theorem zt_760 : (Cond.methodLink "MergeGraphsModel" (50 : Nat) (⟨"MergeGraphsModel", "numberOf", "(II)I"⟩ : MethodName)) ∈ zTg := zmem 760 (by decide +kernel) (by decide +kernel)
theorem zt_762 : (Cond.instanceMethod (⟨"MergeGraphsModel", "numberOf", "(II)I"⟩ : MethodName)) ∈ zTg := zmem 762 (by decide +kernel) (by decide +kernel)
def y_Mo_add : MethodName := ⟨"MergeGraphsModel", "add", "(I)V"⟩
abbrev M_Mo_add : zM := (nR4, prog_6_method_7_code, 4, none, 0)
set_option maxRecDepth 100000 in
theorem zk_Mo_add : Cond.code y_Mo_add (M_Mo_add).2.1 (M_Mo_add).2.2.1 (M_Mo_add).2.2.2.1 ∈ zTg := zmem 767 rfl rfl
theorem zy_Mo_add : (y_Mo_add).cls ≠ "java/lang/invoke/MethodHandle" ∧ (y_Mo_add).cls ≠ "java/lang/invoke/VarHandle" ∧ (parseMethodDescriptor (y_Mo_add).desc).map (fun d => d.parameters.length) = some 1 := by decide +kernel
theorem d_Mo_add_0 : decode prog_6_method_7_code 0 = .ok (.aload_n 0, 1) := by decide +kernel
theorem d_Mo_add_1 : decode prog_6_method_7_code 1 = .ok (.getfield 54, 3) := by decide +kernel
theorem d_Mo_add_4 : decode prog_6_method_7_code 4 = .ok (.istore_n 2, 1) := by decide +kernel
theorem d_Mo_add_5 : decode prog_6_method_7_code 5 = .ok (.iload_n 2, 1) := by decide +kernel
theorem d_Mo_add_6 : decode prog_6_method_7_code 6 = .ok (.ifCond .le 21, 3) := by decide +kernel
theorem d_Mo_add_9 : decode prog_6_method_7_code 9 = .ok (.aload_n 0, 1) := by decide +kernel
theorem d_Mo_add_10 : decode prog_6_method_7_code 10 = .ok (.getfield 16, 3) := by decide +kernel
theorem d_Mo_add_13 : decode prog_6_method_7_code 13 = .ok (.iload_n 2, 1) := by decide +kernel
theorem d_Mo_add_14 : decode prog_6_method_7_code 14 = .ok (.iconst 1, 1) := by decide +kernel
theorem d_Mo_add_15 : decode prog_6_method_7_code 15 = .ok (.isub, 1) := by decide +kernel
theorem d_Mo_add_16 : decode prog_6_method_7_code 16 = .ok (.iaload, 1) := by decide +kernel
theorem d_Mo_add_17 : decode prog_6_method_7_code 17 = .ok (.iload_n 1, 1) := by decide +kernel
theorem d_Mo_add_18 : decode prog_6_method_7_code 18 = .ok (.if_icmp .le 9, 3) := by decide +kernel
theorem d_Mo_add_21 : decode prog_6_method_7_code 21 = .ok (.iinc 2 (-1), 3) := by decide +kernel
theorem d_Mo_add_24 : decode prog_6_method_7_code 24 = .ok (.goto (-19), 3) := by decide +kernel
theorem d_Mo_add_27 : decode prog_6_method_7_code 27 = .ok (.iload_n 2, 1) := by decide +kernel
theorem d_Mo_add_28 : decode prog_6_method_7_code 28 = .ok (.ifCond .le 16, 3) := by decide +kernel
theorem d_Mo_add_31 : decode prog_6_method_7_code 31 = .ok (.aload_n 0, 1) := by decide +kernel
theorem d_Mo_add_32 : decode prog_6_method_7_code 32 = .ok (.getfield 16, 3) := by decide +kernel
theorem d_Mo_add_35 : decode prog_6_method_7_code 35 = .ok (.iload_n 2, 1) := by decide +kernel
theorem d_Mo_add_36 : decode prog_6_method_7_code 36 = .ok (.iconst 1, 1) := by decide +kernel
theorem d_Mo_add_37 : decode prog_6_method_7_code 37 = .ok (.isub, 1) := by decide +kernel
theorem d_Mo_add_38 : decode prog_6_method_7_code 38 = .ok (.iaload, 1) := by decide +kernel
theorem d_Mo_add_39 : decode prog_6_method_7_code 39 = .ok (.iload_n 1, 1) := by decide +kernel
theorem d_Mo_add_40 : decode prog_6_method_7_code 40 = .ok (.if_icmp .ne 4, 3) := by decide +kernel
theorem d_Mo_add_43 : decode prog_6_method_7_code 43 = .ok (.return_, 1) := by decide +kernel
theorem d_Mo_add_44 : decode prog_6_method_7_code 44 = .ok (.aload_n 0, 1) := by decide +kernel
theorem d_Mo_add_45 : decode prog_6_method_7_code 45 = .ok (.getfield 54, 3) := by decide +kernel
theorem d_Mo_add_48 : decode prog_6_method_7_code 48 = .ok (.istore_n 3, 1) := by decide +kernel
theorem d_Mo_add_49 : decode prog_6_method_7_code 49 = .ok (.iload_n 3, 1) := by decide +kernel
theorem d_Mo_add_50 : decode prog_6_method_7_code 50 = .ok (.iload_n 2, 1) := by decide +kernel
theorem d_Mo_add_51 : decode prog_6_method_7_code 51 = .ok (.if_icmp .le 23, 3) := by decide +kernel
theorem d_Mo_add_54 : decode prog_6_method_7_code 54 = .ok (.aload_n 0, 1) := by decide +kernel
theorem d_Mo_add_55 : decode prog_6_method_7_code 55 = .ok (.getfield 16, 3) := by decide +kernel
theorem d_Mo_add_58 : decode prog_6_method_7_code 58 = .ok (.iload_n 3, 1) := by decide +kernel
theorem d_Mo_add_59 : decode prog_6_method_7_code 59 = .ok (.aload_n 0, 1) := by decide +kernel
theorem d_Mo_add_60 : decode prog_6_method_7_code 60 = .ok (.getfield 16, 3) := by decide +kernel
theorem d_Mo_add_63 : decode prog_6_method_7_code 63 = .ok (.iload_n 3, 1) := by decide +kernel
theorem d_Mo_add_64 : decode prog_6_method_7_code 64 = .ok (.iconst 1, 1) := by decide +kernel
theorem d_Mo_add_65 : decode prog_6_method_7_code 65 = .ok (.isub, 1) := by decide +kernel
theorem d_Mo_add_66 : decode prog_6_method_7_code 66 = .ok (.iaload, 1) := by decide +kernel
theorem d_Mo_add_67 : decode prog_6_method_7_code 67 = .ok (.iastore, 1) := by decide +kernel
theorem d_Mo_add_68 : decode prog_6_method_7_code 68 = .ok (.iinc 3 (-1), 3) := by decide +kernel
theorem d_Mo_add_71 : decode prog_6_method_7_code 71 = .ok (.goto (-22), 3) := by decide +kernel
theorem d_Mo_add_74 : decode prog_6_method_7_code 74 = .ok (.aload_n 0, 1) := by decide +kernel
theorem d_Mo_add_75 : decode prog_6_method_7_code 75 = .ok (.getfield 16, 3) := by decide +kernel
theorem d_Mo_add_78 : decode prog_6_method_7_code 78 = .ok (.iload_n 2, 1) := by decide +kernel
theorem d_Mo_add_79 : decode prog_6_method_7_code 79 = .ok (.iload_n 1, 1) := by decide +kernel
theorem d_Mo_add_80 : decode prog_6_method_7_code 80 = .ok (.iastore, 1) := by decide +kernel
theorem d_Mo_add_81 : decode prog_6_method_7_code 81 = .ok (.aload_n 0, 1) := by decide +kernel
theorem d_Mo_add_82 : decode prog_6_method_7_code 82 = .ok (.dup, 1) := by decide +kernel
theorem d_Mo_add_83 : decode prog_6_method_7_code 83 = .ok (.getfield 54, 3) := by decide +kernel
theorem d_Mo_add_86 : decode prog_6_method_7_code 86 = .ok (.iconst 1, 1) := by decide +kernel
theorem d_Mo_add_87 : decode prog_6_method_7_code 87 = .ok (.iadd, 1) := by decide +kernel
theorem d_Mo_add_88 : decode prog_6_method_7_code 88 = .ok (.putfield 54, 3) := by decide +kernel
theorem d_Mo_add_91 : decode prog_6_method_7_code 91 = .ok (.return_, 1) := by decide +kernel
theorem zf_Mo_16 : Cond.fieldLink nR4 16 (nT4 3).1 (nT4 3).2.1 (nT4 3).2.2.1 ∈ zTg := zmem 683 (by decide +kernel) (by decide +kernel)
theorem zf_Mo_54 : Cond.fieldLink nR4 54 (nT4 4).1 (nT4 4).2.1 (nT4 4).2.2.1 ∈ zTg := zmem 684 (by decide +kernel) (by decide +kernel)
def y_Mo_keep : MethodName := ⟨"MergeGraphsModel", "keep", "(I)V"⟩
abbrev M_Mo_keep : zM := (nR4, prog_6_method_8_code, 3, none, 0)
set_option maxRecDepth 100000 in
theorem zk_Mo_keep : Cond.code y_Mo_keep (M_Mo_keep).2.1 (M_Mo_keep).2.2.1 (M_Mo_keep).2.2.2.1 ∈ zTg := zmem 771 rfl rfl
theorem zy_Mo_keep : (y_Mo_keep).cls ≠ "java/lang/invoke/MethodHandle" ∧ (y_Mo_keep).cls ≠ "java/lang/invoke/VarHandle" ∧ (parseMethodDescriptor (y_Mo_keep).desc).map (fun d => d.parameters.length) = some 1 := by decide +kernel
theorem d_Mo_keep_0 : decode prog_6_method_8_code 0 = .ok (.iconst 0, 1) := by decide +kernel
theorem d_Mo_keep_1 : decode prog_6_method_8_code 1 = .ok (.istore_n 2, 1) := by decide +kernel
theorem d_Mo_keep_2 : decode prog_6_method_8_code 2 = .ok (.iload_n 2, 1) := by decide +kernel
theorem d_Mo_keep_3 : decode prog_6_method_8_code 3 = .ok (.aload_n 0, 1) := by decide +kernel
theorem d_Mo_keep_4 : decode prog_6_method_8_code 4 = .ok (.getfield 54, 3) := by decide +kernel
theorem d_Mo_keep_7 : decode prog_6_method_8_code 7 = .ok (.if_icmp .ge 26, 3) := by decide +kernel
theorem d_Mo_keep_10 : decode prog_6_method_8_code 10 = .ok (.aload_n 0, 1) := by decide +kernel
theorem d_Mo_keep_11 : decode prog_6_method_8_code 11 = .ok (.getfield 7, 3) := by decide +kernel
theorem d_Mo_keep_14 : decode prog_6_method_8_code 14 = .ok (.bipush 30, 2) := by decide +kernel
theorem d_Mo_keep_16 : decode prog_6_method_8_code 16 = .ok (.iload_n 1, 1) := by decide +kernel
theorem d_Mo_keep_17 : decode prog_6_method_8_code 17 = .ok (.imul, 1) := by decide +kernel
theorem d_Mo_keep_18 : decode prog_6_method_8_code 18 = .ok (.iload_n 2, 1) := by decide +kernel
theorem d_Mo_keep_19 : decode prog_6_method_8_code 19 = .ok (.iadd, 1) := by decide +kernel
theorem d_Mo_keep_20 : decode prog_6_method_8_code 20 = .ok (.aload_n 0, 1) := by decide +kernel
theorem d_Mo_keep_21 : decode prog_6_method_8_code 21 = .ok (.getfield 16, 3) := by decide +kernel
theorem d_Mo_keep_24 : decode prog_6_method_8_code 24 = .ok (.iload_n 2, 1) := by decide +kernel
theorem d_Mo_keep_25 : decode prog_6_method_8_code 25 = .ok (.iaload, 1) := by decide +kernel
theorem d_Mo_keep_26 : decode prog_6_method_8_code 26 = .ok (.iastore, 1) := by decide +kernel
theorem d_Mo_keep_27 : decode prog_6_method_8_code 27 = .ok (.iinc 2 1, 3) := by decide +kernel
theorem d_Mo_keep_30 : decode prog_6_method_8_code 30 = .ok (.goto (-28), 3) := by decide +kernel
theorem d_Mo_keep_33 : decode prog_6_method_8_code 33 = .ok (.aload_n 0, 1) := by decide +kernel
theorem d_Mo_keep_34 : decode prog_6_method_8_code 34 = .ok (.getfield 13, 3) := by decide +kernel
theorem d_Mo_keep_37 : decode prog_6_method_8_code 37 = .ok (.iload_n 1, 1) := by decide +kernel
theorem d_Mo_keep_38 : decode prog_6_method_8_code 38 = .ok (.aload_n 0, 1) := by decide +kernel
theorem d_Mo_keep_39 : decode prog_6_method_8_code 39 = .ok (.getfield 54, 3) := by decide +kernel
theorem d_Mo_keep_42 : decode prog_6_method_8_code 42 = .ok (.iastore, 1) := by decide +kernel
theorem d_Mo_keep_43 : decode prog_6_method_8_code 43 = .ok (.return_, 1) := by decide +kernel
def y_Mo_subject : MethodName := ⟨"MergeGraphsModel", "subject", "(I)I"⟩
abbrev M_Mo_subject : zM := (nR4, prog_6_method_9_code, 1, (some .int), 0)
set_option maxRecDepth 100000 in
theorem zk_Mo_subject : Cond.code y_Mo_subject (M_Mo_subject).2.1 (M_Mo_subject).2.2.1 (M_Mo_subject).2.2.2.1 ∈ zTg := zmem 794 rfl rfl
theorem zy_Mo_subject : (y_Mo_subject).cls ≠ "java/lang/invoke/MethodHandle" ∧ (y_Mo_subject).cls ≠ "java/lang/invoke/VarHandle" ∧ (parseMethodDescriptor (y_Mo_subject).desc).map (fun d => d.parameters.length) = some 1 := by decide +kernel
theorem d_Mo_subject_0 : decode prog_6_method_9_code 0 = .ok (.iload_n 0, 1) := by decide +kernel
theorem d_Mo_subject_1 : decode prog_6_method_9_code 1 = .ok (.sipush 4096, 3) := by decide +kernel
theorem d_Mo_subject_4 : decode prog_6_method_9_code 4 = .ok (.idiv, 1) := by decide +kernel
theorem d_Mo_subject_5 : decode prog_6_method_9_code 5 = .ok (.ireturn, 1) := by decide +kernel
def y_Mo_object : MethodName := ⟨"MergeGraphsModel", "object", "(I)I"⟩
abbrev M_Mo_object : zM := (nR4, prog_6_method_10_code, 1, (some .int), 0)
set_option maxRecDepth 100000 in
theorem zk_Mo_object : Cond.code y_Mo_object (M_Mo_object).2.1 (M_Mo_object).2.2.1 (M_Mo_object).2.2.2.1 ∈ zTg := zmem 797 rfl rfl
theorem zy_Mo_object : (y_Mo_object).cls ≠ "java/lang/invoke/MethodHandle" ∧ (y_Mo_object).cls ≠ "java/lang/invoke/VarHandle" ∧ (parseMethodDescriptor (y_Mo_object).desc).map (fun d => d.parameters.length) = some 1 := by decide +kernel
theorem d_Mo_object_0 : decode prog_6_method_10_code 0 = .ok (.iload_n 0, 1) := by decide +kernel
theorem d_Mo_object_1 : decode prog_6_method_10_code 1 = .ok (.bipush 64, 2) := by decide +kernel
theorem d_Mo_object_3 : decode prog_6_method_10_code 3 = .ok (.irem, 1) := by decide +kernel
theorem d_Mo_object_4 : decode prog_6_method_10_code 4 = .ok (.ireturn, 1) := by decide +kernel
def y_Mo_numbered : MethodName := ⟨"MergeGraphsModel", "numbered", "(III)I"⟩
abbrev M_Mo_numbered : zM := (nR4, prog_6_method_11_code, 3, (some .int), 0)
set_option maxRecDepth 100000 in
theorem zk_Mo_numbered : Cond.code y_Mo_numbered (M_Mo_numbered).2.1 (M_Mo_numbered).2.2.1 (M_Mo_numbered).2.2.2.1 ∈ zTg := zmem 755 rfl rfl
theorem zy_Mo_numbered : (y_Mo_numbered).cls ≠ "java/lang/invoke/MethodHandle" ∧ (y_Mo_numbered).cls ≠ "java/lang/invoke/VarHandle" ∧ (parseMethodDescriptor (y_Mo_numbered).desc).map (fun d => d.parameters.length) = some 3 := by decide +kernel
theorem d_Mo_numbered_0 : decode prog_6_method_11_code 0 = .ok (.sipush 4096, 3) := by decide +kernel
theorem d_Mo_numbered_3 : decode prog_6_method_11_code 3 = .ok (.iload_n 0, 1) := by decide +kernel
theorem d_Mo_numbered_4 : decode prog_6_method_11_code 4 = .ok (.imul, 1) := by decide +kernel
theorem d_Mo_numbered_5 : decode prog_6_method_11_code 5 = .ok (.bipush 64, 2) := by decide +kernel
theorem d_Mo_numbered_7 : decode prog_6_method_11_code 7 = .ok (.iload_n 1, 1) := by decide +kernel
theorem d_Mo_numbered_8 : decode prog_6_method_11_code 8 = .ok (.imul, 1) := by decide +kernel
theorem d_Mo_numbered_9 : decode prog_6_method_11_code 9 = .ok (.iadd, 1) := by decide +kernel
theorem d_Mo_numbered_10 : decode prog_6_method_11_code 10 = .ok (.iload_n 2, 1) := by decide +kernel
theorem d_Mo_numbered_11 : decode prog_6_method_11_code 11 = .ok (.iadd, 1) := by decide +kernel
theorem d_Mo_numbered_12 : decode prog_6_method_11_code 12 = .ok (.ireturn, 1) := by decide +kernel
def y_Mo_stands : MethodName := ⟨"MergeGraphsModel", "stands", "(III)Z"⟩
abbrev M_Mo_stands : zM := (nR4, prog_6_method_12_code, 7, (some .boolean), 1)
set_option maxRecDepth 100000 in
theorem zk_Mo_stands : Cond.code y_Mo_stands (M_Mo_stands).2.1 (M_Mo_stands).2.2.1 (M_Mo_stands).2.2.2.1 ∈ zTg := zmem 791 rfl rfl
theorem zy_Mo_stands : (y_Mo_stands).cls ≠ "java/lang/invoke/MethodHandle" ∧ (y_Mo_stands).cls ≠ "java/lang/invoke/VarHandle" ∧ (parseMethodDescriptor (y_Mo_stands).desc).map (fun d => d.parameters.length) = some 3 := by decide +kernel
theorem d_Mo_stands_0 : decode prog_6_method_12_code 0 = .ok (.iconst 0, 1) := by decide +kernel
theorem d_Mo_stands_1 : decode prog_6_method_12_code 1 = .ok (.istore 4, 2) := by decide +kernel
theorem d_Mo_stands_3 : decode prog_6_method_12_code 3 = .ok (.iconst 0, 1) := by decide +kernel
theorem d_Mo_stands_4 : decode prog_6_method_12_code 4 = .ok (.istore 5, 2) := by decide +kernel
theorem d_Mo_stands_6 : decode prog_6_method_12_code 6 = .ok (.iload 5, 2) := by decide +kernel
theorem d_Mo_stands_8 : decode prog_6_method_12_code 8 = .ok (.aload_n 0, 1) := by decide +kernel
theorem d_Mo_stands_9 : decode prog_6_method_12_code 9 = .ok (.getfield 13, 3) := by decide +kernel
theorem d_Mo_stands_12 : decode prog_6_method_12_code 12 = .ok (.iload_n 1, 1) := by decide +kernel
theorem d_Mo_stands_13 : decode prog_6_method_12_code 13 = .ok (.iaload, 1) := by decide +kernel
theorem d_Mo_stands_14 : decode prog_6_method_12_code 14 = .ok (.if_icmp .ge 57, 3) := by decide +kernel
theorem d_Mo_stands_17 : decode prog_6_method_12_code 17 = .ok (.aload_n 0, 1) := by decide +kernel
theorem d_Mo_stands_18 : decode prog_6_method_12_code 18 = .ok (.iload_n 1, 1) := by decide +kernel
theorem d_Mo_stands_19 : decode prog_6_method_12_code 19 = .ok (.iload 5, 2) := by decide +kernel
theorem d_Mo_stands_21 : decode prog_6_method_12_code 21 = .ok (.invokevirtual 50, 3) := by decide +kernel
theorem d_Mo_stands_24 : decode prog_6_method_12_code 24 = .ok (.istore 6, 2) := by decide +kernel
theorem d_Mo_stands_26 : decode prog_6_method_12_code 26 = .ok (.iload 4, 2) := by decide +kernel
theorem d_Mo_stands_28 : decode prog_6_method_12_code 28 = .ok (.ifCond .ne 30, 3) := by decide +kernel
theorem d_Mo_stands_31 : decode prog_6_method_12_code 31 = .ok (.iload_n 3, 1) := by decide +kernel
theorem d_Mo_stands_32 : decode prog_6_method_12_code 32 = .ok (.iconst 1, 1) := by decide +kernel
theorem d_Mo_stands_33 : decode prog_6_method_12_code 33 = .ok (.if_icmp .eq 12, 3) := by decide +kernel
theorem d_Mo_stands_36 : decode prog_6_method_12_code 36 = .ok (.iload 6, 2) := by decide +kernel
theorem d_Mo_stands_38 : decode prog_6_method_12_code 38 = .ok (.invokestatic 57, 3) := by decide +kernel
theorem d_Mo_stands_41 : decode prog_6_method_12_code 41 = .ok (.iload_n 2, 1) := by decide +kernel
theorem d_Mo_stands_42 : decode prog_6_method_12_code 42 = .ok (.if_icmp .eq 16, 3) := by decide +kernel
theorem d_Mo_stands_45 : decode prog_6_method_12_code 45 = .ok (.iload_n 3, 1) := by decide +kernel
theorem d_Mo_stands_46 : decode prog_6_method_12_code 46 = .ok (.ifCond .eq 16, 3) := by decide +kernel
theorem d_Mo_stands_49 : decode prog_6_method_12_code 49 = .ok (.iload 6, 2) := by decide +kernel
theorem d_Mo_stands_51 : decode prog_6_method_12_code 51 = .ok (.invokestatic 61, 3) := by decide +kernel
theorem d_Mo_stands_54 : decode prog_6_method_12_code 54 = .ok (.iload_n 2, 1) := by decide +kernel
theorem d_Mo_stands_55 : decode prog_6_method_12_code 55 = .ok (.if_icmp .ne 7, 3) := by decide +kernel
theorem d_Mo_stands_58 : decode prog_6_method_12_code 58 = .ok (.iconst 1, 1) := by decide +kernel
theorem d_Mo_stands_59 : decode prog_6_method_12_code 59 = .ok (.goto 4, 3) := by decide +kernel
theorem d_Mo_stands_62 : decode prog_6_method_12_code 62 = .ok (.iconst 0, 1) := by decide +kernel
theorem d_Mo_stands_63 : decode prog_6_method_12_code 63 = .ok (.istore 4, 2) := by decide +kernel
theorem d_Mo_stands_65 : decode prog_6_method_12_code 65 = .ok (.iinc 5 1, 3) := by decide +kernel
theorem d_Mo_stands_68 : decode prog_6_method_12_code 68 = .ok (.goto (-62), 3) := by decide +kernel
theorem d_Mo_stands_71 : decode prog_6_method_12_code 71 = .ok (.iload 4, 2) := by decide +kernel
theorem d_Mo_stands_73 : decode prog_6_method_12_code 73 = .ok (.ireturn, 1) := by decide +kernel
theorem zt_792 : (Cond.methodLink "MergeGraphsModel" (57 : Nat) (⟨"MergeGraphsModel", "subject", "(I)I"⟩ : MethodName)) ∈ zTg := zmem 792 (by decide +kernel) (by decide +kernel)
theorem zt_793 : (Cond.static (⟨"MergeGraphsModel", "subject", "(I)I"⟩ : MethodName)) ∈ zTg := zmem 793 (by decide +kernel) (by decide +kernel)
theorem zt_795 : (Cond.methodLink "MergeGraphsModel" (61 : Nat) (⟨"MergeGraphsModel", "object", "(I)I"⟩ : MethodName)) ∈ zTg := zmem 795 (by decide +kernel) (by decide +kernel)
theorem zt_796 : (Cond.static (⟨"MergeGraphsModel", "object", "(I)I"⟩ : MethodName)) ∈ zTg := zmem 796 (by decide +kernel) (by decide +kernel)
def y_Mo_nodesOf : MethodName := ⟨"MergeGraphsModel", "nodesOf", "(I)I"⟩
abbrev M_Mo_nodesOf : zM := (nR4, prog_6_method_13_code, 4, (some .int), 2)
set_option maxRecDepth 100000 in
theorem zk_Mo_nodesOf : Cond.code y_Mo_nodesOf (M_Mo_nodesOf).2.1 (M_Mo_nodesOf).2.2.1 (M_Mo_nodesOf).2.2.2.1 ∈ zTg := zmem 801 rfl rfl
theorem zy_Mo_nodesOf : (y_Mo_nodesOf).cls ≠ "java/lang/invoke/MethodHandle" ∧ (y_Mo_nodesOf).cls ≠ "java/lang/invoke/VarHandle" ∧ (parseMethodDescriptor (y_Mo_nodesOf).desc).map (fun d => d.parameters.length) = some 1 := by decide +kernel
theorem d_Mo_nodesOf_0 : decode prog_6_method_13_code 0 = .ok (.iconst 0, 1) := by decide +kernel
theorem d_Mo_nodesOf_1 : decode prog_6_method_13_code 1 = .ok (.istore_n 2, 1) := by decide +kernel
theorem d_Mo_nodesOf_2 : decode prog_6_method_13_code 2 = .ok (.bipush 40, 2) := by decide +kernel
theorem d_Mo_nodesOf_4 : decode prog_6_method_13_code 4 = .ok (.istore_n 3, 1) := by decide +kernel
theorem d_Mo_nodesOf_5 : decode prog_6_method_13_code 5 = .ok (.iload_n 3, 1) := by decide +kernel
theorem d_Mo_nodesOf_6 : decode prog_6_method_13_code 6 = .ok (.bipush 46, 2) := by decide +kernel
theorem d_Mo_nodesOf_8 : decode prog_6_method_13_code 8 = .ok (.if_icmp .ge 27, 3) := by decide +kernel
theorem d_Mo_nodesOf_11 : decode prog_6_method_13_code 11 = .ok (.iload_n 2, 1) := by decide +kernel
theorem d_Mo_nodesOf_12 : decode prog_6_method_13_code 12 = .ok (.aload_n 0, 1) := by decide +kernel
theorem d_Mo_nodesOf_13 : decode prog_6_method_13_code 13 = .ok (.iload_n 1, 1) := by decide +kernel
theorem d_Mo_nodesOf_14 : decode prog_6_method_13_code 14 = .ok (.iload_n 3, 1) := by decide +kernel
theorem d_Mo_nodesOf_15 : decode prog_6_method_13_code 15 = .ok (.iconst 2, 1) := by decide +kernel
theorem d_Mo_nodesOf_16 : decode prog_6_method_13_code 16 = .ok (.invokevirtual 64, 3) := by decide +kernel
theorem d_Mo_nodesOf_19 : decode prog_6_method_13_code 19 = .ok (.ifCond .eq 7, 3) := by decide +kernel
theorem d_Mo_nodesOf_22 : decode prog_6_method_13_code 22 = .ok (.iconst 1, 1) := by decide +kernel
theorem d_Mo_nodesOf_23 : decode prog_6_method_13_code 23 = .ok (.goto 4, 3) := by decide +kernel
theorem d_Mo_nodesOf_26 : decode prog_6_method_13_code 26 = .ok (.iconst 0, 1) := by decide +kernel
theorem d_Mo_nodesOf_27 : decode prog_6_method_13_code 27 = .ok (.iadd, 1) := by decide +kernel
theorem d_Mo_nodesOf_28 : decode prog_6_method_13_code 28 = .ok (.istore_n 2, 1) := by decide +kernel
theorem d_Mo_nodesOf_29 : decode prog_6_method_13_code 29 = .ok (.iinc 3 1, 3) := by decide +kernel
theorem d_Mo_nodesOf_32 : decode prog_6_method_13_code 32 = .ok (.goto (-27), 3) := by decide +kernel
theorem d_Mo_nodesOf_35 : decode prog_6_method_13_code 35 = .ok (.iload_n 2, 1) := by decide +kernel
theorem d_Mo_nodesOf_36 : decode prog_6_method_13_code 36 = .ok (.ireturn, 1) := by decide +kernel
theorem zt_31 : (Cond.selects "MergeGraphsModel" (⟨"MergeGraphsModel", "stands", "(III)Z"⟩ : MethodName) (⟨"MergeGraphsModel", "stands", "(III)Z"⟩ : MethodName)) ∈ zTg := zmem 31 (by decide +kernel) (by decide +kernel)
theorem zt_788 : (Cond.methodLink "MergeGraphsModel" (64 : Nat) (⟨"MergeGraphsModel", "stands", "(III)Z"⟩ : MethodName)) ∈ zTg := zmem 788 (by decide +kernel) (by decide +kernel)
theorem zt_790 : (Cond.instanceMethod (⟨"MergeGraphsModel", "stands", "(III)Z"⟩ : MethodName)) ∈ zTg := zmem 790 (by decide +kernel) (by decide +kernel)
def y_Mo_wrong : MethodName := ⟨"MergeGraphsModel", "wrong", "(IIII)I"⟩
abbrev M_Mo_wrong : zM := (nR4, prog_6_method_14_code, 6, (some .int), 1)
set_option maxRecDepth 100000 in
theorem zk_Mo_wrong : Cond.code y_Mo_wrong (M_Mo_wrong).2.1 (M_Mo_wrong).2.2.1 (M_Mo_wrong).2.2.2.1 ∈ zTg := zmem 749 rfl rfl
theorem zy_Mo_wrong : (y_Mo_wrong).cls ≠ "java/lang/invoke/MethodHandle" ∧ (y_Mo_wrong).cls ≠ "java/lang/invoke/VarHandle" ∧ (parseMethodDescriptor (y_Mo_wrong).desc).map (fun d => d.parameters.length) = some 4 := by decide +kernel
theorem d_Mo_wrong_0 : decode prog_6_method_14_code 0 = .ok (.iload_n 2, 1) := by decide +kernel
theorem d_Mo_wrong_1 : decode prog_6_method_14_code 1 = .ok (.ifCond .lt 35, 3) := by decide +kernel
theorem d_Mo_wrong_4 : decode prog_6_method_14_code 4 = .ok (.iload_n 2, 1) := by decide +kernel
theorem d_Mo_wrong_5 : decode prog_6_method_14_code 5 = .ok (.bipush 46, 2) := by decide +kernel
theorem d_Mo_wrong_7 : decode prog_6_method_14_code 7 = .ok (.if_icmp .ge 29, 3) := by decide +kernel
theorem d_Mo_wrong_10 : decode prog_6_method_14_code 10 = .ok (.iload_n 3, 1) := by decide +kernel
theorem d_Mo_wrong_11 : decode prog_6_method_14_code 11 = .ok (.ifCond .lt 25, 3) := by decide +kernel
theorem d_Mo_wrong_14 : decode prog_6_method_14_code 14 = .ok (.iload_n 3, 1) := by decide +kernel
theorem d_Mo_wrong_15 : decode prog_6_method_14_code 15 = .ok (.bipush 40, 2) := by decide +kernel
theorem d_Mo_wrong_17 : decode prog_6_method_14_code 17 = .ok (.if_icmp .ge 19, 3) := by decide +kernel
theorem d_Mo_wrong_20 : decode prog_6_method_14_code 20 = .ok (.iload 4, 2) := by decide +kernel
theorem d_Mo_wrong_22 : decode prog_6_method_14_code 22 = .ok (.ifCond .lt 14, 3) := by decide +kernel
theorem d_Mo_wrong_25 : decode prog_6_method_14_code 25 = .ok (.iload 4, 2) := by decide +kernel
theorem d_Mo_wrong_27 : decode prog_6_method_14_code 27 = .ok (.bipush 46, 2) := by decide +kernel
theorem d_Mo_wrong_29 : decode prog_6_method_14_code 29 = .ok (.if_icmp .ge 7, 3) := by decide +kernel
theorem d_Mo_wrong_32 : decode prog_6_method_14_code 32 = .ok (.iconst 1, 1) := by decide +kernel
theorem d_Mo_wrong_33 : decode prog_6_method_14_code 33 = .ok (.goto 4, 3) := by decide +kernel
theorem d_Mo_wrong_36 : decode prog_6_method_14_code 36 = .ok (.iconst 0, 1) := by decide +kernel
theorem d_Mo_wrong_37 : decode prog_6_method_14_code 37 = .ok (.istore 5, 2) := by decide +kernel
theorem d_Mo_wrong_39 : decode prog_6_method_14_code 39 = .ok (.iload_n 1, 1) := by decide +kernel
theorem d_Mo_wrong_40 : decode prog_6_method_14_code 40 = .ok (.invokestatic 68, 3) := by decide +kernel
theorem d_Mo_wrong_43 : decode prog_6_method_14_code 43 = .ok (.ifCond .ne 7, 3) := by decide +kernel
theorem d_Mo_wrong_46 : decode prog_6_method_14_code 46 = .ok (.iconst 1, 1) := by decide +kernel
theorem d_Mo_wrong_47 : decode prog_6_method_14_code 47 = .ok (.goto 13, 3) := by decide +kernel
theorem d_Mo_wrong_50 : decode prog_6_method_14_code 50 = .ok (.iload 5, 2) := by decide +kernel
theorem d_Mo_wrong_52 : decode prog_6_method_14_code 52 = .ok (.ifCond .eq 7, 3) := by decide +kernel
theorem d_Mo_wrong_55 : decode prog_6_method_14_code 55 = .ok (.iconst 0, 1) := by decide +kernel
theorem d_Mo_wrong_56 : decode prog_6_method_14_code 56 = .ok (.goto 4, 3) := by decide +kernel
theorem d_Mo_wrong_59 : decode prog_6_method_14_code 59 = .ok (.iconst 2, 1) := by decide +kernel
theorem d_Mo_wrong_60 : decode prog_6_method_14_code 60 = .ok (.ireturn, 1) := by decide +kernel
theorem zt_750 : (Cond.methodLink "MergeGraphsModel" (68 : Nat) (⟨"MergeGraphsModel", "isGraph", "(I)Z"⟩ : MethodName)) ∈ zTg := zmem 750 (by decide +kernel) (by decide +kernel)
theorem zt_751 : (Cond.static (⟨"MergeGraphsModel", "isGraph", "(I)Z"⟩ : MethodName)) ∈ zTg := zmem 751 (by decide +kernel) (by decide +kernel)
def y_Mo_put : MethodName := ⟨"MergeGraphsModel", "put", "(IIII)I"⟩
abbrev M_Mo_put : zM := (nR4, prog_6_method_15_code, 6, (some .int), 2)
set_option maxRecDepth 100000 in
theorem zk_Mo_put : Cond.code y_Mo_put (M_Mo_put).2.1 (M_Mo_put).2.2.1 (M_Mo_put).2.2.2.1 ∈ zTg := zmem 745 rfl rfl
theorem zy_Mo_put : (y_Mo_put).cls ≠ "java/lang/invoke/MethodHandle" ∧ (y_Mo_put).cls ≠ "java/lang/invoke/VarHandle" ∧ (parseMethodDescriptor (y_Mo_put).desc).map (fun d => d.parameters.length) = some 4 := by decide +kernel
theorem d_Mo_put_0 : decode prog_6_method_15_code 0 = .ok (.aload_n 0, 1) := by decide +kernel
theorem d_Mo_put_1 : decode prog_6_method_15_code 1 = .ok (.aload_n 0, 1) := by decide +kernel
theorem d_Mo_put_2 : decode prog_6_method_15_code 2 = .ok (.iload_n 1, 1) := by decide +kernel
theorem d_Mo_put_3 : decode prog_6_method_15_code 3 = .ok (.iload_n 2, 1) := by decide +kernel
theorem d_Mo_put_4 : decode prog_6_method_15_code 4 = .ok (.iload_n 3, 1) := by decide +kernel
theorem d_Mo_put_5 : decode prog_6_method_15_code 5 = .ok (.iload 4, 2) := by decide +kernel
theorem d_Mo_put_7 : decode prog_6_method_15_code 7 = .ok (.invokevirtual 72, 3) := by decide +kernel
theorem d_Mo_put_10 : decode prog_6_method_15_code 10 = .ok (.putfield 46, 3) := by decide +kernel
theorem d_Mo_put_13 : decode prog_6_method_15_code 13 = .ok (.aload_n 0, 1) := by decide +kernel
theorem d_Mo_put_14 : decode prog_6_method_15_code 14 = .ok (.getfield 46, 3) := by decide +kernel
theorem d_Mo_put_17 : decode prog_6_method_15_code 17 = .ok (.ifCond .gt 18, 3) := by decide +kernel
theorem d_Mo_put_20 : decode prog_6_method_15_code 20 = .ok (.aload_n 0, 1) := by decide +kernel
theorem d_Mo_put_21 : decode prog_6_method_15_code 21 = .ok (.iload_n 1, 1) := by decide +kernel
theorem d_Mo_put_22 : decode prog_6_method_15_code 22 = .ok (.iload_n 2, 1) := by decide +kernel
theorem d_Mo_put_23 : decode prog_6_method_15_code 23 = .ok (.iload_n 3, 1) := by decide +kernel
theorem d_Mo_put_24 : decode prog_6_method_15_code 24 = .ok (.iload 4, 2) := by decide +kernel
theorem d_Mo_put_26 : decode prog_6_method_15_code 26 = .ok (.invokestatic 76, 3) := by decide +kernel
theorem d_Mo_put_29 : decode prog_6_method_15_code 29 = .ok (.invokevirtual 80, 3) := by decide +kernel
theorem d_Mo_put_32 : decode prog_6_method_15_code 32 = .ok (.ifCond .eq 5, 3) := by decide +kernel
theorem d_Mo_put_35 : decode prog_6_method_15_code 35 = .ok (.iconst 0, 1) := by decide +kernel
theorem d_Mo_put_36 : decode prog_6_method_15_code 36 = .ok (.ireturn, 1) := by decide +kernel
theorem d_Mo_put_37 : decode prog_6_method_15_code 37 = .ok (.aload_n 0, 1) := by decide +kernel
theorem d_Mo_put_38 : decode prog_6_method_15_code 38 = .ok (.getfield 13, 3) := by decide +kernel
theorem d_Mo_put_41 : decode prog_6_method_15_code 41 = .ok (.iload_n 1, 1) := by decide +kernel
theorem d_Mo_put_42 : decode prog_6_method_15_code 42 = .ok (.iaload, 1) := by decide +kernel
theorem d_Mo_put_43 : decode prog_6_method_15_code 43 = .ok (.bipush 30, 2) := by decide +kernel
theorem d_Mo_put_45 : decode prog_6_method_15_code 45 = .ok (.if_icmp .ne 5, 3) := by decide +kernel
theorem d_Mo_put_48 : decode prog_6_method_15_code 48 = .ok (.iconst (-1), 1) := by decide +kernel
theorem d_Mo_put_49 : decode prog_6_method_15_code 49 = .ok (.ireturn, 1) := by decide +kernel
theorem d_Mo_put_50 : decode prog_6_method_15_code 50 = .ok (.aload_n 0, 1) := by decide +kernel
theorem d_Mo_put_51 : decode prog_6_method_15_code 51 = .ok (.iconst 0, 1) := by decide +kernel
theorem d_Mo_put_52 : decode prog_6_method_15_code 52 = .ok (.putfield 54, 3) := by decide +kernel
theorem d_Mo_put_55 : decode prog_6_method_15_code 55 = .ok (.iconst 0, 1) := by decide +kernel
theorem d_Mo_put_56 : decode prog_6_method_15_code 56 = .ok (.istore 5, 2) := by decide +kernel
theorem d_Mo_put_58 : decode prog_6_method_15_code 58 = .ok (.iload 5, 2) := by decide +kernel
theorem d_Mo_put_60 : decode prog_6_method_15_code 60 = .ok (.aload_n 0, 1) := by decide +kernel
theorem d_Mo_put_61 : decode prog_6_method_15_code 61 = .ok (.getfield 13, 3) := by decide +kernel
theorem d_Mo_put_64 : decode prog_6_method_15_code 64 = .ok (.iload_n 1, 1) := by decide +kernel
theorem d_Mo_put_65 : decode prog_6_method_15_code 65 = .ok (.iaload, 1) := by decide +kernel
theorem d_Mo_put_66 : decode prog_6_method_15_code 66 = .ok (.if_icmp .ge 20, 3) := by decide +kernel
theorem d_Mo_put_69 : decode prog_6_method_15_code 69 = .ok (.aload_n 0, 1) := by decide +kernel
theorem d_Mo_put_70 : decode prog_6_method_15_code 70 = .ok (.aload_n 0, 1) := by decide +kernel
theorem d_Mo_put_71 : decode prog_6_method_15_code 71 = .ok (.iload_n 1, 1) := by decide +kernel
theorem d_Mo_put_72 : decode prog_6_method_15_code 72 = .ok (.iload 5, 2) := by decide +kernel
theorem d_Mo_put_74 : decode prog_6_method_15_code 74 = .ok (.invokevirtual 50, 3) := by decide +kernel
theorem d_Mo_put_77 : decode prog_6_method_15_code 77 = .ok (.invokevirtual 84, 3) := by decide +kernel
theorem d_Mo_put_80 : decode prog_6_method_15_code 80 = .ok (.iinc 5 1, 3) := by decide +kernel
theorem d_Mo_put_83 : decode prog_6_method_15_code 83 = .ok (.goto (-25), 3) := by decide +kernel
theorem d_Mo_put_86 : decode prog_6_method_15_code 86 = .ok (.aload_n 0, 1) := by decide +kernel
theorem d_Mo_put_87 : decode prog_6_method_15_code 87 = .ok (.iload_n 2, 1) := by decide +kernel
theorem d_Mo_put_88 : decode prog_6_method_15_code 88 = .ok (.iload_n 3, 1) := by decide +kernel
theorem d_Mo_put_89 : decode prog_6_method_15_code 89 = .ok (.iload 4, 2) := by decide +kernel
theorem d_Mo_put_91 : decode prog_6_method_15_code 91 = .ok (.invokestatic 76, 3) := by decide +kernel
theorem d_Mo_put_94 : decode prog_6_method_15_code 94 = .ok (.invokevirtual 84, 3) := by decide +kernel
theorem d_Mo_put_97 : decode prog_6_method_15_code 97 = .ok (.aload_n 0, 1) := by decide +kernel
theorem d_Mo_put_98 : decode prog_6_method_15_code 98 = .ok (.iload_n 1, 1) := by decide +kernel
theorem d_Mo_put_99 : decode prog_6_method_15_code 99 = .ok (.invokevirtual 88, 3) := by decide +kernel
theorem d_Mo_put_102 : decode prog_6_method_15_code 102 = .ok (.iconst 1, 1) := by decide +kernel
theorem d_Mo_put_103 : decode prog_6_method_15_code 103 = .ok (.ireturn, 1) := by decide +kernel
theorem zt_25 : (Cond.selects "MergeGraphsModel" (⟨"MergeGraphsModel", "wrong", "(IIII)I"⟩ : MethodName) (⟨"MergeGraphsModel", "wrong", "(IIII)I"⟩ : MethodName)) ∈ zTg := zmem 25 (by decide +kernel) (by decide +kernel)
theorem zt_26 : (Cond.selects "MergeGraphsModel" (⟨"MergeGraphsModel", "has", "(II)Z"⟩ : MethodName) (⟨"MergeGraphsModel", "has", "(II)Z"⟩ : MethodName)) ∈ zTg := zmem 26 (by decide +kernel) (by decide +kernel)
theorem zt_28 : (Cond.selects "MergeGraphsModel" (⟨"MergeGraphsModel", "add", "(I)V"⟩ : MethodName) (⟨"MergeGraphsModel", "add", "(I)V"⟩ : MethodName)) ∈ zTg := zmem 28 (by decide +kernel) (by decide +kernel)
theorem zt_29 : (Cond.selects "MergeGraphsModel" (⟨"MergeGraphsModel", "keep", "(I)V"⟩ : MethodName) (⟨"MergeGraphsModel", "keep", "(I)V"⟩ : MethodName)) ∈ zTg := zmem 29 (by decide +kernel) (by decide +kernel)
theorem zt_746 : (Cond.methodLink "MergeGraphsModel" (72 : Nat) (⟨"MergeGraphsModel", "wrong", "(IIII)I"⟩ : MethodName)) ∈ zTg := zmem 746 (by decide +kernel) (by decide +kernel)
theorem zt_748 : (Cond.instanceMethod (⟨"MergeGraphsModel", "wrong", "(IIII)I"⟩ : MethodName)) ∈ zTg := zmem 748 (by decide +kernel) (by decide +kernel)
theorem zt_753 : (Cond.methodLink "MergeGraphsModel" (76 : Nat) (⟨"MergeGraphsModel", "numbered", "(III)I"⟩ : MethodName)) ∈ zTg := zmem 753 (by decide +kernel) (by decide +kernel)
theorem zt_754 : (Cond.static (⟨"MergeGraphsModel", "numbered", "(III)I"⟩ : MethodName)) ∈ zTg := zmem 754 (by decide +kernel) (by decide +kernel)
theorem zt_756 : (Cond.methodLink "MergeGraphsModel" (80 : Nat) (⟨"MergeGraphsModel", "has", "(II)Z"⟩ : MethodName)) ∈ zTg := zmem 756 (by decide +kernel) (by decide +kernel)
theorem zt_758 : (Cond.instanceMethod (⟨"MergeGraphsModel", "has", "(II)Z"⟩ : MethodName)) ∈ zTg := zmem 758 (by decide +kernel) (by decide +kernel)
theorem zt_764 : (Cond.methodLink "MergeGraphsModel" (84 : Nat) (⟨"MergeGraphsModel", "add", "(I)V"⟩ : MethodName)) ∈ zTg := zmem 764 (by decide +kernel) (by decide +kernel)
theorem zt_766 : (Cond.instanceMethod (⟨"MergeGraphsModel", "add", "(I)V"⟩ : MethodName)) ∈ zTg := zmem 766 (by decide +kernel) (by decide +kernel)
theorem zt_768 : (Cond.methodLink "MergeGraphsModel" (88 : Nat) (⟨"MergeGraphsModel", "keep", "(I)V"⟩ : MethodName)) ∈ zTg := zmem 768 (by decide +kernel) (by decide +kernel)
theorem zt_770 : (Cond.instanceMethod (⟨"MergeGraphsModel", "keep", "(I)V"⟩ : MethodName)) ∈ zTg := zmem 770 (by decide +kernel) (by decide +kernel)
def y_Mo_drop : MethodName := ⟨"MergeGraphsModel", "drop", "(IIII)I"⟩
abbrev M_Mo_drop : zM := (nR4, prog_6_method_16_code, 6, (some .int), 2)
set_option maxRecDepth 100000 in
theorem zk_Mo_drop : Cond.code y_Mo_drop (M_Mo_drop).2.1 (M_Mo_drop).2.2.1 (M_Mo_drop).2.2.2.1 ∈ zTg := zmem 775 rfl rfl
theorem zy_Mo_drop : (y_Mo_drop).cls ≠ "java/lang/invoke/MethodHandle" ∧ (y_Mo_drop).cls ≠ "java/lang/invoke/VarHandle" ∧ (parseMethodDescriptor (y_Mo_drop).desc).map (fun d => d.parameters.length) = some 4 := by decide +kernel
theorem d_Mo_drop_0 : decode prog_6_method_16_code 0 = .ok (.aload_n 0, 1) := by decide +kernel
theorem d_Mo_drop_1 : decode prog_6_method_16_code 1 = .ok (.aload_n 0, 1) := by decide +kernel
theorem d_Mo_drop_2 : decode prog_6_method_16_code 2 = .ok (.iload_n 1, 1) := by decide +kernel
theorem d_Mo_drop_3 : decode prog_6_method_16_code 3 = .ok (.iload_n 2, 1) := by decide +kernel
theorem d_Mo_drop_4 : decode prog_6_method_16_code 4 = .ok (.iload_n 3, 1) := by decide +kernel
theorem d_Mo_drop_5 : decode prog_6_method_16_code 5 = .ok (.iload 4, 2) := by decide +kernel
theorem d_Mo_drop_7 : decode prog_6_method_16_code 7 = .ok (.invokevirtual 72, 3) := by decide +kernel
theorem d_Mo_drop_10 : decode prog_6_method_16_code 10 = .ok (.putfield 46, 3) := by decide +kernel
theorem d_Mo_drop_13 : decode prog_6_method_16_code 13 = .ok (.aload_n 0, 1) := by decide +kernel
theorem d_Mo_drop_14 : decode prog_6_method_16_code 14 = .ok (.getfield 46, 3) := by decide +kernel
theorem d_Mo_drop_17 : decode prog_6_method_16_code 17 = .ok (.ifCond .gt 18, 3) := by decide +kernel
theorem d_Mo_drop_20 : decode prog_6_method_16_code 20 = .ok (.aload_n 0, 1) := by decide +kernel
theorem d_Mo_drop_21 : decode prog_6_method_16_code 21 = .ok (.iload_n 1, 1) := by decide +kernel
theorem d_Mo_drop_22 : decode prog_6_method_16_code 22 = .ok (.iload_n 2, 1) := by decide +kernel
theorem d_Mo_drop_23 : decode prog_6_method_16_code 23 = .ok (.iload_n 3, 1) := by decide +kernel
theorem d_Mo_drop_24 : decode prog_6_method_16_code 24 = .ok (.iload 4, 2) := by decide +kernel
theorem d_Mo_drop_26 : decode prog_6_method_16_code 26 = .ok (.invokestatic 76, 3) := by decide +kernel
theorem d_Mo_drop_29 : decode prog_6_method_16_code 29 = .ok (.invokevirtual 80, 3) := by decide +kernel
theorem d_Mo_drop_32 : decode prog_6_method_16_code 32 = .ok (.ifCond .ne 5, 3) := by decide +kernel
theorem d_Mo_drop_35 : decode prog_6_method_16_code 35 = .ok (.iconst 0, 1) := by decide +kernel
theorem d_Mo_drop_36 : decode prog_6_method_16_code 36 = .ok (.ireturn, 1) := by decide +kernel
theorem d_Mo_drop_37 : decode prog_6_method_16_code 37 = .ok (.aload_n 0, 1) := by decide +kernel
theorem d_Mo_drop_38 : decode prog_6_method_16_code 38 = .ok (.iconst 0, 1) := by decide +kernel
theorem d_Mo_drop_39 : decode prog_6_method_16_code 39 = .ok (.putfield 54, 3) := by decide +kernel
theorem d_Mo_drop_42 : decode prog_6_method_16_code 42 = .ok (.iconst 0, 1) := by decide +kernel
theorem d_Mo_drop_43 : decode prog_6_method_16_code 43 = .ok (.istore 5, 2) := by decide +kernel
theorem d_Mo_drop_45 : decode prog_6_method_16_code 45 = .ok (.iload 5, 2) := by decide +kernel
theorem d_Mo_drop_47 : decode prog_6_method_16_code 47 = .ok (.aload_n 0, 1) := by decide +kernel
theorem d_Mo_drop_48 : decode prog_6_method_16_code 48 = .ok (.getfield 13, 3) := by decide +kernel
theorem d_Mo_drop_51 : decode prog_6_method_16_code 51 = .ok (.iload_n 1, 1) := by decide +kernel
theorem d_Mo_drop_52 : decode prog_6_method_16_code 52 = .ok (.iaload, 1) := by decide +kernel
theorem d_Mo_drop_53 : decode prog_6_method_16_code 53 = .ok (.if_icmp .ge 37, 3) := by decide +kernel
theorem d_Mo_drop_56 : decode prog_6_method_16_code 56 = .ok (.aload_n 0, 1) := by decide +kernel
theorem d_Mo_drop_57 : decode prog_6_method_16_code 57 = .ok (.iload_n 1, 1) := by decide +kernel
theorem d_Mo_drop_58 : decode prog_6_method_16_code 58 = .ok (.iload 5, 2) := by decide +kernel
theorem d_Mo_drop_60 : decode prog_6_method_16_code 60 = .ok (.invokevirtual 50, 3) := by decide +kernel
theorem d_Mo_drop_63 : decode prog_6_method_16_code 63 = .ok (.iload_n 2, 1) := by decide +kernel
theorem d_Mo_drop_64 : decode prog_6_method_16_code 64 = .ok (.iload_n 3, 1) := by decide +kernel
theorem d_Mo_drop_65 : decode prog_6_method_16_code 65 = .ok (.iload 4, 2) := by decide +kernel
theorem d_Mo_drop_67 : decode prog_6_method_16_code 67 = .ok (.invokestatic 76, 3) := by decide +kernel
theorem d_Mo_drop_70 : decode prog_6_method_16_code 70 = .ok (.if_icmp .eq 14, 3) := by decide +kernel
theorem d_Mo_drop_73 : decode prog_6_method_16_code 73 = .ok (.aload_n 0, 1) := by decide +kernel
theorem d_Mo_drop_74 : decode prog_6_method_16_code 74 = .ok (.aload_n 0, 1) := by decide +kernel
theorem d_Mo_drop_75 : decode prog_6_method_16_code 75 = .ok (.iload_n 1, 1) := by decide +kernel
theorem d_Mo_drop_76 : decode prog_6_method_16_code 76 = .ok (.iload 5, 2) := by decide +kernel
theorem d_Mo_drop_78 : decode prog_6_method_16_code 78 = .ok (.invokevirtual 50, 3) := by decide +kernel
theorem d_Mo_drop_81 : decode prog_6_method_16_code 81 = .ok (.invokevirtual 84, 3) := by decide +kernel
theorem d_Mo_drop_84 : decode prog_6_method_16_code 84 = .ok (.iinc 5 1, 3) := by decide +kernel
theorem d_Mo_drop_87 : decode prog_6_method_16_code 87 = .ok (.goto (-42), 3) := by decide +kernel
theorem d_Mo_drop_90 : decode prog_6_method_16_code 90 = .ok (.aload_n 0, 1) := by decide +kernel
theorem d_Mo_drop_91 : decode prog_6_method_16_code 91 = .ok (.iload_n 1, 1) := by decide +kernel
theorem d_Mo_drop_92 : decode prog_6_method_16_code 92 = .ok (.invokevirtual 88, 3) := by decide +kernel
theorem d_Mo_drop_95 : decode prog_6_method_16_code 95 = .ok (.iconst 1, 1) := by decide +kernel
theorem d_Mo_drop_96 : decode prog_6_method_16_code 96 = .ok (.ireturn, 1) := by decide +kernel
def y_Mo_copy : MethodName := ⟨"MergeGraphsModel", "copy", "(II)I"⟩
abbrev M_Mo_copy : zM := (nR4, prog_6_method_17_code, 4, (some .int), 1)
set_option maxRecDepth 100000 in
theorem zk_Mo_copy : Cond.code y_Mo_copy (M_Mo_copy).2.1 (M_Mo_copy).2.2.1 (M_Mo_copy).2.2.2.1 ∈ zTg := zmem 779 rfl rfl
theorem zy_Mo_copy : (y_Mo_copy).cls ≠ "java/lang/invoke/MethodHandle" ∧ (y_Mo_copy).cls ≠ "java/lang/invoke/VarHandle" ∧ (parseMethodDescriptor (y_Mo_copy).desc).map (fun d => d.parameters.length) = some 2 := by decide +kernel
theorem d_Mo_copy_0 : decode prog_6_method_17_code 0 = .ok (.aload_n 0, 1) := by decide +kernel
theorem d_Mo_copy_1 : decode prog_6_method_17_code 1 = .ok (.iload_n 1, 1) := by decide +kernel
theorem d_Mo_copy_2 : decode prog_6_method_17_code 2 = .ok (.invokestatic 68, 3) := by decide +kernel
theorem d_Mo_copy_5 : decode prog_6_method_17_code 5 = .ok (.ifCond .eq 14, 3) := by decide +kernel
theorem d_Mo_copy_8 : decode prog_6_method_17_code 8 = .ok (.iload_n 2, 1) := by decide +kernel
theorem d_Mo_copy_9 : decode prog_6_method_17_code 9 = .ok (.invokestatic 68, 3) := by decide +kernel
theorem d_Mo_copy_12 : decode prog_6_method_17_code 12 = .ok (.ifCond .eq 7, 3) := by decide +kernel
theorem d_Mo_copy_15 : decode prog_6_method_17_code 15 = .ok (.iconst 1, 1) := by decide +kernel
theorem d_Mo_copy_16 : decode prog_6_method_17_code 16 = .ok (.goto 4, 3) := by decide +kernel
theorem d_Mo_copy_19 : decode prog_6_method_17_code 19 = .ok (.iconst 0, 1) := by decide +kernel
theorem d_Mo_copy_20 : decode prog_6_method_17_code 20 = .ok (.invokevirtual 91, 3) := by decide +kernel
theorem d_Mo_copy_23 : decode prog_6_method_17_code 23 = .ok (.ifCond .ne 5, 3) := by decide +kernel
theorem d_Mo_copy_26 : decode prog_6_method_17_code 26 = .ok (.iconst 0, 1) := by decide +kernel
theorem d_Mo_copy_27 : decode prog_6_method_17_code 27 = .ok (.ireturn, 1) := by decide +kernel
theorem d_Mo_copy_28 : decode prog_6_method_17_code 28 = .ok (.aload_n 0, 1) := by decide +kernel
theorem d_Mo_copy_29 : decode prog_6_method_17_code 29 = .ok (.getfield 13, 3) := by decide +kernel
theorem d_Mo_copy_32 : decode prog_6_method_17_code 32 = .ok (.iload_n 2, 1) := by decide +kernel
theorem d_Mo_copy_33 : decode prog_6_method_17_code 33 = .ok (.aload_n 0, 1) := by decide +kernel
theorem d_Mo_copy_34 : decode prog_6_method_17_code 34 = .ok (.getfield 13, 3) := by decide +kernel
theorem d_Mo_copy_37 : decode prog_6_method_17_code 37 = .ok (.iload_n 1, 1) := by decide +kernel
theorem d_Mo_copy_38 : decode prog_6_method_17_code 38 = .ok (.iaload, 1) := by decide +kernel
theorem d_Mo_copy_39 : decode prog_6_method_17_code 39 = .ok (.iastore, 1) := by decide +kernel
theorem d_Mo_copy_40 : decode prog_6_method_17_code 40 = .ok (.iconst 0, 1) := by decide +kernel
theorem d_Mo_copy_41 : decode prog_6_method_17_code 41 = .ok (.istore_n 3, 1) := by decide +kernel
theorem d_Mo_copy_42 : decode prog_6_method_17_code 42 = .ok (.iload_n 3, 1) := by decide +kernel
theorem d_Mo_copy_43 : decode prog_6_method_17_code 43 = .ok (.aload_n 0, 1) := by decide +kernel
theorem d_Mo_copy_44 : decode prog_6_method_17_code 44 = .ok (.getfield 13, 3) := by decide +kernel
theorem d_Mo_copy_47 : decode prog_6_method_17_code 47 = .ok (.iload_n 1, 1) := by decide +kernel
theorem d_Mo_copy_48 : decode prog_6_method_17_code 48 = .ok (.iaload, 1) := by decide +kernel
theorem d_Mo_copy_49 : decode prog_6_method_17_code 49 = .ok (.if_icmp .ge 26, 3) := by decide +kernel
theorem d_Mo_copy_52 : decode prog_6_method_17_code 52 = .ok (.aload_n 0, 1) := by decide +kernel
theorem d_Mo_copy_53 : decode prog_6_method_17_code 53 = .ok (.getfield 7, 3) := by decide +kernel
theorem d_Mo_copy_56 : decode prog_6_method_17_code 56 = .ok (.bipush 30, 2) := by decide +kernel
theorem d_Mo_copy_58 : decode prog_6_method_17_code 58 = .ok (.iload_n 2, 1) := by decide +kernel
theorem d_Mo_copy_59 : decode prog_6_method_17_code 59 = .ok (.imul, 1) := by decide +kernel
theorem d_Mo_copy_60 : decode prog_6_method_17_code 60 = .ok (.iload_n 3, 1) := by decide +kernel
theorem d_Mo_copy_61 : decode prog_6_method_17_code 61 = .ok (.iadd, 1) := by decide +kernel
theorem d_Mo_copy_62 : decode prog_6_method_17_code 62 = .ok (.aload_n 0, 1) := by decide +kernel
theorem d_Mo_copy_63 : decode prog_6_method_17_code 63 = .ok (.iload_n 1, 1) := by decide +kernel
theorem d_Mo_copy_64 : decode prog_6_method_17_code 64 = .ok (.iload_n 3, 1) := by decide +kernel
theorem d_Mo_copy_65 : decode prog_6_method_17_code 65 = .ok (.invokevirtual 50, 3) := by decide +kernel
theorem d_Mo_copy_68 : decode prog_6_method_17_code 68 = .ok (.iastore, 1) := by decide +kernel
theorem d_Mo_copy_69 : decode prog_6_method_17_code 69 = .ok (.iinc 3 1, 3) := by decide +kernel
theorem d_Mo_copy_72 : decode prog_6_method_17_code 72 = .ok (.goto (-30), 3) := by decide +kernel
theorem d_Mo_copy_75 : decode prog_6_method_17_code 75 = .ok (.aload_n 0, 1) := by decide +kernel
theorem d_Mo_copy_76 : decode prog_6_method_17_code 76 = .ok (.getfield 13, 3) := by decide +kernel
theorem d_Mo_copy_79 : decode prog_6_method_17_code 79 = .ok (.iload_n 2, 1) := by decide +kernel
theorem d_Mo_copy_80 : decode prog_6_method_17_code 80 = .ok (.iaload, 1) := by decide +kernel
theorem d_Mo_copy_81 : decode prog_6_method_17_code 81 = .ok (.ireturn, 1) := by decide +kernel
theorem zt_30 : (Cond.selects "MergeGraphsModel" (⟨"MergeGraphsModel", "there", "(Z)Z"⟩ : MethodName) (⟨"MergeGraphsModel", "there", "(Z)Z"⟩ : MethodName)) ∈ zTg := zmem 30 (by decide +kernel) (by decide +kernel)
theorem zt_780 : (Cond.methodLink "MergeGraphsModel" (91 : Nat) (⟨"MergeGraphsModel", "there", "(Z)Z"⟩ : MethodName)) ∈ zTg := zmem 780 (by decide +kernel) (by decide +kernel)
theorem zt_782 : (Cond.instanceMethod (⟨"MergeGraphsModel", "there", "(Z)Z"⟩ : MethodName)) ∈ zTg := zmem 782 (by decide +kernel) (by decide +kernel)
def y_Mo_size : MethodName := ⟨"MergeGraphsModel", "size", "(II)I"⟩
abbrev M_Mo_size : zM := (nR4, prog_6_method_18_code, 5, (some .int), 3)
set_option maxRecDepth 100000 in
theorem zk_Mo_size : Cond.code y_Mo_size (M_Mo_size).2.1 (M_Mo_size).2.2.1 (M_Mo_size).2.2.2.1 ∈ zTg := zmem 787 rfl rfl
theorem zy_Mo_size : (y_Mo_size).cls ≠ "java/lang/invoke/MethodHandle" ∧ (y_Mo_size).cls ≠ "java/lang/invoke/VarHandle" ∧ (parseMethodDescriptor (y_Mo_size).desc).map (fun d => d.parameters.length) = some 2 := by decide +kernel
theorem d_Mo_size_0 : decode prog_6_method_18_code 0 = .ok (.aload_n 0, 1) := by decide +kernel
theorem d_Mo_size_1 : decode prog_6_method_18_code 1 = .ok (.iload_n 1, 1) := by decide +kernel
theorem d_Mo_size_2 : decode prog_6_method_18_code 2 = .ok (.invokestatic 68, 3) := by decide +kernel
theorem d_Mo_size_5 : decode prog_6_method_18_code 5 = .ok (.ifCond .eq 16, 3) := by decide +kernel
theorem d_Mo_size_8 : decode prog_6_method_18_code 8 = .ok (.iload_n 2, 1) := by decide +kernel
theorem d_Mo_size_9 : decode prog_6_method_18_code 9 = .ok (.ifCond .lt 12, 3) := by decide +kernel
theorem d_Mo_size_12 : decode prog_6_method_18_code 12 = .ok (.iload_n 2, 1) := by decide +kernel
theorem d_Mo_size_13 : decode prog_6_method_18_code 13 = .ok (.iconst 2, 1) := by decide +kernel
theorem d_Mo_size_14 : decode prog_6_method_18_code 14 = .ok (.if_icmp .gt 7, 3) := by decide +kernel
theorem d_Mo_size_17 : decode prog_6_method_18_code 17 = .ok (.iconst 1, 1) := by decide +kernel
theorem d_Mo_size_18 : decode prog_6_method_18_code 18 = .ok (.goto 4, 3) := by decide +kernel
theorem d_Mo_size_21 : decode prog_6_method_18_code 21 = .ok (.iconst 0, 1) := by decide +kernel
theorem d_Mo_size_22 : decode prog_6_method_18_code 22 = .ok (.invokevirtual 91, 3) := by decide +kernel
theorem d_Mo_size_25 : decode prog_6_method_18_code 25 = .ok (.ifCond .ne 5, 3) := by decide +kernel
theorem d_Mo_size_28 : decode prog_6_method_18_code 28 = .ok (.iconst 0, 1) := by decide +kernel
theorem d_Mo_size_29 : decode prog_6_method_18_code 29 = .ok (.ireturn, 1) := by decide +kernel
theorem d_Mo_size_30 : decode prog_6_method_18_code 30 = .ok (.iconst 0, 1) := by decide +kernel
theorem d_Mo_size_31 : decode prog_6_method_18_code 31 = .ok (.istore_n 3, 1) := by decide +kernel
theorem d_Mo_size_32 : decode prog_6_method_18_code 32 = .ok (.iconst 0, 1) := by decide +kernel
theorem d_Mo_size_33 : decode prog_6_method_18_code 33 = .ok (.istore 4, 2) := by decide +kernel
theorem d_Mo_size_35 : decode prog_6_method_18_code 35 = .ok (.iload 4, 2) := by decide +kernel
theorem d_Mo_size_37 : decode prog_6_method_18_code 37 = .ok (.bipush 46, 2) := by decide +kernel
theorem d_Mo_size_39 : decode prog_6_method_18_code 39 = .ok (.if_icmp .ge 28, 3) := by decide +kernel
theorem d_Mo_size_42 : decode prog_6_method_18_code 42 = .ok (.iload_n 3, 1) := by decide +kernel
theorem d_Mo_size_43 : decode prog_6_method_18_code 43 = .ok (.aload_n 0, 1) := by decide +kernel
theorem d_Mo_size_44 : decode prog_6_method_18_code 44 = .ok (.iload_n 1, 1) := by decide +kernel
theorem d_Mo_size_45 : decode prog_6_method_18_code 45 = .ok (.iload 4, 2) := by decide +kernel
theorem d_Mo_size_47 : decode prog_6_method_18_code 47 = .ok (.iconst 2, 1) := by decide +kernel
theorem d_Mo_size_48 : decode prog_6_method_18_code 48 = .ok (.invokevirtual 64, 3) := by decide +kernel
theorem d_Mo_size_51 : decode prog_6_method_18_code 51 = .ok (.ifCond .eq 7, 3) := by decide +kernel
theorem d_Mo_size_54 : decode prog_6_method_18_code 54 = .ok (.iconst 1, 1) := by decide +kernel
theorem d_Mo_size_55 : decode prog_6_method_18_code 55 = .ok (.goto 4, 3) := by decide +kernel
theorem d_Mo_size_58 : decode prog_6_method_18_code 58 = .ok (.iconst 0, 1) := by decide +kernel
theorem d_Mo_size_59 : decode prog_6_method_18_code 59 = .ok (.iadd, 1) := by decide +kernel
theorem d_Mo_size_60 : decode prog_6_method_18_code 60 = .ok (.istore_n 3, 1) := by decide +kernel
theorem d_Mo_size_61 : decode prog_6_method_18_code 61 = .ok (.iinc 4 1, 3) := by decide +kernel
theorem d_Mo_size_64 : decode prog_6_method_18_code 64 = .ok (.goto (-29), 3) := by decide +kernel
theorem d_Mo_size_67 : decode prog_6_method_18_code 67 = .ok (.iload_n 2, 1) := by decide +kernel
theorem d_Mo_size_68 : decode prog_6_method_18_code 68 = .ok (.ifCond .ne 12, 3) := by decide +kernel
theorem d_Mo_size_71 : decode prog_6_method_18_code 71 = .ok (.aload_n 0, 1) := by decide +kernel
theorem d_Mo_size_72 : decode prog_6_method_18_code 72 = .ok (.getfield 13, 3) := by decide +kernel
theorem d_Mo_size_75 : decode prog_6_method_18_code 75 = .ok (.iload_n 1, 1) := by decide +kernel
theorem d_Mo_size_76 : decode prog_6_method_18_code 76 = .ok (.iaload, 1) := by decide +kernel
theorem d_Mo_size_77 : decode prog_6_method_18_code 77 = .ok (.goto 17, 3) := by decide +kernel
theorem d_Mo_size_80 : decode prog_6_method_18_code 80 = .ok (.iload_n 2, 1) := by decide +kernel
theorem d_Mo_size_81 : decode prog_6_method_18_code 81 = .ok (.iconst 1, 1) := by decide +kernel
theorem d_Mo_size_82 : decode prog_6_method_18_code 82 = .ok (.if_icmp .ne 11, 3) := by decide +kernel
theorem d_Mo_size_85 : decode prog_6_method_18_code 85 = .ok (.aload_n 0, 1) := by decide +kernel
theorem d_Mo_size_86 : decode prog_6_method_18_code 86 = .ok (.iload_n 1, 1) := by decide +kernel
theorem d_Mo_size_87 : decode prog_6_method_18_code 87 = .ok (.invokevirtual 95, 3) := by decide +kernel
theorem d_Mo_size_90 : decode prog_6_method_18_code 90 = .ok (.goto 4, 3) := by decide +kernel
theorem d_Mo_size_93 : decode prog_6_method_18_code 93 = .ok (.iload_n 3, 1) := by decide +kernel
theorem d_Mo_size_94 : decode prog_6_method_18_code 94 = .ok (.ireturn, 1) := by decide +kernel
theorem zt_32 : (Cond.selects "MergeGraphsModel" (⟨"MergeGraphsModel", "nodesOf", "(I)I"⟩ : MethodName) (⟨"MergeGraphsModel", "nodesOf", "(I)I"⟩ : MethodName)) ∈ zTg := zmem 32 (by decide +kernel) (by decide +kernel)
theorem zt_798 : (Cond.methodLink "MergeGraphsModel" (95 : Nat) (⟨"MergeGraphsModel", "nodesOf", "(I)I"⟩ : MethodName)) ∈ zTg := zmem 798 (by decide +kernel) (by decide +kernel)
theorem zt_800 : (Cond.instanceMethod (⟨"MergeGraphsModel", "nodesOf", "(I)I"⟩ : MethodName)) ∈ zTg := zmem 800 (by decide +kernel) (by decide +kernel)
def y_Mo_fact : MethodName := ⟨"MergeGraphsModel", "fact", "(II)I"⟩
abbrev M_Mo_fact : zM := (nR4, prog_6_method_19_code, 3, (some .int), 1)
set_option maxRecDepth 100000 in
theorem zk_Mo_fact : Cond.code y_Mo_fact (M_Mo_fact).2.1 (M_Mo_fact).2.2.1 (M_Mo_fact).2.2.2.1 ∈ zTg := zmem 805 rfl rfl
theorem zy_Mo_fact : (y_Mo_fact).cls ≠ "java/lang/invoke/MethodHandle" ∧ (y_Mo_fact).cls ≠ "java/lang/invoke/VarHandle" ∧ (parseMethodDescriptor (y_Mo_fact).desc).map (fun d => d.parameters.length) = some 2 := by decide +kernel
theorem d_Mo_fact_0 : decode prog_6_method_19_code 0 = .ok (.aload_n 0, 1) := by decide +kernel
theorem d_Mo_fact_1 : decode prog_6_method_19_code 1 = .ok (.iload_n 1, 1) := by decide +kernel
theorem d_Mo_fact_2 : decode prog_6_method_19_code 2 = .ok (.invokestatic 68, 3) := by decide +kernel
theorem d_Mo_fact_5 : decode prog_6_method_19_code 5 = .ok (.ifCond .eq 21, 3) := by decide +kernel
theorem d_Mo_fact_8 : decode prog_6_method_19_code 8 = .ok (.iload_n 2, 1) := by decide +kernel
theorem d_Mo_fact_9 : decode prog_6_method_19_code 9 = .ok (.ifCond .lt 17, 3) := by decide +kernel
theorem d_Mo_fact_12 : decode prog_6_method_19_code 12 = .ok (.iload_n 2, 1) := by decide +kernel
theorem d_Mo_fact_13 : decode prog_6_method_19_code 13 = .ok (.aload_n 0, 1) := by decide +kernel
theorem d_Mo_fact_14 : decode prog_6_method_19_code 14 = .ok (.getfield 13, 3) := by decide +kernel
theorem d_Mo_fact_17 : decode prog_6_method_19_code 17 = .ok (.iload_n 1, 1) := by decide +kernel
theorem d_Mo_fact_18 : decode prog_6_method_19_code 18 = .ok (.iaload, 1) := by decide +kernel
theorem d_Mo_fact_19 : decode prog_6_method_19_code 19 = .ok (.if_icmp .ge 7, 3) := by decide +kernel
theorem d_Mo_fact_22 : decode prog_6_method_19_code 22 = .ok (.iconst 1, 1) := by decide +kernel
theorem d_Mo_fact_23 : decode prog_6_method_19_code 23 = .ok (.goto 4, 3) := by decide +kernel
theorem d_Mo_fact_26 : decode prog_6_method_19_code 26 = .ok (.iconst 0, 1) := by decide +kernel
theorem d_Mo_fact_27 : decode prog_6_method_19_code 27 = .ok (.invokevirtual 91, 3) := by decide +kernel
theorem d_Mo_fact_30 : decode prog_6_method_19_code 30 = .ok (.ifCond .eq 12, 3) := by decide +kernel
theorem d_Mo_fact_33 : decode prog_6_method_19_code 33 = .ok (.aload_n 0, 1) := by decide +kernel
theorem d_Mo_fact_34 : decode prog_6_method_19_code 34 = .ok (.iload_n 1, 1) := by decide +kernel
theorem d_Mo_fact_35 : decode prog_6_method_19_code 35 = .ok (.iload_n 2, 1) := by decide +kernel
theorem d_Mo_fact_36 : decode prog_6_method_19_code 36 = .ok (.invokevirtual 50, 3) := by decide +kernel
theorem d_Mo_fact_39 : decode prog_6_method_19_code 39 = .ok (.goto 4, 3) := by decide +kernel
theorem d_Mo_fact_42 : decode prog_6_method_19_code 42 = .ok (.iconst 0, 1) := by decide +kernel
theorem d_Mo_fact_43 : decode prog_6_method_19_code 43 = .ok (.ireturn, 1) := by decide +kernel
def y_Mo_indexOf : MethodName := ⟨"MergeGraphsModel", "indexOf", "(I)I"⟩
abbrev M_Mo_indexOf : zM := (nR4, prog_6_method_20_code, 3, (some .int), 0)
set_option maxRecDepth 100000 in
theorem zk_Mo_indexOf : Cond.code y_Mo_indexOf (M_Mo_indexOf).2.1 (M_Mo_indexOf).2.2.1 (M_Mo_indexOf).2.2.2.1 ∈ zTg := zmem 829 rfl rfl
theorem zy_Mo_indexOf : (y_Mo_indexOf).cls ≠ "java/lang/invoke/MethodHandle" ∧ (y_Mo_indexOf).cls ≠ "java/lang/invoke/VarHandle" ∧ (parseMethodDescriptor (y_Mo_indexOf).desc).map (fun d => d.parameters.length) = some 1 := by decide +kernel
theorem d_Mo_indexOf_0 : decode prog_6_method_20_code 0 = .ok (.iconst 0, 1) := by decide +kernel
theorem d_Mo_indexOf_1 : decode prog_6_method_20_code 1 = .ok (.istore_n 2, 1) := by decide +kernel
theorem d_Mo_indexOf_2 : decode prog_6_method_20_code 2 = .ok (.iload_n 2, 1) := by decide +kernel
theorem d_Mo_indexOf_3 : decode prog_6_method_20_code 3 = .ok (.aload_n 0, 1) := by decide +kernel
theorem d_Mo_indexOf_4 : decode prog_6_method_20_code 4 = .ok (.getfield 98, 3) := by decide +kernel
theorem d_Mo_indexOf_7 : decode prog_6_method_20_code 7 = .ok (.if_icmp .ge 21, 3) := by decide +kernel
theorem d_Mo_indexOf_10 : decode prog_6_method_20_code 10 = .ok (.aload_n 0, 1) := by decide +kernel
theorem d_Mo_indexOf_11 : decode prog_6_method_20_code 11 = .ok (.getfield 22, 3) := by decide +kernel
theorem d_Mo_indexOf_14 : decode prog_6_method_20_code 14 = .ok (.iload_n 2, 1) := by decide +kernel
theorem d_Mo_indexOf_15 : decode prog_6_method_20_code 15 = .ok (.iaload, 1) := by decide +kernel
theorem d_Mo_indexOf_16 : decode prog_6_method_20_code 16 = .ok (.iload_n 1, 1) := by decide +kernel
theorem d_Mo_indexOf_17 : decode prog_6_method_20_code 17 = .ok (.if_icmp .ne 5, 3) := by decide +kernel
theorem d_Mo_indexOf_20 : decode prog_6_method_20_code 20 = .ok (.iload_n 2, 1) := by decide +kernel
theorem d_Mo_indexOf_21 : decode prog_6_method_20_code 21 = .ok (.ireturn, 1) := by decide +kernel
theorem d_Mo_indexOf_22 : decode prog_6_method_20_code 22 = .ok (.iinc 2 1, 3) := by decide +kernel
theorem d_Mo_indexOf_25 : decode prog_6_method_20_code 25 = .ok (.goto (-23), 3) := by decide +kernel
theorem d_Mo_indexOf_28 : decode prog_6_method_20_code 28 = .ok (.iconst (-1), 1) := by decide +kernel
theorem d_Mo_indexOf_29 : decode prog_6_method_20_code 29 = .ok (.ireturn, 1) := by decide +kernel
theorem zf_Mo_22 : Cond.fieldLink nR4 22 (nT4 6).1 (nT4 6).2.1 (nT4 6).2.2.1 ∈ zTg := zmem 686 (by decide +kernel) (by decide +kernel)
theorem zf_Mo_98 : Cond.fieldLink nR4 98 (nT4 7).1 (nT4 7).2.1 (nT4 7).2.2.1 ∈ zTg := zmem 687 (by decide +kernel) (by decide +kernel)
def y_Mo_putFor : MethodName := ⟨"MergeGraphsModel", "putFor", "(I)I"⟩
abbrev M_Mo_putFor : zM := (nR4, prog_6_method_21_code, 3, (some .int), 1)
set_option maxRecDepth 100000 in
theorem zk_Mo_putFor : Cond.code y_Mo_putFor (M_Mo_putFor).2.1 (M_Mo_putFor).2.2.1 (M_Mo_putFor).2.2.2.1 ∈ zTg := zmem 837 rfl rfl
theorem zy_Mo_putFor : (y_Mo_putFor).cls ≠ "java/lang/invoke/MethodHandle" ∧ (y_Mo_putFor).cls ≠ "java/lang/invoke/VarHandle" ∧ (parseMethodDescriptor (y_Mo_putFor).desc).map (fun d => d.parameters.length) = some 1 := by decide +kernel
theorem d_Mo_putFor_0 : decode prog_6_method_21_code 0 = .ok (.aload_n 0, 1) := by decide +kernel
theorem d_Mo_putFor_1 : decode prog_6_method_21_code 1 = .ok (.iload_n 1, 1) := by decide +kernel
theorem d_Mo_putFor_2 : decode prog_6_method_21_code 2 = .ok (.invokevirtual 101, 3) := by decide +kernel
theorem d_Mo_putFor_5 : decode prog_6_method_21_code 5 = .ok (.istore_n 2, 1) := by decide +kernel
theorem d_Mo_putFor_6 : decode prog_6_method_21_code 6 = .ok (.iload_n 2, 1) := by decide +kernel
theorem d_Mo_putFor_7 : decode prog_6_method_21_code 7 = .ok (.ifCond .ge 7, 3) := by decide +kernel
theorem d_Mo_putFor_10 : decode prog_6_method_21_code 10 = .ok (.iload_n 1, 1) := by decide +kernel
theorem d_Mo_putFor_11 : decode prog_6_method_21_code 11 = .ok (.goto 9, 3) := by decide +kernel
theorem d_Mo_putFor_14 : decode prog_6_method_21_code 14 = .ok (.aload_n 0, 1) := by decide +kernel
theorem d_Mo_putFor_15 : decode prog_6_method_21_code 15 = .ok (.getfield 31, 3) := by decide +kernel
theorem d_Mo_putFor_18 : decode prog_6_method_21_code 18 = .ok (.iload_n 2, 1) := by decide +kernel
theorem d_Mo_putFor_19 : decode prog_6_method_21_code 19 = .ok (.iaload, 1) := by decide +kernel
theorem d_Mo_putFor_20 : decode prog_6_method_21_code 20 = .ok (.ireturn, 1) := by decide +kernel
theorem zf_Mo_31 : Cond.fieldLink nR4 31 (nT4 11).1 (nT4 11).2.1 (nT4 11).2.2.1 ∈ zTg := zmem 691 (by decide +kernel) (by decide +kernel)
theorem zt_37 : (Cond.selects "MergeGraphsModel" (⟨"MergeGraphsModel", "indexOf", "(I)I"⟩ : MethodName) (⟨"MergeGraphsModel", "indexOf", "(I)I"⟩ : MethodName)) ∈ zTg := zmem 37 (by decide +kernel) (by decide +kernel)
theorem zt_826 : (Cond.methodLink "MergeGraphsModel" (101 : Nat) (⟨"MergeGraphsModel", "indexOf", "(I)I"⟩ : MethodName)) ∈ zTg := zmem 826 (by decide +kernel) (by decide +kernel)
theorem zt_828 : (Cond.instanceMethod (⟨"MergeGraphsModel", "indexOf", "(I)I"⟩ : MethodName)) ∈ zTg := zmem 828 (by decide +kernel) (by decide +kernel)
def y_Mo_imageOf : MethodName := ⟨"MergeGraphsModel", "imageOf", "(I)I"⟩
abbrev M_Mo_imageOf : zM := (nR4, prog_6_method_22_code, 2, (some .int), 2)
set_option maxRecDepth 100000 in
theorem zk_Mo_imageOf : Cond.code y_Mo_imageOf (M_Mo_imageOf).2.1 (M_Mo_imageOf).2.2.1 (M_Mo_imageOf).2.2.2.1 ∈ zTg := zmem 833 rfl rfl
theorem zy_Mo_imageOf : (y_Mo_imageOf).cls ≠ "java/lang/invoke/MethodHandle" ∧ (y_Mo_imageOf).cls ≠ "java/lang/invoke/VarHandle" ∧ (parseMethodDescriptor (y_Mo_imageOf).desc).map (fun d => d.parameters.length) = some 1 := by decide +kernel
theorem d_Mo_imageOf_0 : decode prog_6_method_22_code 0 = .ok (.aload_n 0, 1) := by decide +kernel
theorem d_Mo_imageOf_1 : decode prog_6_method_22_code 1 = .ok (.iload_n 1, 1) := by decide +kernel
theorem d_Mo_imageOf_2 : decode prog_6_method_22_code 2 = .ok (.invokestatic 57, 3) := by decide +kernel
theorem d_Mo_imageOf_5 : decode prog_6_method_22_code 5 = .ok (.invokevirtual 104, 3) := by decide +kernel
theorem d_Mo_imageOf_8 : decode prog_6_method_22_code 8 = .ok (.iload_n 1, 1) := by decide +kernel
theorem d_Mo_imageOf_9 : decode prog_6_method_22_code 9 = .ok (.bipush 64, 2) := by decide +kernel
theorem d_Mo_imageOf_11 : decode prog_6_method_22_code 11 = .ok (.idiv, 1) := by decide +kernel
theorem d_Mo_imageOf_12 : decode prog_6_method_22_code 12 = .ok (.bipush 64, 2) := by decide +kernel
theorem d_Mo_imageOf_14 : decode prog_6_method_22_code 14 = .ok (.irem, 1) := by decide +kernel
theorem d_Mo_imageOf_15 : decode prog_6_method_22_code 15 = .ok (.aload_n 0, 1) := by decide +kernel
theorem d_Mo_imageOf_16 : decode prog_6_method_22_code 16 = .ok (.iload_n 1, 1) := by decide +kernel
theorem d_Mo_imageOf_17 : decode prog_6_method_22_code 17 = .ok (.invokestatic 61, 3) := by decide +kernel
theorem d_Mo_imageOf_20 : decode prog_6_method_22_code 20 = .ok (.invokevirtual 104, 3) := by decide +kernel
theorem d_Mo_imageOf_23 : decode prog_6_method_22_code 23 = .ok (.invokestatic 76, 3) := by decide +kernel
theorem d_Mo_imageOf_26 : decode prog_6_method_22_code 26 = .ok (.ireturn, 1) := by decide +kernel
theorem zt_39 : (Cond.selects "MergeGraphsModel" (⟨"MergeGraphsModel", "putFor", "(I)I"⟩ : MethodName) (⟨"MergeGraphsModel", "putFor", "(I)I"⟩ : MethodName)) ∈ zTg := zmem 39 (by decide +kernel) (by decide +kernel)
theorem zt_834 : (Cond.methodLink "MergeGraphsModel" (104 : Nat) (⟨"MergeGraphsModel", "putFor", "(I)I"⟩ : MethodName)) ∈ zTg := zmem 834 (by decide +kernel) (by decide +kernel)
theorem zt_836 : (Cond.instanceMethod (⟨"MergeGraphsModel", "putFor", "(I)I"⟩ : MethodName)) ∈ zTg := zmem 836 (by decide +kernel) (by decide +kernel)
def y_Mo_lastNode : MethodName := ⟨"MergeGraphsModel", "lastNode", "(I)I"⟩
abbrev M_Mo_lastNode : zM := (nR4, prog_6_method_23_code, 4, (some .int), 1)
set_option maxRecDepth 100000 in
theorem zk_Mo_lastNode : Cond.code y_Mo_lastNode (M_Mo_lastNode).2.1 (M_Mo_lastNode).2.2.1 (M_Mo_lastNode).2.2.2.1 ∈ zTg := zmem 825 rfl rfl
theorem zy_Mo_lastNode : (y_Mo_lastNode).cls ≠ "java/lang/invoke/MethodHandle" ∧ (y_Mo_lastNode).cls ≠ "java/lang/invoke/VarHandle" ∧ (parseMethodDescriptor (y_Mo_lastNode).desc).map (fun d => d.parameters.length) = some 1 := by decide +kernel
theorem d_Mo_lastNode_0 : decode prog_6_method_23_code 0 = .ok (.aload_n 0, 1) := by decide +kernel
theorem d_Mo_lastNode_1 : decode prog_6_method_23_code 1 = .ok (.iload_n 1, 1) := by decide +kernel
theorem d_Mo_lastNode_2 : decode prog_6_method_23_code 2 = .ok (.invokestatic 57, 3) := by decide +kernel
theorem d_Mo_lastNode_5 : decode prog_6_method_23_code 5 = .ok (.invokevirtual 101, 3) := by decide +kernel
theorem d_Mo_lastNode_8 : decode prog_6_method_23_code 8 = .ok (.istore_n 2, 1) := by decide +kernel
theorem d_Mo_lastNode_9 : decode prog_6_method_23_code 9 = .ok (.aload_n 0, 1) := by decide +kernel
theorem d_Mo_lastNode_10 : decode prog_6_method_23_code 10 = .ok (.iload_n 1, 1) := by decide +kernel
theorem d_Mo_lastNode_11 : decode prog_6_method_23_code 11 = .ok (.invokestatic 61, 3) := by decide +kernel
theorem d_Mo_lastNode_14 : decode prog_6_method_23_code 14 = .ok (.invokevirtual 101, 3) := by decide +kernel
theorem d_Mo_lastNode_17 : decode prog_6_method_23_code 17 = .ok (.istore_n 3, 1) := by decide +kernel
theorem d_Mo_lastNode_18 : decode prog_6_method_23_code 18 = .ok (.iload_n 2, 1) := by decide +kernel
theorem d_Mo_lastNode_19 : decode prog_6_method_23_code 19 = .ok (.iload_n 3, 1) := by decide +kernel
theorem d_Mo_lastNode_20 : decode prog_6_method_23_code 20 = .ok (.if_icmp .le 7, 3) := by decide +kernel
theorem d_Mo_lastNode_23 : decode prog_6_method_23_code 23 = .ok (.iload_n 2, 1) := by decide +kernel
theorem d_Mo_lastNode_24 : decode prog_6_method_23_code 24 = .ok (.goto 4, 3) := by decide +kernel
theorem d_Mo_lastNode_27 : decode prog_6_method_23_code 27 = .ok (.iload_n 3, 1) := by decide +kernel
theorem d_Mo_lastNode_28 : decode prog_6_method_23_code 28 = .ok (.ireturn, 1) := by decide +kernel
def y_Mo_areThere : MethodName := ⟨"MergeGraphsModel", "areThere", "(III)Z"⟩
abbrev M_Mo_areThere : zM := (nR4, prog_6_method_24_code, 7, (some .boolean), 3)
set_option maxRecDepth 100000 in
theorem zk_Mo_areThere : Cond.code y_Mo_areThere (M_Mo_areThere).2.1 (M_Mo_areThere).2.2.1 (M_Mo_areThere).2.2.2.1 ∈ zTg := zmem 821 rfl rfl
theorem zy_Mo_areThere : (y_Mo_areThere).cls ≠ "java/lang/invoke/MethodHandle" ∧ (y_Mo_areThere).cls ≠ "java/lang/invoke/VarHandle" ∧ (parseMethodDescriptor (y_Mo_areThere).desc).map (fun d => d.parameters.length) = some 3 := by decide +kernel
theorem d_Mo_areThere_0 : decode prog_6_method_24_code 0 = .ok (.iconst 1, 1) := by decide +kernel
theorem d_Mo_areThere_1 : decode prog_6_method_24_code 1 = .ok (.istore 4, 2) := by decide +kernel
theorem d_Mo_areThere_3 : decode prog_6_method_24_code 3 = .ok (.iconst 0, 1) := by decide +kernel
theorem d_Mo_areThere_4 : decode prog_6_method_24_code 4 = .ok (.istore 5, 2) := by decide +kernel
theorem d_Mo_areThere_6 : decode prog_6_method_24_code 6 = .ok (.iload 5, 2) := by decide +kernel
theorem d_Mo_areThere_8 : decode prog_6_method_24_code 8 = .ok (.aload_n 0, 1) := by decide +kernel
theorem d_Mo_areThere_9 : decode prog_6_method_24_code 9 = .ok (.getfield 13, 3) := by decide +kernel
theorem d_Mo_areThere_12 : decode prog_6_method_24_code 12 = .ok (.iload_n 1, 1) := by decide +kernel
theorem d_Mo_areThere_13 : decode prog_6_method_24_code 13 = .ok (.iaload, 1) := by decide +kernel
theorem d_Mo_areThere_14 : decode prog_6_method_24_code 14 = .ok (.if_icmp .ge 54, 3) := by decide +kernel
theorem d_Mo_areThere_17 : decode prog_6_method_24_code 17 = .ok (.iload 4, 2) := by decide +kernel
theorem d_Mo_areThere_19 : decode prog_6_method_24_code 19 = .ok (.ifCond .eq 49, 3) := by decide +kernel
theorem d_Mo_areThere_22 : decode prog_6_method_24_code 22 = .ok (.aload_n 0, 1) := by decide +kernel
theorem d_Mo_areThere_23 : decode prog_6_method_24_code 23 = .ok (.iload_n 1, 1) := by decide +kernel
theorem d_Mo_areThere_24 : decode prog_6_method_24_code 24 = .ok (.iload 5, 2) := by decide +kernel
theorem d_Mo_areThere_26 : decode prog_6_method_24_code 26 = .ok (.invokevirtual 50, 3) := by decide +kernel
theorem d_Mo_areThere_29 : decode prog_6_method_24_code 29 = .ok (.istore 6, 2) := by decide +kernel
theorem d_Mo_areThere_31 : decode prog_6_method_24_code 31 = .ok (.aload_n 0, 1) := by decide +kernel
theorem d_Mo_areThere_32 : decode prog_6_method_24_code 32 = .ok (.iload 6, 2) := by decide +kernel
theorem d_Mo_areThere_34 : decode prog_6_method_24_code 34 = .ok (.invokevirtual 107, 3) := by decide +kernel
theorem d_Mo_areThere_37 : decode prog_6_method_24_code 37 = .ok (.iload_n 2, 1) := by decide +kernel
theorem d_Mo_areThere_38 : decode prog_6_method_24_code 38 = .ok (.if_icmp .ne 17, 3) := by decide +kernel
theorem d_Mo_areThere_41 : decode prog_6_method_24_code 41 = .ok (.aload_n 0, 1) := by decide +kernel
theorem d_Mo_areThere_42 : decode prog_6_method_24_code 42 = .ok (.iload_n 3, 1) := by decide +kernel
theorem d_Mo_areThere_43 : decode prog_6_method_24_code 43 = .ok (.aload_n 0, 1) := by decide +kernel
theorem d_Mo_areThere_44 : decode prog_6_method_24_code 44 = .ok (.iload 6, 2) := by decide +kernel
theorem d_Mo_areThere_46 : decode prog_6_method_24_code 46 = .ok (.invokevirtual 110, 3) := by decide +kernel
theorem d_Mo_areThere_49 : decode prog_6_method_24_code 49 = .ok (.invokevirtual 80, 3) := by decide +kernel
theorem d_Mo_areThere_52 : decode prog_6_method_24_code 52 = .ok (.ifCond .eq 7, 3) := by decide +kernel
theorem d_Mo_areThere_55 : decode prog_6_method_24_code 55 = .ok (.iconst 1, 1) := by decide +kernel
theorem d_Mo_areThere_56 : decode prog_6_method_24_code 56 = .ok (.goto 4, 3) := by decide +kernel
theorem d_Mo_areThere_59 : decode prog_6_method_24_code 59 = .ok (.iconst 0, 1) := by decide +kernel
theorem d_Mo_areThere_60 : decode prog_6_method_24_code 60 = .ok (.istore 4, 2) := by decide +kernel
theorem d_Mo_areThere_62 : decode prog_6_method_24_code 62 = .ok (.iinc 5 1, 3) := by decide +kernel
theorem d_Mo_areThere_65 : decode prog_6_method_24_code 65 = .ok (.goto (-59), 3) := by decide +kernel
theorem d_Mo_areThere_68 : decode prog_6_method_24_code 68 = .ok (.iload 4, 2) := by decide +kernel
theorem d_Mo_areThere_70 : decode prog_6_method_24_code 70 = .ok (.ireturn, 1) := by decide +kernel
theorem zt_36 : (Cond.selects "MergeGraphsModel" (⟨"MergeGraphsModel", "lastNode", "(I)I"⟩ : MethodName) (⟨"MergeGraphsModel", "lastNode", "(I)I"⟩ : MethodName)) ∈ zTg := zmem 36 (by decide +kernel) (by decide +kernel)
theorem zt_38 : (Cond.selects "MergeGraphsModel" (⟨"MergeGraphsModel", "imageOf", "(I)I"⟩ : MethodName) (⟨"MergeGraphsModel", "imageOf", "(I)I"⟩ : MethodName)) ∈ zTg := zmem 38 (by decide +kernel) (by decide +kernel)
theorem zt_822 : (Cond.methodLink "MergeGraphsModel" (107 : Nat) (⟨"MergeGraphsModel", "lastNode", "(I)I"⟩ : MethodName)) ∈ zTg := zmem 822 (by decide +kernel) (by decide +kernel)
theorem zt_824 : (Cond.instanceMethod (⟨"MergeGraphsModel", "lastNode", "(I)I"⟩ : MethodName)) ∈ zTg := zmem 824 (by decide +kernel) (by decide +kernel)
theorem zt_830 : (Cond.methodLink "MergeGraphsModel" (110 : Nat) (⟨"MergeGraphsModel", "imageOf", "(I)I"⟩ : MethodName)) ∈ zTg := zmem 830 (by decide +kernel) (by decide +kernel)
theorem zt_832 : (Cond.instanceMethod (⟨"MergeGraphsModel", "imageOf", "(I)I"⟩ : MethodName)) ∈ zTg := zmem 832 (by decide +kernel) (by decide +kernel)
def y_Mo_isNew : MethodName := ⟨"MergeGraphsModel", "isNew", "(I)Z"⟩
abbrev M_Mo_isNew : zM := (nR4, prog_6_method_25_code, 4, (some .boolean), 0)
set_option maxRecDepth 100000 in
theorem zk_Mo_isNew : Cond.code y_Mo_isNew (M_Mo_isNew).2.1 (M_Mo_isNew).2.2.1 (M_Mo_isNew).2.2.2.1 ∈ zTg := zmem 841 rfl rfl
theorem zy_Mo_isNew : (y_Mo_isNew).cls ≠ "java/lang/invoke/MethodHandle" ∧ (y_Mo_isNew).cls ≠ "java/lang/invoke/VarHandle" ∧ (parseMethodDescriptor (y_Mo_isNew).desc).map (fun d => d.parameters.length) = some 1 := by decide +kernel
theorem d_Mo_isNew_0 : decode prog_6_method_25_code 0 = .ok (.iconst 1, 1) := by decide +kernel
theorem d_Mo_isNew_1 : decode prog_6_method_25_code 1 = .ok (.istore_n 2, 1) := by decide +kernel
theorem d_Mo_isNew_2 : decode prog_6_method_25_code 2 = .ok (.iconst 0, 1) := by decide +kernel
theorem d_Mo_isNew_3 : decode prog_6_method_25_code 3 = .ok (.istore_n 3, 1) := by decide +kernel
theorem d_Mo_isNew_4 : decode prog_6_method_25_code 4 = .ok (.iload_n 3, 1) := by decide +kernel
theorem d_Mo_isNew_5 : decode prog_6_method_25_code 5 = .ok (.iload_n 1, 1) := by decide +kernel
theorem d_Mo_isNew_6 : decode prog_6_method_25_code 6 = .ok (.if_icmp .ge 34, 3) := by decide +kernel
theorem d_Mo_isNew_9 : decode prog_6_method_25_code 9 = .ok (.iload_n 2, 1) := by decide +kernel
theorem d_Mo_isNew_10 : decode prog_6_method_25_code 10 = .ok (.ifCond .eq 22, 3) := by decide +kernel
theorem d_Mo_isNew_13 : decode prog_6_method_25_code 13 = .ok (.aload_n 0, 1) := by decide +kernel
theorem d_Mo_isNew_14 : decode prog_6_method_25_code 14 = .ok (.getfield 31, 3) := by decide +kernel
theorem d_Mo_isNew_17 : decode prog_6_method_25_code 17 = .ok (.iload_n 3, 1) := by decide +kernel
theorem d_Mo_isNew_18 : decode prog_6_method_25_code 18 = .ok (.iaload, 1) := by decide +kernel
theorem d_Mo_isNew_19 : decode prog_6_method_25_code 19 = .ok (.aload_n 0, 1) := by decide +kernel
theorem d_Mo_isNew_20 : decode prog_6_method_25_code 20 = .ok (.getfield 31, 3) := by decide +kernel
theorem d_Mo_isNew_23 : decode prog_6_method_25_code 23 = .ok (.iload_n 1, 1) := by decide +kernel
theorem d_Mo_isNew_24 : decode prog_6_method_25_code 24 = .ok (.iaload, 1) := by decide +kernel
theorem d_Mo_isNew_25 : decode prog_6_method_25_code 25 = .ok (.if_icmp .eq 7, 3) := by decide +kernel
theorem d_Mo_isNew_28 : decode prog_6_method_25_code 28 = .ok (.iconst 1, 1) := by decide +kernel
theorem d_Mo_isNew_29 : decode prog_6_method_25_code 29 = .ok (.goto 4, 3) := by decide +kernel
theorem d_Mo_isNew_32 : decode prog_6_method_25_code 32 = .ok (.iconst 0, 1) := by decide +kernel
theorem d_Mo_isNew_33 : decode prog_6_method_25_code 33 = .ok (.istore_n 2, 1) := by decide +kernel
theorem d_Mo_isNew_34 : decode prog_6_method_25_code 34 = .ok (.iinc 3 1, 3) := by decide +kernel
theorem d_Mo_isNew_37 : decode prog_6_method_25_code 37 = .ok (.goto (-33), 3) := by decide +kernel
theorem d_Mo_isNew_40 : decode prog_6_method_25_code 40 = .ok (.iload_n 2, 1) := by decide +kernel
theorem d_Mo_isNew_41 : decode prog_6_method_25_code 41 = .ok (.ireturn, 1) := by decide +kernel
def y_Mo_imageSize : MethodName := ⟨"MergeGraphsModel", "imageSize", "(I)I"⟩
abbrev M_Mo_imageSize : zM := (nR4, prog_6_method_26_code, 3, (some .int), 3)
set_option maxRecDepth 100000 in
theorem zk_Mo_imageSize : Cond.code y_Mo_imageSize (M_Mo_imageSize).2.1 (M_Mo_imageSize).2.2.1 (M_Mo_imageSize).2.2.2.1 ∈ zTg := zmem 845 rfl rfl
theorem zy_Mo_imageSize : (y_Mo_imageSize).cls ≠ "java/lang/invoke/MethodHandle" ∧ (y_Mo_imageSize).cls ≠ "java/lang/invoke/VarHandle" ∧ (parseMethodDescriptor (y_Mo_imageSize).desc).map (fun d => d.parameters.length) = some 1 := by decide +kernel
theorem d_Mo_imageSize_0 : decode prog_6_method_26_code 0 = .ok (.aload_n 0, 1) := by decide +kernel
theorem d_Mo_imageSize_1 : decode prog_6_method_26_code 1 = .ok (.iconst 0, 1) := by decide +kernel
theorem d_Mo_imageSize_2 : decode prog_6_method_26_code 2 = .ok (.putfield 54, 3) := by decide +kernel
theorem d_Mo_imageSize_5 : decode prog_6_method_26_code 5 = .ok (.iconst 0, 1) := by decide +kernel
theorem d_Mo_imageSize_6 : decode prog_6_method_26_code 6 = .ok (.istore_n 2, 1) := by decide +kernel
theorem d_Mo_imageSize_7 : decode prog_6_method_26_code 7 = .ok (.iload_n 2, 1) := by decide +kernel
theorem d_Mo_imageSize_8 : decode prog_6_method_26_code 8 = .ok (.aload_n 0, 1) := by decide +kernel
theorem d_Mo_imageSize_9 : decode prog_6_method_26_code 9 = .ok (.getfield 13, 3) := by decide +kernel
theorem d_Mo_imageSize_12 : decode prog_6_method_26_code 12 = .ok (.iload_n 1, 1) := by decide +kernel
theorem d_Mo_imageSize_13 : decode prog_6_method_26_code 13 = .ok (.iaload, 1) := by decide +kernel
theorem d_Mo_imageSize_14 : decode prog_6_method_26_code 14 = .ok (.if_icmp .ge 23, 3) := by decide +kernel
theorem d_Mo_imageSize_17 : decode prog_6_method_26_code 17 = .ok (.aload_n 0, 1) := by decide +kernel
theorem d_Mo_imageSize_18 : decode prog_6_method_26_code 18 = .ok (.aload_n 0, 1) := by decide +kernel
theorem d_Mo_imageSize_19 : decode prog_6_method_26_code 19 = .ok (.aload_n 0, 1) := by decide +kernel
theorem d_Mo_imageSize_20 : decode prog_6_method_26_code 20 = .ok (.iload_n 1, 1) := by decide +kernel
theorem d_Mo_imageSize_21 : decode prog_6_method_26_code 21 = .ok (.iload_n 2, 1) := by decide +kernel
theorem d_Mo_imageSize_22 : decode prog_6_method_26_code 22 = .ok (.invokevirtual 50, 3) := by decide +kernel
theorem d_Mo_imageSize_25 : decode prog_6_method_26_code 25 = .ok (.invokevirtual 110, 3) := by decide +kernel
theorem d_Mo_imageSize_28 : decode prog_6_method_26_code 28 = .ok (.invokevirtual 84, 3) := by decide +kernel
theorem d_Mo_imageSize_31 : decode prog_6_method_26_code 31 = .ok (.iinc 2 1, 3) := by decide +kernel
theorem d_Mo_imageSize_34 : decode prog_6_method_26_code 34 = .ok (.goto (-27), 3) := by decide +kernel
theorem d_Mo_imageSize_37 : decode prog_6_method_26_code 37 = .ok (.aload_n 0, 1) := by decide +kernel
theorem d_Mo_imageSize_38 : decode prog_6_method_26_code 38 = .ok (.getfield 54, 3) := by decide +kernel
theorem d_Mo_imageSize_41 : decode prog_6_method_26_code 41 = .ok (.ireturn, 1) := by decide +kernel
def y_Mo_prepare : MethodName := ⟨"MergeGraphsModel", "prepare", "(III)V"⟩
abbrev M_Mo_prepare : zM := (nR4, prog_6_method_27_code, 5, none, 2)
set_option maxRecDepth 100000 in
theorem zk_Mo_prepare : Cond.code y_Mo_prepare (M_Mo_prepare).2.1 (M_Mo_prepare).2.2.1 (M_Mo_prepare).2.2.2.1 ∈ zTg := zmem 817 rfl rfl
theorem zy_Mo_prepare : (y_Mo_prepare).cls ≠ "java/lang/invoke/MethodHandle" ∧ (y_Mo_prepare).cls ≠ "java/lang/invoke/VarHandle" ∧ (parseMethodDescriptor (y_Mo_prepare).desc).map (fun d => d.parameters.length) = some 3 := by decide +kernel
theorem d_Mo_prepare_0 : decode prog_6_method_27_code 0 = .ok (.aload_n 0, 1) := by decide +kernel
theorem d_Mo_prepare_1 : decode prog_6_method_27_code 1 = .ok (.iconst 0, 1) := by decide +kernel
theorem d_Mo_prepare_2 : decode prog_6_method_27_code 2 = .ok (.putfield 98, 3) := by decide +kernel
theorem d_Mo_prepare_5 : decode prog_6_method_27_code 5 = .ok (.bipush 40, 2) := by decide +kernel
theorem d_Mo_prepare_7 : decode prog_6_method_27_code 7 = .ok (.istore 4, 2) := by decide +kernel
theorem d_Mo_prepare_9 : decode prog_6_method_27_code 9 = .ok (.iload 4, 2) := by decide +kernel
theorem d_Mo_prepare_11 : decode prog_6_method_27_code 11 = .ok (.bipush 46, 2) := by decide +kernel
theorem d_Mo_prepare_13 : decode prog_6_method_27_code 13 = .ok (.if_icmp .ge 41, 3) := by decide +kernel
theorem d_Mo_prepare_16 : decode prog_6_method_27_code 16 = .ok (.aload_n 0, 1) := by decide +kernel
theorem d_Mo_prepare_17 : decode prog_6_method_27_code 17 = .ok (.iload_n 1, 1) := by decide +kernel
theorem d_Mo_prepare_18 : decode prog_6_method_27_code 18 = .ok (.iload 4, 2) := by decide +kernel
theorem d_Mo_prepare_20 : decode prog_6_method_27_code 20 = .ok (.iconst 2, 1) := by decide +kernel
theorem d_Mo_prepare_21 : decode prog_6_method_27_code 21 = .ok (.invokevirtual 64, 3) := by decide +kernel
theorem d_Mo_prepare_24 : decode prog_6_method_27_code 24 = .ok (.ifCond .eq 24, 3) := by decide +kernel
theorem d_Mo_prepare_27 : decode prog_6_method_27_code 27 = .ok (.aload_n 0, 1) := by decide +kernel
theorem d_Mo_prepare_28 : decode prog_6_method_27_code 28 = .ok (.getfield 22, 3) := by decide +kernel
theorem d_Mo_prepare_31 : decode prog_6_method_27_code 31 = .ok (.aload_n 0, 1) := by decide +kernel
theorem d_Mo_prepare_32 : decode prog_6_method_27_code 32 = .ok (.getfield 98, 3) := by decide +kernel
theorem d_Mo_prepare_35 : decode prog_6_method_27_code 35 = .ok (.iload 4, 2) := by decide +kernel
theorem d_Mo_prepare_37 : decode prog_6_method_27_code 37 = .ok (.iastore, 1) := by decide +kernel
theorem d_Mo_prepare_38 : decode prog_6_method_27_code 38 = .ok (.aload_n 0, 1) := by decide +kernel
theorem d_Mo_prepare_39 : decode prog_6_method_27_code 39 = .ok (.dup, 1) := by decide +kernel
theorem d_Mo_prepare_40 : decode prog_6_method_27_code 40 = .ok (.getfield 98, 3) := by decide +kernel
theorem d_Mo_prepare_43 : decode prog_6_method_27_code 43 = .ok (.iconst 1, 1) := by decide +kernel
theorem d_Mo_prepare_44 : decode prog_6_method_27_code 44 = .ok (.iadd, 1) := by decide +kernel
theorem d_Mo_prepare_45 : decode prog_6_method_27_code 45 = .ok (.putfield 98, 3) := by decide +kernel
theorem d_Mo_prepare_48 : decode prog_6_method_27_code 48 = .ok (.iinc 4 1, 3) := by decide +kernel
theorem d_Mo_prepare_51 : decode prog_6_method_27_code 51 = .ok (.goto (-42), 3) := by decide +kernel
theorem d_Mo_prepare_54 : decode prog_6_method_27_code 54 = .ok (.aload_n 0, 1) := by decide +kernel
theorem d_Mo_prepare_55 : decode prog_6_method_27_code 55 = .ok (.iconst 0, 1) := by decide +kernel
theorem d_Mo_prepare_56 : decode prog_6_method_27_code 56 = .ok (.putfield 113, 3) := by decide +kernel
theorem d_Mo_prepare_59 : decode prog_6_method_27_code 59 = .ok (.iload_n 3, 1) := by decide +kernel
theorem d_Mo_prepare_60 : decode prog_6_method_27_code 60 = .ok (.ifCond .ne 8, 3) := by decide +kernel
theorem d_Mo_prepare_63 : decode prog_6_method_27_code 63 = .ok (.bipush 40, 2) := by decide +kernel
theorem d_Mo_prepare_65 : decode prog_6_method_27_code 65 = .ok (.goto 4, 3) := by decide +kernel
theorem d_Mo_prepare_68 : decode prog_6_method_27_code 68 = .ok (.iconst 0, 1) := by decide +kernel
theorem d_Mo_prepare_69 : decode prog_6_method_27_code 69 = .ok (.istore 4, 2) := by decide +kernel
theorem d_Mo_prepare_71 : decode prog_6_method_27_code 71 = .ok (.iload 4, 2) := by decide +kernel
theorem d_Mo_prepare_73 : decode prog_6_method_27_code 73 = .ok (.bipush 46, 2) := by decide +kernel
theorem d_Mo_prepare_75 : decode prog_6_method_27_code 75 = .ok (.if_icmp .ge 41, 3) := by decide +kernel
theorem d_Mo_prepare_78 : decode prog_6_method_27_code 78 = .ok (.aload_n 0, 1) := by decide +kernel
theorem d_Mo_prepare_79 : decode prog_6_method_27_code 79 = .ok (.iload_n 2, 1) := by decide +kernel
theorem d_Mo_prepare_80 : decode prog_6_method_27_code 80 = .ok (.iload 4, 2) := by decide +kernel
theorem d_Mo_prepare_82 : decode prog_6_method_27_code 82 = .ok (.iconst 2, 1) := by decide +kernel
theorem d_Mo_prepare_83 : decode prog_6_method_27_code 83 = .ok (.invokevirtual 64, 3) := by decide +kernel
theorem d_Mo_prepare_86 : decode prog_6_method_27_code 86 = .ok (.ifCond .eq 24, 3) := by decide +kernel
theorem d_Mo_prepare_89 : decode prog_6_method_27_code 89 = .ok (.aload_n 0, 1) := by decide +kernel
theorem d_Mo_prepare_90 : decode prog_6_method_27_code 90 = .ok (.getfield 25, 3) := by decide +kernel
theorem d_Mo_prepare_93 : decode prog_6_method_27_code 93 = .ok (.aload_n 0, 1) := by decide +kernel
theorem d_Mo_prepare_94 : decode prog_6_method_27_code 94 = .ok (.getfield 113, 3) := by decide +kernel
theorem d_Mo_prepare_97 : decode prog_6_method_27_code 97 = .ok (.iload 4, 2) := by decide +kernel
theorem d_Mo_prepare_99 : decode prog_6_method_27_code 99 = .ok (.iastore, 1) := by decide +kernel
theorem d_Mo_prepare_100 : decode prog_6_method_27_code 100 = .ok (.aload_n 0, 1) := by decide +kernel
theorem d_Mo_prepare_101 : decode prog_6_method_27_code 101 = .ok (.dup, 1) := by decide +kernel
theorem d_Mo_prepare_102 : decode prog_6_method_27_code 102 = .ok (.getfield 113, 3) := by decide +kernel
theorem d_Mo_prepare_105 : decode prog_6_method_27_code 105 = .ok (.iconst 1, 1) := by decide +kernel
theorem d_Mo_prepare_106 : decode prog_6_method_27_code 106 = .ok (.iadd, 1) := by decide +kernel
theorem d_Mo_prepare_107 : decode prog_6_method_27_code 107 = .ok (.putfield 113, 3) := by decide +kernel
theorem d_Mo_prepare_110 : decode prog_6_method_27_code 110 = .ok (.iinc 4 1, 3) := by decide +kernel
theorem d_Mo_prepare_113 : decode prog_6_method_27_code 113 = .ok (.goto (-42), 3) := by decide +kernel
theorem d_Mo_prepare_116 : decode prog_6_method_27_code 116 = .ok (.return_, 1) := by decide +kernel
theorem zf_Mo_25 : Cond.fieldLink nR4 25 (nT4 8).1 (nT4 8).2.1 (nT4 8).2.2.1 ∈ zTg := zmem 688 (by decide +kernel) (by decide +kernel)
theorem zf_Mo_113 : Cond.fieldLink nR4 113 (nT4 9).1 (nT4 9).2.1 (nT4 9).2.2.1 ∈ zTg := zmem 689 (by decide +kernel) (by decide +kernel)
def f_Mo_thrown (G : Nat) (x0 : Nat) (h : pH) : Option pR := (gI h x0 4 0).bind fun v1 => some (some (.int v1), h)
theorem f_Mo_thrown_eq (G : Nat) (x0 : Nat) (h : pH) : f_Mo_thrown G x0 h = ((gI h x0 4 0).bind fun v1 => some (some (.int v1), h)) := rfl
set_option maxRecDepth 100000 in
set_option maxHeartbeats 4000000 in
theorem w_Mo_thrown_b0 {X : zX} {r : pR} {G : Nat} (hQ : zQ X r) : ∀ (x0 : Nat) (h : pH), f_Mo_thrown G x0 h = some r → Z X M_Mo_thrown 0 0 h 0 [(0, .ref x0)] [] := by
  intro x0 h E
  rw [f_Mo_thrown_eq] at E
  refine z_aload_n 0 d_Mo_thrown_0 rfl rfl ?_
  refine z_getI (ci := 4) (j := 0) rfl (by decide) zf_Mo_46 d_Mo_thrown_1 E (fun v1 _ E => ?_)
  exact z_ireturn hQ rfl z00 d_Mo_thrown_4 E
theorem m_Mo_thrown {l : Launch} {G : Nat} {x0 : Nat} {h : pH} {r : pR} (E : f_Mo_thrown G x0 h = some r) : zMet l y_Mo_thrown M_Mo_thrown 0 0 [.ref x0] h r :=
  zMet_of (by decide) rfl (Nat.le_of_ble_eq_true rfl) (fun p e s m args below meth c D0 cT => w_Mo_thrown_b0 (X := (p, l, e, s, m, args, below, meth, c, D0, cT, h, _, 0, 0)) rfl x0 h E)
def f_Mo_isGraph_b14 (G : Nat) (k15 : Int32 → pH → Option pR) (h : pH) : Option pR := k15 (0 : Int32) h
theorem f_Mo_isGraph_b14_eq (G : Nat) (k15 : Int32 → pH → Option pR) (h : pH) : f_Mo_isGraph_b14 G k15 h = (k15 (0 : Int32) h) := rfl
def f_Mo_isGraph_b15 (G : Nat) (s0 : Int32) (h : pH) : Option pR := (if isZ s0 = true then some (some (.int s0), h) else none)
theorem f_Mo_isGraph_b15_eq (G : Nat) (s0 : Int32) (h : pH) : f_Mo_isGraph_b15 G s0 h = ((if isZ s0 = true then some (some (.int s0), h) else none)) := rfl
def f_Mo_isGraph (G : Nat) (x0 : Int32) (h : pH) : Option pR := if x0 < 0 then ((f_Mo_isGraph_b14 G (f_Mo_isGraph_b15 G)) h) else (if (6 : Int32) ≤ x0 then ((f_Mo_isGraph_b14 G (f_Mo_isGraph_b15 G)) h) else ((f_Mo_isGraph_b15 G) (1 : Int32) h))
theorem f_Mo_isGraph_eq (G : Nat) (x0 : Int32) (h : pH) : f_Mo_isGraph G x0 h = (if x0 < 0 then ((f_Mo_isGraph_b14 G (f_Mo_isGraph_b15 G)) h) else (if (6 : Int32) ≤ x0 then ((f_Mo_isGraph_b14 G (f_Mo_isGraph_b15 G)) h) else ((f_Mo_isGraph_b15 G) (1 : Int32) h))) := rfl
set_option maxRecDepth 100000 in
set_option maxHeartbeats 4000000 in
theorem w_Mo_isGraph_b14 {X : zX} {r : pR} {G : Nat} {k15 : Int32 → pH → Option pR} (hQ : zQ X r) (hk15 : ∀ (s0 : Int32) (h : pH), k15 s0 h = some r → Z X M_Mo_isGraph 0 0 h 15 [] [.int s0]) : ∀ (h : pH), f_Mo_isGraph_b14 G k15 h = some r → Z X M_Mo_isGraph 0 0 h 14 [] [] := by
  intro h E
  rw [f_Mo_isGraph_b14_eq] at E
  refine z_iconst (v := (0 : Int32)) d_Mo_isGraph_14 (by decide) ?_
  exact hk15 (0 : Int32) h E
set_option maxRecDepth 100000 in
set_option maxHeartbeats 4000000 in
theorem w_Mo_isGraph_b15 {X : zX} {r : pR} {G : Nat} (hQ : zQ X r) : ∀ (s0 : Int32) (h : pH), f_Mo_isGraph_b15 G s0 h = some r → Z X M_Mo_isGraph 0 0 h 15 [] [.int s0] := by
  intro s0 h E
  rw [f_Mo_isGraph_b15_eq] at E
  exact z_zreturn hQ rfl z00 d_Mo_isGraph_15 E
set_option maxRecDepth 100000 in
set_option maxHeartbeats 4000000 in
theorem w_Mo_isGraph_b0 {X : zX} {r : pR} {G : Nat} (hQ : zQ X r) : ∀ (x0 : Int32) (h : pH), f_Mo_isGraph G x0 h = some r → Z X M_Mo_isGraph 0 0 h 0 [(0, .int x0)] [] := by
  intro x0 h E
  rw [f_Mo_isGraph_eq] at E
  refine z_iload_n 0 d_Mo_isGraph_0 rfl rfl ?_
  refine z_if_lt (y := 0) (tgt := 14) d_Mo_isGraph_1 (by decide) E (fun E => ?_) (fun E => ?_)
  · refine z_lv [] rfl ?_
    exact (w_Mo_isGraph_b14 hQ (w_Mo_isGraph_b15 hQ)) h E
  · refine z_iload_n 0 d_Mo_isGraph_4 rfl rfl ?_
    refine z_bipush (v := (6 : Int32)) d_Mo_isGraph_5 (by decide) ?_
    refine z_ic_ge (tgt := 14) d_Mo_isGraph_7 (by decide) E (fun E => ?_) (fun E => ?_)
    · refine z_lv [] rfl ?_
      exact (w_Mo_isGraph_b14 hQ (w_Mo_isGraph_b15 hQ)) h E
    · refine z_iconst (v := (1 : Int32)) d_Mo_isGraph_10 (by decide) ?_
      refine z_goto (tgt := 15) d_Mo_isGraph_11 (by decide) ?_
      refine z_lv [] rfl ?_
      exact (w_Mo_isGraph_b15 hQ) (1 : Int32) h E
theorem m_Mo_isGraph {l : Launch} {G : Nat} {x0 : Int32} {h : pH} {r : pR} (E : f_Mo_isGraph G x0 h = some r) : zMet l y_Mo_isGraph M_Mo_isGraph 0 0 [.int x0] h r :=
  zMet_of (by decide) rfl (Nat.le_of_ble_eq_true rfl) (fun p e s m args below meth c D0 cT => w_Mo_isGraph_b0 (X := (p, l, e, s, m, args, below, meth, c, D0, cT, h, _, 0, 0)) rfl x0 h E)
def f_Mo_there_b10 (G : Nat) (x1 : Int32) (s0 : Nat) (s1 : Int32) (h : pH) : Option pR := (oP h s0 4 0 (.int s1)).bind fun h1 => (if isZ x1 = true then some (some (.int x1), h1) else none)
theorem f_Mo_there_b10_eq (G : Nat) (x1 : Int32) (s0 : Nat) (s1 : Int32) (h : pH) : f_Mo_there_b10 G x1 s0 s1 h = ((oP h s0 4 0 (.int s1)).bind fun h1 => (if isZ x1 = true then some (some (.int x1), h1) else none)) := rfl
def f_Mo_there (G : Nat) (x0 : Nat) (x1 : Int32) (h : pH) : Option pR := if x1 = 0 then ((f_Mo_there_b10 G) x1 x0 (1 : Int32) h) else ((f_Mo_there_b10 G) x1 x0 (0 : Int32) h)
theorem f_Mo_there_eq (G : Nat) (x0 : Nat) (x1 : Int32) (h : pH) : f_Mo_there G x0 x1 h = (if x1 = 0 then ((f_Mo_there_b10 G) x1 x0 (1 : Int32) h) else ((f_Mo_there_b10 G) x1 x0 (0 : Int32) h)) := rfl
set_option maxRecDepth 100000 in
set_option maxHeartbeats 4000000 in
theorem w_Mo_there_b10 {X : zX} {r : pR} {G : Nat} (hQ : zQ X r) : ∀ (x1 : Int32) (s0 : Nat) (s1 : Int32) (h : pH), f_Mo_there_b10 G x1 s0 s1 h = some r → Z X M_Mo_there 0 0 h 10 [(1, .int x1)] [.int s1, .ref s0] := by
  intro x1 s0 s1 h E
  rw [f_Mo_there_b10_eq] at E
  refine z_putI (ci := 4) (j := 0) rfl (by decide) zf_Mo_46 rfl rfl d_Mo_there_10 E (fun h1 _ E => ?_)
  refine z_iload_n 0 d_Mo_there_13 rfl rfl ?_
  exact z_zreturn hQ rfl z00 d_Mo_there_14 E
set_option maxRecDepth 100000 in
set_option maxHeartbeats 4000000 in
theorem w_Mo_there_b0 {X : zX} {r : pR} {G : Nat} (hQ : zQ X r) : ∀ (x0 : Nat) (x1 : Int32) (h : pH), f_Mo_there G x0 x1 h = some r → Z X M_Mo_there 0 0 h 0 [(0, .ref x0), (1, .int x1)] [] := by
  intro x0 x1 h E
  rw [f_Mo_there_eq] at E
  refine z_aload_n 0 d_Mo_there_0 rfl rfl ?_
  refine z_iload_n 1 d_Mo_there_1 rfl rfl ?_
  refine z_if_eq (y := 0) (tgt := 9) d_Mo_there_2 (by decide) E (fun E => ?_) (fun E => ?_)
  · refine z_iconst (v := (1 : Int32)) d_Mo_there_9 (by decide) ?_
    refine z_lv [1] rfl ?_
    exact (w_Mo_there_b10 hQ) x1 x0 (1 : Int32) h E
  · refine z_iconst (v := (0 : Int32)) d_Mo_there_5 (by decide) ?_
    refine z_goto (tgt := 10) d_Mo_there_6 (by decide) ?_
    refine z_lv [1] rfl ?_
    exact (w_Mo_there_b10 hQ) x1 x0 (0 : Int32) h E
theorem m_Mo_there {l : Launch} {G : Nat} {x0 : Nat} {x1 : Int32} {h : pH} {r : pR} (E : f_Mo_there G x0 x1 h = some r) : zMet l y_Mo_there M_Mo_there 0 0 [.ref x0, .int x1] h r :=
  zMet_of (by decide) rfl (Nat.le_of_ble_eq_true rfl) (fun p e s m args below meth c D0 cT => w_Mo_there_b0 (X := (p, l, e, s, m, args, below, meth, c, D0, cT, h, _, 0, 0)) rfl x0 x1 h E)
def f_Mo_numberOf (G : Nat) (x0 : Nat) (x1 : Int32) (x2 : Int32) (h : pH) : Option pR := (gR h x0 4 1).bind fun v1 => (aI h v1 (((30 : Int32) * x1) + x2)).bind fun v2 => some (some (.int v2), h)
theorem f_Mo_numberOf_eq (G : Nat) (x0 : Nat) (x1 : Int32) (x2 : Int32) (h : pH) : f_Mo_numberOf G x0 x1 x2 h = ((gR h x0 4 1).bind fun v1 => (aI h v1 (((30 : Int32) * x1) + x2)).bind fun v2 => some (some (.int v2), h)) := rfl
set_option maxRecDepth 100000 in
set_option maxHeartbeats 4000000 in
theorem w_Mo_numberOf_b0 {X : zX} {r : pR} {G : Nat} (hQ : zQ X r) : ∀ (x0 : Nat) (x1 : Int32) (x2 : Int32) (h : pH), f_Mo_numberOf G x0 x1 x2 h = some r → Z X M_Mo_numberOf 0 0 h 0 [(0, .ref x0), (1, .int x1), (2, .int x2)] [] := by
  intro x0 x1 x2 h E
  rw [f_Mo_numberOf_eq] at E
  refine z_aload_n 0 d_Mo_numberOf_0 rfl rfl ?_
  refine z_getR (ci := 4) (j := 1) rfl (by decide) zf_Mo_7 d_Mo_numberOf_1 E (fun v1 _ E => ?_)
  refine z_bipush (v := (30 : Int32)) d_Mo_numberOf_4 (by decide) ?_
  refine z_iload_n 1 d_Mo_numberOf_6 rfl rfl ?_
  refine z_imul d_Mo_numberOf_7 ?_
  refine z_iload_n 2 d_Mo_numberOf_8 rfl rfl ?_
  refine z_iadd d_Mo_numberOf_9 ?_
  refine z_iaload d_Mo_numberOf_10 E (fun v2 _ E => ?_)
  exact z_ireturn hQ rfl z00 d_Mo_numberOf_11 E
theorem m_Mo_numberOf {l : Launch} {G : Nat} {x0 : Nat} {x1 : Int32} {x2 : Int32} {h : pH} {r : pR} (E : f_Mo_numberOf G x0 x1 x2 h = some r) : zMet l y_Mo_numberOf M_Mo_numberOf 0 0 [.ref x0, .int x1, .int x2] h r :=
  zMet_of (by decide) rfl (Nat.le_of_ble_eq_true rfl) (fun p e s m args below meth c D0 cT => w_Mo_numberOf_b0 (X := (p, l, e, s, m, args, below, meth, c, D0, cT, h, _, 0, 0)) rfl x0 x1 x2 h E)
def f_Mo_has_b31 (G : Nat) (k36 : Nat → Int32 → Int32 → Int32 → Int32 → pH → Option pR) (x0 : Nat) (x1 : Int32) (x2 : Int32) (x4 : Int32) (h : pH) : Option pR := k36 x0 x1 x2 x4 (1 : Int32) h
theorem f_Mo_has_b31_eq (G : Nat) (k36 : Nat → Int32 → Int32 → Int32 → Int32 → pH → Option pR) (x0 : Nat) (x1 : Int32) (x2 : Int32) (x4 : Int32) (h : pH) : f_Mo_has_b31 G k36 x0 x1 x2 x4 h = (k36 x0 x1 x2 x4 (1 : Int32) h) := rfl
def f_Mo_has_b36 (G : Nat) (k5 : Nat → Int32 → Int32 → Int32 → Int32 → pH → Option pR) (x0 : Nat) (x1 : Int32) (x2 : Int32) (x4 : Int32) (s0 : Int32) (h : pH) : Option pR := k5 x0 x1 x2 s0 (x4 + 1) h
theorem f_Mo_has_b36_eq (G : Nat) (k5 : Nat → Int32 → Int32 → Int32 → Int32 → pH → Option pR) (x0 : Nat) (x1 : Int32) (x2 : Int32) (x4 : Int32) (s0 : Int32) (h : pH) : f_Mo_has_b36 G k5 x0 x1 x2 x4 s0 h = (k5 x0 x1 x2 s0 (x4 + 1) h) := rfl
def f_Mo_has_b5 (G : Nat) : Nat → Nat → Int32 → Int32 → Int32 → Int32 → pH → Option pR
  | 0 => fun _ _ _ _ _ _ => none
  | F + 1 => fun x0 x1 x2 x3 x4 h => (gR h x0 4 2).bind fun v1 => (aI h v1 x1).bind fun v2 => if v2 ≤ x4 then ((if isZ x3 = true then some (some (.int x3), h) else none)) else (if x3 = 0 then (cI (oC h x0 4) (f_Mo_numberOf G x0 x1 x4 h) fun v6 h3 => if v6 = x2 then ((f_Mo_has_b31 G (f_Mo_has_b36 G (f_Mo_has_b5 G F))) x0 x1 x2 x4 h3) else ((f_Mo_has_b36 G (f_Mo_has_b5 G F)) x0 x1 x2 x4 (0 : Int32) h3)) else ((f_Mo_has_b31 G (f_Mo_has_b36 G (f_Mo_has_b5 G F))) x0 x1 x2 x4 h))
theorem f_Mo_has_b5_eq (G : Nat) (F : Nat) (x0 : Nat) (x1 : Int32) (x2 : Int32) (x3 : Int32) (x4 : Int32) (h : pH) : f_Mo_has_b5 G (F + 1) x0 x1 x2 x3 x4 h = ((gR h x0 4 2).bind fun v1 => (aI h v1 x1).bind fun v2 => if v2 ≤ x4 then ((if isZ x3 = true then some (some (.int x3), h) else none)) else (if x3 = 0 then (cI (oC h x0 4) (f_Mo_numberOf G x0 x1 x4 h) fun v6 h3 => if v6 = x2 then ((f_Mo_has_b31 G (f_Mo_has_b36 G (f_Mo_has_b5 G F))) x0 x1 x2 x4 h3) else ((f_Mo_has_b36 G (f_Mo_has_b5 G F)) x0 x1 x2 x4 (0 : Int32) h3)) else ((f_Mo_has_b31 G (f_Mo_has_b36 G (f_Mo_has_b5 G F))) x0 x1 x2 x4 h))) := rfl
def f_Mo_has (G : Nat) (x0 : Nat) (x1 : Int32) (x2 : Int32) (h : pH) : Option pR := (f_Mo_has_b5 G G) x0 x1 x2 (0 : Int32) (0 : Int32) h
theorem f_Mo_has_eq (G : Nat) (x0 : Nat) (x1 : Int32) (x2 : Int32) (h : pH) : f_Mo_has G x0 x1 x2 h = ((f_Mo_has_b5 G G) x0 x1 x2 (0 : Int32) (0 : Int32) h) := rfl
set_option maxRecDepth 100000 in
set_option maxHeartbeats 4000000 in
theorem w_Mo_has_b31 {X : zX} {r : pR} {G : Nat} {k36 : Nat → Int32 → Int32 → Int32 → Int32 → pH → Option pR} (hQ : zQ X r) (hk36 : ∀ (x0 : Nat) (x1 : Int32) (x2 : Int32) (x4 : Int32) (s0 : Int32) (h : pH), k36 x0 x1 x2 x4 s0 h = some r → Z X M_Mo_has 0 0 h 36 [(0, .ref x0), (1, .int x1), (2, .int x2), (4, .int x4)] [.int s0]) : ∀ (x0 : Nat) (x1 : Int32) (x2 : Int32) (x4 : Int32) (h : pH), f_Mo_has_b31 G k36 x0 x1 x2 x4 h = some r → Z X M_Mo_has 0 0 h 31 [(0, .ref x0), (1, .int x1), (2, .int x2), (4, .int x4)] [] := by
  intro x0 x1 x2 x4 h E
  rw [f_Mo_has_b31_eq] at E
  refine z_iconst (v := (1 : Int32)) d_Mo_has_31 (by decide) ?_
  refine z_goto (tgt := 36) d_Mo_has_32 (by decide) ?_
  exact hk36 x0 x1 x2 x4 (1 : Int32) h E
set_option maxRecDepth 100000 in
set_option maxHeartbeats 4000000 in
theorem w_Mo_has_b36 {X : zX} {r : pR} {G : Nat} {k5 : Nat → Int32 → Int32 → Int32 → Int32 → pH → Option pR} (hQ : zQ X r) (hk5 : ∀ (x0 : Nat) (x1 : Int32) (x2 : Int32) (x3 : Int32) (x4 : Int32) (h : pH), k5 x0 x1 x2 x3 x4 h = some r → Z X M_Mo_has 0 0 h 5 [(0, .ref x0), (1, .int x1), (2, .int x2), (3, .int x3), (4, .int x4)] []) : ∀ (x0 : Nat) (x1 : Int32) (x2 : Int32) (x4 : Int32) (s0 : Int32) (h : pH), f_Mo_has_b36 G k5 x0 x1 x2 x4 s0 h = some r → Z X M_Mo_has 0 0 h 36 [(0, .ref x0), (1, .int x1), (2, .int x2), (4, .int x4)] [.int s0] := by
  intro x0 x1 x2 x4 s0 h E
  rw [f_Mo_has_b36_eq] at E
  refine z_istore_n (lv2 := [(3, .int s0), (0, .ref x0), (1, .int x1), (2, .int x2), (4, .int x4)]) d_Mo_has_36 rfl (Nat.le_of_ble_eq_true rfl) rfl ?_
  refine z_iinc (v := (x4 + 1)) (lv2 := [(4, .int (x4 + 1)), (3, .int s0), (0, .ref x0), (1, .int x1), (2, .int x2)]) 4 d_Mo_has_37 rfl rfl (Nat.le_of_ble_eq_true rfl) rfl ?_
  refine z_goto (tgt := 5) d_Mo_has_40 (by decide) ?_
  refine z_lv [2, 3, 4, 1, 0] rfl ?_
  exact hk5 x0 x1 x2 s0 (x4 + 1) h E
set_option maxRecDepth 100000 in
set_option maxHeartbeats 4000000 in
theorem w_Mo_has_b5 {X : zX} {r : pR} {G : Nat} (hQ : zQ X r) : ∀ (F : Nat) (x0 : Nat) (x1 : Int32) (x2 : Int32) (x3 : Int32) (x4 : Int32) (h : pH), f_Mo_has_b5 G F x0 x1 x2 x3 x4 h = some r → Z X M_Mo_has 0 0 h 5 [(0, .ref x0), (1, .int x1), (2, .int x2), (3, .int x3), (4, .int x4)] [] := by
  intro F
  induction F with
  | zero => intro x0 x1 x2 x3 x4 h E; exact nomatch (show (none : Option pR) = some _ from E)
  | succ F ih =>
    intro x0 x1 x2 x3 x4 h E
    rw [f_Mo_has_b5_eq] at E
    refine z_iload 4 d_Mo_has_5 rfl ?_
    refine z_aload_n 0 d_Mo_has_7 rfl rfl ?_
    refine z_getR (ci := 4) (j := 2) rfl (by decide) zf_Mo_13 d_Mo_has_8 E (fun v1 _ E => ?_)
    refine z_iload_n 1 d_Mo_has_11 rfl rfl ?_
    refine z_iaload d_Mo_has_12 E (fun v2 _ E => ?_)
    refine z_ic_ge (tgt := 43) d_Mo_has_13 (by decide) E (fun E => ?_) (fun E => ?_)
    · refine z_iload_n 3 d_Mo_has_43 rfl rfl ?_
      exact z_zreturn hQ rfl z00 d_Mo_has_44 E
    · refine z_iload_n 3 d_Mo_has_16 rfl rfl ?_
      refine z_if_ne (y := 0) (tgt := 31) d_Mo_has_17 (by decide) E (fun E => ?_) (fun E => ?_)
      · refine z_lv [0, 1, 2, 4] rfl ?_
        exact (w_Mo_has_b31 hQ (w_Mo_has_b36 hQ ih)) x0 x1 x2 x4 h E
      · refine z_aload_n 0 d_Mo_has_20 rfl rfl ?_
        refine z_iload_n 1 d_Mo_has_21 rfl rfl ?_
        refine z_iload 4 d_Mo_has_22 rfl ?_
        obtain ⟨g4, v6, h3, e5, E⟩ := cI_some E
        refine z_invV (ci := 4) (y := y_Mo_numberOf) (Mc := M_Mo_numberOf) (av := [.int x1, .int x4]) (rest := []) rfl rfl ⟨zt_760, zt_762, zt_27, zt_52⟩ zk_Mo_numberOf zy_Mo_numberOf (by decide) (Nat.le_of_ble_eq_true rfl) z00 rfl (Nat.le_of_ble_eq_true rfl) d_Mo_has_24 g4 (m_Mo_numberOf e5) ?_
        show Z X M_Mo_has 0 0 h3 27 [(0, .ref x0), (1, .int x1), (2, .int x2), (3, .int x3), (4, .int x4)] [.int v6]
        refine z_iload_n 2 d_Mo_has_27 rfl rfl ?_
        refine z_ic_ne (tgt := 35) d_Mo_has_28 (by decide) E (fun E => ?_) (fun E => ?_)
        · refine z_iconst (v := (0 : Int32)) d_Mo_has_35 (by decide) ?_
          refine z_lv [0, 1, 2, 4] rfl ?_
          exact (w_Mo_has_b36 hQ ih) x0 x1 x2 x4 (0 : Int32) h3 E
        · refine z_lv [0, 1, 2, 4] rfl ?_
          exact (w_Mo_has_b31 hQ (w_Mo_has_b36 hQ ih)) x0 x1 x2 x4 h3 E
set_option maxRecDepth 100000 in
set_option maxHeartbeats 4000000 in
theorem w_Mo_has_b0 {X : zX} {r : pR} {G : Nat} (hQ : zQ X r) : ∀ (x0 : Nat) (x1 : Int32) (x2 : Int32) (h : pH), f_Mo_has G x0 x1 x2 h = some r → Z X M_Mo_has 0 0 h 0 [(0, .ref x0), (1, .int x1), (2, .int x2)] [] := by
  intro x0 x1 x2 h E
  rw [f_Mo_has_eq] at E
  refine z_iconst (v := (0 : Int32)) d_Mo_has_0 (by decide) ?_
  refine z_istore_n (lv2 := [(3, .int (0 : Int32)), (0, .ref x0), (1, .int x1), (2, .int x2)]) d_Mo_has_1 rfl (Nat.le_of_ble_eq_true rfl) rfl ?_
  refine z_iconst (v := (0 : Int32)) d_Mo_has_2 (by decide) ?_
  refine z_istore (lv2 := [(4, .int (0 : Int32)), (3, .int (0 : Int32)), (0, .ref x0), (1, .int x1), (2, .int x2)]) d_Mo_has_3 (Nat.le_of_ble_eq_true rfl) rfl ?_
  refine z_lv [2, 3, 4, 1, 0] rfl ?_
  exact (w_Mo_has_b5 hQ G) x0 x1 x2 (0 : Int32) (0 : Int32) h E
theorem m_Mo_has {l : Launch} {G : Nat} {x0 : Nat} {x1 : Int32} {x2 : Int32} {h : pH} {r : pR} (E : f_Mo_has G x0 x1 x2 h = some r) : zMet l y_Mo_has M_Mo_has 0 0 [.ref x0, .int x1, .int x2] h r :=
  zMet_of (by decide) rfl (Nat.le_of_ble_eq_true rfl) (fun p e s m args below meth c D0 cT => w_Mo_has_b0 (X := (p, l, e, s, m, args, below, meth, c, D0, cT, h, _, 0, 0)) rfl x0 x1 x2 h E)
def f_Mo_add_b49 (G : Nat) : Nat → Nat → Int32 → Int32 → Int32 → pH → Option pR
  | 0 => fun _ _ _ _ _ => none
  | F + 1 => fun x0 x1 x2 x3 h => if x3 ≤ x2 then ((gR h x0 4 3).bind fun v7 => (sI h v7 x2 x1).bind fun h8 => (gI h8 x0 4 4).bind fun v9 => (oP h8 x0 4 4 (.int (v9 + (1 : Int32)))).bind fun h10 => some (none, h10)) else ((gR h x0 4 3).bind fun v11 => (gR h x0 4 3).bind fun v12 => (aI h v12 (x3 - (1 : Int32))).bind fun v13 => (sI h v11 x3 v13).bind fun h14 => (f_Mo_add_b49 G F) x0 x1 x2 (x3 + (-1)) h14)
theorem f_Mo_add_b49_eq (G : Nat) (F : Nat) (x0 : Nat) (x1 : Int32) (x2 : Int32) (x3 : Int32) (h : pH) : f_Mo_add_b49 G (F + 1) x0 x1 x2 x3 h = (if x3 ≤ x2 then ((gR h x0 4 3).bind fun v7 => (sI h v7 x2 x1).bind fun h8 => (gI h8 x0 4 4).bind fun v9 => (oP h8 x0 4 4 (.int (v9 + (1 : Int32)))).bind fun h10 => some (none, h10)) else ((gR h x0 4 3).bind fun v11 => (gR h x0 4 3).bind fun v12 => (aI h v12 (x3 - (1 : Int32))).bind fun v13 => (sI h v11 x3 v13).bind fun h14 => (f_Mo_add_b49 G F) x0 x1 x2 (x3 + (-1)) h14)) := rfl
def f_Mo_add_b44 (G : Nat) (x0 : Nat) (x1 : Int32) (x2 : Int32) (h : pH) : Option pR := (gI h x0 4 4).bind fun v6 => (f_Mo_add_b49 G G) x0 x1 x2 v6 h
theorem f_Mo_add_b44_eq (G : Nat) (x0 : Nat) (x1 : Int32) (x2 : Int32) (h : pH) : f_Mo_add_b44 G x0 x1 x2 h = ((gI h x0 4 4).bind fun v6 => (f_Mo_add_b49 G G) x0 x1 x2 v6 h) := rfl
def f_Mo_add_b27 (G : Nat) (x0 : Nat) (x1 : Int32) (x2 : Int32) (h : pH) : Option pR := if x2 ≤ 0 then ((f_Mo_add_b44 G) x0 x1 x2 h) else ((gR h x0 4 3).bind fun v4 => (aI h v4 (x2 - (1 : Int32))).bind fun v5 => if v5 = x1 then (some (none, h)) else ((f_Mo_add_b44 G) x0 x1 x2 h))
theorem f_Mo_add_b27_eq (G : Nat) (x0 : Nat) (x1 : Int32) (x2 : Int32) (h : pH) : f_Mo_add_b27 G x0 x1 x2 h = (if x2 ≤ 0 then ((f_Mo_add_b44 G) x0 x1 x2 h) else ((gR h x0 4 3).bind fun v4 => (aI h v4 (x2 - (1 : Int32))).bind fun v5 => if v5 = x1 then (some (none, h)) else ((f_Mo_add_b44 G) x0 x1 x2 h))) := rfl
def f_Mo_add_b5 (G : Nat) : Nat → Nat → Int32 → Int32 → pH → Option pR
  | 0 => fun _ _ _ _ => none
  | F + 1 => fun x0 x1 x2 h => if x2 ≤ 0 then ((f_Mo_add_b27 G) x0 x1 x2 h) else ((gR h x0 4 3).bind fun v2 => (aI h v2 (x2 - (1 : Int32))).bind fun v3 => if v3 ≤ x1 then ((f_Mo_add_b27 G) x0 x1 x2 h) else ((f_Mo_add_b5 G F) x0 x1 (x2 + (-1)) h))
theorem f_Mo_add_b5_eq (G : Nat) (F : Nat) (x0 : Nat) (x1 : Int32) (x2 : Int32) (h : pH) : f_Mo_add_b5 G (F + 1) x0 x1 x2 h = (if x2 ≤ 0 then ((f_Mo_add_b27 G) x0 x1 x2 h) else ((gR h x0 4 3).bind fun v2 => (aI h v2 (x2 - (1 : Int32))).bind fun v3 => if v3 ≤ x1 then ((f_Mo_add_b27 G) x0 x1 x2 h) else ((f_Mo_add_b5 G F) x0 x1 (x2 + (-1)) h))) := rfl
def f_Mo_add (G : Nat) (x0 : Nat) (x1 : Int32) (h : pH) : Option pR := (gI h x0 4 4).bind fun v1 => (f_Mo_add_b5 G G) x0 x1 v1 h
theorem f_Mo_add_eq (G : Nat) (x0 : Nat) (x1 : Int32) (h : pH) : f_Mo_add G x0 x1 h = ((gI h x0 4 4).bind fun v1 => (f_Mo_add_b5 G G) x0 x1 v1 h) := rfl
set_option maxRecDepth 100000 in
set_option maxHeartbeats 4000000 in
theorem w_Mo_add_b49 {X : zX} {r : pR} {G : Nat} (hQ : zQ X r) : ∀ (F : Nat) (x0 : Nat) (x1 : Int32) (x2 : Int32) (x3 : Int32) (h : pH), f_Mo_add_b49 G F x0 x1 x2 x3 h = some r → Z X M_Mo_add 0 0 h 49 [(0, .ref x0), (1, .int x1), (2, .int x2), (3, .int x3)] [] := by
  intro F
  induction F with
  | zero => intro x0 x1 x2 x3 h E; exact nomatch (show (none : Option pR) = some _ from E)
  | succ F ih =>
    intro x0 x1 x2 x3 h E
    rw [f_Mo_add_b49_eq] at E
    refine z_iload_n 3 d_Mo_add_49 rfl rfl ?_
    refine z_iload_n 2 d_Mo_add_50 rfl rfl ?_
    refine z_ic_le (tgt := 74) d_Mo_add_51 (by decide) E (fun E => ?_) (fun E => ?_)
    · refine z_aload_n 0 d_Mo_add_74 rfl rfl ?_
      refine z_getR (ci := 4) (j := 3) rfl (by decide) zf_Mo_16 d_Mo_add_75 E (fun v7 _ E => ?_)
      refine z_iload_n 2 d_Mo_add_78 rfl rfl ?_
      refine z_iload_n 1 d_Mo_add_79 rfl rfl ?_
      refine z_iastore d_Mo_add_80 E (fun h8 _ E => ?_)
      refine z_aload_n 0 d_Mo_add_81 rfl rfl ?_
      refine z_dup d_Mo_add_82 rfl ?_
      refine z_getI (ci := 4) (j := 4) rfl (by decide) zf_Mo_54 d_Mo_add_83 E (fun v9 _ E => ?_)
      refine z_iconst (v := (1 : Int32)) d_Mo_add_86 (by decide) ?_
      refine z_iadd d_Mo_add_87 ?_
      refine z_putI (ci := 4) (j := 4) rfl (by decide) zf_Mo_54 rfl rfl d_Mo_add_88 E (fun h10 _ E => ?_)
      exact z_return hQ rfl z00 d_Mo_add_91 E
    · refine z_aload_n 0 d_Mo_add_54 rfl rfl ?_
      refine z_getR (ci := 4) (j := 3) rfl (by decide) zf_Mo_16 d_Mo_add_55 E (fun v11 _ E => ?_)
      refine z_iload_n 3 d_Mo_add_58 rfl rfl ?_
      refine z_aload_n 0 d_Mo_add_59 rfl rfl ?_
      refine z_getR (ci := 4) (j := 3) rfl (by decide) zf_Mo_16 d_Mo_add_60 E (fun v12 _ E => ?_)
      refine z_iload_n 3 d_Mo_add_63 rfl rfl ?_
      refine z_iconst (v := (1 : Int32)) d_Mo_add_64 (by decide) ?_
      refine z_isub d_Mo_add_65 ?_
      refine z_iaload d_Mo_add_66 E (fun v13 _ E => ?_)
      refine z_iastore d_Mo_add_67 E (fun h14 _ E => ?_)
      refine z_iinc (v := (x3 + (-1))) (lv2 := [(3, .int (x3 + (-1))), (0, .ref x0), (1, .int x1), (2, .int x2)]) 3 d_Mo_add_68 rfl rfl (Nat.le_of_ble_eq_true rfl) rfl ?_
      refine z_goto (tgt := 49) d_Mo_add_71 (by decide) ?_
      refine z_lv [1, 2, 3, 0] rfl ?_
      exact ih x0 x1 x2 (x3 + (-1)) h14 E
set_option maxRecDepth 100000 in
set_option maxHeartbeats 4000000 in
theorem w_Mo_add_b44 {X : zX} {r : pR} {G : Nat} (hQ : zQ X r) : ∀ (x0 : Nat) (x1 : Int32) (x2 : Int32) (h : pH), f_Mo_add_b44 G x0 x1 x2 h = some r → Z X M_Mo_add 0 0 h 44 [(0, .ref x0), (1, .int x1), (2, .int x2)] [] := by
  intro x0 x1 x2 h E
  rw [f_Mo_add_b44_eq] at E
  refine z_aload_n 0 d_Mo_add_44 rfl rfl ?_
  refine z_getI (ci := 4) (j := 4) rfl (by decide) zf_Mo_54 d_Mo_add_45 E (fun v6 _ E => ?_)
  refine z_istore_n (lv2 := [(3, .int v6), (0, .ref x0), (1, .int x1), (2, .int x2)]) d_Mo_add_48 rfl (Nat.le_of_ble_eq_true rfl) rfl ?_
  refine z_lv [1, 2, 3, 0] rfl ?_
  exact (w_Mo_add_b49 hQ G) x0 x1 x2 v6 h E
set_option maxRecDepth 100000 in
set_option maxHeartbeats 4000000 in
theorem w_Mo_add_b27 {X : zX} {r : pR} {G : Nat} (hQ : zQ X r) : ∀ (x0 : Nat) (x1 : Int32) (x2 : Int32) (h : pH), f_Mo_add_b27 G x0 x1 x2 h = some r → Z X M_Mo_add 0 0 h 27 [(0, .ref x0), (1, .int x1), (2, .int x2)] [] := by
  intro x0 x1 x2 h E
  rw [f_Mo_add_b27_eq] at E
  refine z_iload_n 2 d_Mo_add_27 rfl rfl ?_
  refine z_if_le (y := 0) (tgt := 44) d_Mo_add_28 (by decide) E (fun E => ?_) (fun E => ?_)
  · exact (w_Mo_add_b44 hQ) x0 x1 x2 h E
  · refine z_aload_n 0 d_Mo_add_31 rfl rfl ?_
    refine z_getR (ci := 4) (j := 3) rfl (by decide) zf_Mo_16 d_Mo_add_32 E (fun v4 _ E => ?_)
    refine z_iload_n 2 d_Mo_add_35 rfl rfl ?_
    refine z_iconst (v := (1 : Int32)) d_Mo_add_36 (by decide) ?_
    refine z_isub d_Mo_add_37 ?_
    refine z_iaload d_Mo_add_38 E (fun v5 _ E => ?_)
    refine z_iload_n 1 d_Mo_add_39 rfl rfl ?_
    refine z_ic_ne (tgt := 44) d_Mo_add_40 (by decide) E (fun E => ?_) (fun E => ?_)
    · exact (w_Mo_add_b44 hQ) x0 x1 x2 h E
    · exact z_return hQ rfl z00 d_Mo_add_43 E
set_option maxRecDepth 100000 in
set_option maxHeartbeats 4000000 in
theorem w_Mo_add_b5 {X : zX} {r : pR} {G : Nat} (hQ : zQ X r) : ∀ (F : Nat) (x0 : Nat) (x1 : Int32) (x2 : Int32) (h : pH), f_Mo_add_b5 G F x0 x1 x2 h = some r → Z X M_Mo_add 0 0 h 5 [(0, .ref x0), (1, .int x1), (2, .int x2)] [] := by
  intro F
  induction F with
  | zero => intro x0 x1 x2 h E; exact nomatch (show (none : Option pR) = some _ from E)
  | succ F ih =>
    intro x0 x1 x2 h E
    rw [f_Mo_add_b5_eq] at E
    refine z_iload_n 2 d_Mo_add_5 rfl rfl ?_
    refine z_if_le (y := 0) (tgt := 27) d_Mo_add_6 (by decide) E (fun E => ?_) (fun E => ?_)
    · exact (w_Mo_add_b27 hQ) x0 x1 x2 h E
    · refine z_aload_n 0 d_Mo_add_9 rfl rfl ?_
      refine z_getR (ci := 4) (j := 3) rfl (by decide) zf_Mo_16 d_Mo_add_10 E (fun v2 _ E => ?_)
      refine z_iload_n 2 d_Mo_add_13 rfl rfl ?_
      refine z_iconst (v := (1 : Int32)) d_Mo_add_14 (by decide) ?_
      refine z_isub d_Mo_add_15 ?_
      refine z_iaload d_Mo_add_16 E (fun v3 _ E => ?_)
      refine z_iload_n 1 d_Mo_add_17 rfl rfl ?_
      refine z_ic_le (tgt := 27) d_Mo_add_18 (by decide) E (fun E => ?_) (fun E => ?_)
      · exact (w_Mo_add_b27 hQ) x0 x1 x2 h E
      · refine z_iinc (v := (x2 + (-1))) (lv2 := [(2, .int (x2 + (-1))), (0, .ref x0), (1, .int x1)]) 2 d_Mo_add_21 rfl rfl (Nat.le_of_ble_eq_true rfl) rfl ?_
        refine z_goto (tgt := 5) d_Mo_add_24 (by decide) ?_
        refine z_lv [1, 2, 0] rfl ?_
        exact ih x0 x1 (x2 + (-1)) h E
set_option maxRecDepth 100000 in
set_option maxHeartbeats 4000000 in
theorem w_Mo_add_b0 {X : zX} {r : pR} {G : Nat} (hQ : zQ X r) : ∀ (x0 : Nat) (x1 : Int32) (h : pH), f_Mo_add G x0 x1 h = some r → Z X M_Mo_add 0 0 h 0 [(0, .ref x0), (1, .int x1)] [] := by
  intro x0 x1 h E
  rw [f_Mo_add_eq] at E
  refine z_aload_n 0 d_Mo_add_0 rfl rfl ?_
  refine z_getI (ci := 4) (j := 4) rfl (by decide) zf_Mo_54 d_Mo_add_1 E (fun v1 _ E => ?_)
  refine z_istore_n (lv2 := [(2, .int v1), (0, .ref x0), (1, .int x1)]) d_Mo_add_4 rfl (Nat.le_of_ble_eq_true rfl) rfl ?_
  refine z_lv [1, 2, 0] rfl ?_
  exact (w_Mo_add_b5 hQ G) x0 x1 v1 h E
theorem m_Mo_add {l : Launch} {G : Nat} {x0 : Nat} {x1 : Int32} {h : pH} {r : pR} (E : f_Mo_add G x0 x1 h = some r) : zMet l y_Mo_add M_Mo_add 0 0 [.ref x0, .int x1] h r :=
  zMet_of (by decide) rfl (Nat.le_of_ble_eq_true rfl) (fun p e s m args below meth c D0 cT => w_Mo_add_b0 (X := (p, l, e, s, m, args, below, meth, c, D0, cT, h, _, 0, 0)) rfl x0 x1 h E)
def f_Mo_keep_b2 (G : Nat) : Nat → Nat → Int32 → Int32 → pH → Option pR
  | 0 => fun _ _ _ _ => none
  | F + 1 => fun x0 x1 x2 h => (gI h x0 4 4).bind fun v1 => if v1 ≤ x2 then ((gR h x0 4 2).bind fun v2 => (gI h x0 4 4).bind fun v3 => (sI h v2 x1 v3).bind fun h4 => some (none, h4)) else ((gR h x0 4 1).bind fun v5 => (gR h x0 4 3).bind fun v6 => (aI h v6 x2).bind fun v7 => (sI h v5 (((30 : Int32) * x1) + x2) v7).bind fun h8 => (f_Mo_keep_b2 G F) x0 x1 (x2 + 1) h8)
theorem f_Mo_keep_b2_eq (G : Nat) (F : Nat) (x0 : Nat) (x1 : Int32) (x2 : Int32) (h : pH) : f_Mo_keep_b2 G (F + 1) x0 x1 x2 h = ((gI h x0 4 4).bind fun v1 => if v1 ≤ x2 then ((gR h x0 4 2).bind fun v2 => (gI h x0 4 4).bind fun v3 => (sI h v2 x1 v3).bind fun h4 => some (none, h4)) else ((gR h x0 4 1).bind fun v5 => (gR h x0 4 3).bind fun v6 => (aI h v6 x2).bind fun v7 => (sI h v5 (((30 : Int32) * x1) + x2) v7).bind fun h8 => (f_Mo_keep_b2 G F) x0 x1 (x2 + 1) h8)) := rfl
def f_Mo_keep (G : Nat) (x0 : Nat) (x1 : Int32) (h : pH) : Option pR := (f_Mo_keep_b2 G G) x0 x1 (0 : Int32) h
theorem f_Mo_keep_eq (G : Nat) (x0 : Nat) (x1 : Int32) (h : pH) : f_Mo_keep G x0 x1 h = ((f_Mo_keep_b2 G G) x0 x1 (0 : Int32) h) := rfl
set_option maxRecDepth 100000 in
set_option maxHeartbeats 4000000 in
theorem w_Mo_keep_b2 {X : zX} {r : pR} {G : Nat} (hQ : zQ X r) : ∀ (F : Nat) (x0 : Nat) (x1 : Int32) (x2 : Int32) (h : pH), f_Mo_keep_b2 G F x0 x1 x2 h = some r → Z X M_Mo_keep 0 0 h 2 [(0, .ref x0), (1, .int x1), (2, .int x2)] [] := by
  intro F
  induction F with
  | zero => intro x0 x1 x2 h E; exact nomatch (show (none : Option pR) = some _ from E)
  | succ F ih =>
    intro x0 x1 x2 h E
    rw [f_Mo_keep_b2_eq] at E
    refine z_iload_n 2 d_Mo_keep_2 rfl rfl ?_
    refine z_aload_n 0 d_Mo_keep_3 rfl rfl ?_
    refine z_getI (ci := 4) (j := 4) rfl (by decide) zf_Mo_54 d_Mo_keep_4 E (fun v1 _ E => ?_)
    refine z_ic_ge (tgt := 33) d_Mo_keep_7 (by decide) E (fun E => ?_) (fun E => ?_)
    · refine z_aload_n 0 d_Mo_keep_33 rfl rfl ?_
      refine z_getR (ci := 4) (j := 2) rfl (by decide) zf_Mo_13 d_Mo_keep_34 E (fun v2 _ E => ?_)
      refine z_iload_n 1 d_Mo_keep_37 rfl rfl ?_
      refine z_aload_n 0 d_Mo_keep_38 rfl rfl ?_
      refine z_getI (ci := 4) (j := 4) rfl (by decide) zf_Mo_54 d_Mo_keep_39 E (fun v3 _ E => ?_)
      refine z_iastore d_Mo_keep_42 E (fun h4 _ E => ?_)
      exact z_return hQ rfl z00 d_Mo_keep_43 E
    · refine z_aload_n 0 d_Mo_keep_10 rfl rfl ?_
      refine z_getR (ci := 4) (j := 1) rfl (by decide) zf_Mo_7 d_Mo_keep_11 E (fun v5 _ E => ?_)
      refine z_bipush (v := (30 : Int32)) d_Mo_keep_14 (by decide) ?_
      refine z_iload_n 1 d_Mo_keep_16 rfl rfl ?_
      refine z_imul d_Mo_keep_17 ?_
      refine z_iload_n 2 d_Mo_keep_18 rfl rfl ?_
      refine z_iadd d_Mo_keep_19 ?_
      refine z_aload_n 0 d_Mo_keep_20 rfl rfl ?_
      refine z_getR (ci := 4) (j := 3) rfl (by decide) zf_Mo_16 d_Mo_keep_21 E (fun v6 _ E => ?_)
      refine z_iload_n 2 d_Mo_keep_24 rfl rfl ?_
      refine z_iaload d_Mo_keep_25 E (fun v7 _ E => ?_)
      refine z_iastore d_Mo_keep_26 E (fun h8 _ E => ?_)
      refine z_iinc (v := (x2 + 1)) (lv2 := [(2, .int (x2 + 1)), (0, .ref x0), (1, .int x1)]) 2 d_Mo_keep_27 rfl rfl (Nat.le_of_ble_eq_true rfl) rfl ?_
      refine z_goto (tgt := 2) d_Mo_keep_30 (by decide) ?_
      refine z_lv [1, 2, 0] rfl ?_
      exact ih x0 x1 (x2 + 1) h8 E
set_option maxRecDepth 100000 in
set_option maxHeartbeats 4000000 in
theorem w_Mo_keep_b0 {X : zX} {r : pR} {G : Nat} (hQ : zQ X r) : ∀ (x0 : Nat) (x1 : Int32) (h : pH), f_Mo_keep G x0 x1 h = some r → Z X M_Mo_keep 0 0 h 0 [(0, .ref x0), (1, .int x1)] [] := by
  intro x0 x1 h E
  rw [f_Mo_keep_eq] at E
  refine z_iconst (v := (0 : Int32)) d_Mo_keep_0 (by decide) ?_
  refine z_istore_n (lv2 := [(2, .int (0 : Int32)), (0, .ref x0), (1, .int x1)]) d_Mo_keep_1 rfl (Nat.le_of_ble_eq_true rfl) rfl ?_
  refine z_lv [1, 2, 0] rfl ?_
  exact (w_Mo_keep_b2 hQ G) x0 x1 (0 : Int32) h E
theorem m_Mo_keep {l : Launch} {G : Nat} {x0 : Nat} {x1 : Int32} {h : pH} {r : pR} (E : f_Mo_keep G x0 x1 h = some r) : zMet l y_Mo_keep M_Mo_keep 0 0 [.ref x0, .int x1] h r :=
  zMet_of (by decide) rfl (Nat.le_of_ble_eq_true rfl) (fun p e s m args below meth c D0 cT => w_Mo_keep_b0 (X := (p, l, e, s, m, args, below, meth, c, D0, cT, h, _, 0, 0)) rfl x0 x1 h E)
def f_Mo_subject (G : Nat) (x0 : Int32) (h : pH) : Option pR := (if (4096 : Int32) = 0 then none else some (some (.int (x0 / (4096 : Int32))), h))
theorem f_Mo_subject_eq (G : Nat) (x0 : Int32) (h : pH) : f_Mo_subject G x0 h = ((if (4096 : Int32) = 0 then none else some (some (.int (x0 / (4096 : Int32))), h))) := rfl
set_option maxRecDepth 100000 in
set_option maxHeartbeats 4000000 in
theorem w_Mo_subject_b0 {X : zX} {r : pR} {G : Nat} (hQ : zQ X r) : ∀ (x0 : Int32) (h : pH), f_Mo_subject G x0 h = some r → Z X M_Mo_subject 0 0 h 0 [(0, .int x0)] [] := by
  intro x0 h E
  rw [f_Mo_subject_eq] at E
  refine z_iload_n 0 d_Mo_subject_0 rfl rfl ?_
  refine z_sipush (v := (4096 : Int32)) d_Mo_subject_1 (by decide) ?_
  refine z_idiv d_Mo_subject_4 E (fun E => ?_)
  exact z_ireturn hQ rfl z00 d_Mo_subject_5 E
theorem m_Mo_subject {l : Launch} {G : Nat} {x0 : Int32} {h : pH} {r : pR} (E : f_Mo_subject G x0 h = some r) : zMet l y_Mo_subject M_Mo_subject 0 0 [.int x0] h r :=
  zMet_of (by decide) rfl (Nat.le_of_ble_eq_true rfl) (fun p e s m args below meth c D0 cT => w_Mo_subject_b0 (X := (p, l, e, s, m, args, below, meth, c, D0, cT, h, _, 0, 0)) rfl x0 h E)
def f_Mo_object (G : Nat) (x0 : Int32) (h : pH) : Option pR := (if (64 : Int32) = 0 then none else some (some (.int (x0 - x0 / (64 : Int32) * (64 : Int32))), h))
theorem f_Mo_object_eq (G : Nat) (x0 : Int32) (h : pH) : f_Mo_object G x0 h = ((if (64 : Int32) = 0 then none else some (some (.int (x0 - x0 / (64 : Int32) * (64 : Int32))), h))) := rfl
set_option maxRecDepth 100000 in
set_option maxHeartbeats 4000000 in
theorem w_Mo_object_b0 {X : zX} {r : pR} {G : Nat} (hQ : zQ X r) : ∀ (x0 : Int32) (h : pH), f_Mo_object G x0 h = some r → Z X M_Mo_object 0 0 h 0 [(0, .int x0)] [] := by
  intro x0 h E
  rw [f_Mo_object_eq] at E
  refine z_iload_n 0 d_Mo_object_0 rfl rfl ?_
  refine z_bipush (v := (64 : Int32)) d_Mo_object_1 (by decide) ?_
  refine z_irem d_Mo_object_3 E (fun E => ?_)
  exact z_ireturn hQ rfl z00 d_Mo_object_4 E
theorem m_Mo_object {l : Launch} {G : Nat} {x0 : Int32} {h : pH} {r : pR} (E : f_Mo_object G x0 h = some r) : zMet l y_Mo_object M_Mo_object 0 0 [.int x0] h r :=
  zMet_of (by decide) rfl (Nat.le_of_ble_eq_true rfl) (fun p e s m args below meth c D0 cT => w_Mo_object_b0 (X := (p, l, e, s, m, args, below, meth, c, D0, cT, h, _, 0, 0)) rfl x0 h E)
def f_Mo_numbered (G : Nat) (x0 : Int32) (x1 : Int32) (x2 : Int32) (h : pH) : Option pR := some (some (.int ((((4096 : Int32) * x0) + ((64 : Int32) * x1)) + x2)), h)
theorem f_Mo_numbered_eq (G : Nat) (x0 : Int32) (x1 : Int32) (x2 : Int32) (h : pH) : f_Mo_numbered G x0 x1 x2 h = (some (some (.int ((((4096 : Int32) * x0) + ((64 : Int32) * x1)) + x2)), h)) := rfl
set_option maxRecDepth 100000 in
set_option maxHeartbeats 4000000 in
theorem w_Mo_numbered_b0 {X : zX} {r : pR} {G : Nat} (hQ : zQ X r) : ∀ (x0 : Int32) (x1 : Int32) (x2 : Int32) (h : pH), f_Mo_numbered G x0 x1 x2 h = some r → Z X M_Mo_numbered 0 0 h 0 [(0, .int x0), (1, .int x1), (2, .int x2)] [] := by
  intro x0 x1 x2 h E
  rw [f_Mo_numbered_eq] at E
  refine z_sipush (v := (4096 : Int32)) d_Mo_numbered_0 (by decide) ?_
  refine z_iload_n 0 d_Mo_numbered_3 rfl rfl ?_
  refine z_imul d_Mo_numbered_4 ?_
  refine z_bipush (v := (64 : Int32)) d_Mo_numbered_5 (by decide) ?_
  refine z_iload_n 1 d_Mo_numbered_7 rfl rfl ?_
  refine z_imul d_Mo_numbered_8 ?_
  refine z_iadd d_Mo_numbered_9 ?_
  refine z_iload_n 2 d_Mo_numbered_10 rfl rfl ?_
  refine z_iadd d_Mo_numbered_11 ?_
  exact z_ireturn hQ rfl z00 d_Mo_numbered_12 E
theorem m_Mo_numbered {l : Launch} {G : Nat} {x0 : Int32} {x1 : Int32} {x2 : Int32} {h : pH} {r : pR} (E : f_Mo_numbered G x0 x1 x2 h = some r) : zMet l y_Mo_numbered M_Mo_numbered 0 0 [.int x0, .int x1, .int x2] h r :=
  zMet_of (by decide) rfl (Nat.le_of_ble_eq_true rfl) (fun p e s m args below meth c D0 cT => w_Mo_numbered_b0 (X := (p, l, e, s, m, args, below, meth, c, D0, cT, h, _, 0, 0)) rfl x0 x1 x2 h E)
def f_Mo_stands_b62 (G : Nat) (k63 : Nat → Int32 → Int32 → Int32 → Int32 → Int32 → pH → Option pR) (x0 : Nat) (x1 : Int32) (x2 : Int32) (x3 : Int32) (x5 : Int32) (h : pH) : Option pR := k63 x0 x1 x2 x3 x5 (0 : Int32) h
theorem f_Mo_stands_b62_eq (G : Nat) (k63 : Nat → Int32 → Int32 → Int32 → Int32 → Int32 → pH → Option pR) (x0 : Nat) (x1 : Int32) (x2 : Int32) (x3 : Int32) (x5 : Int32) (h : pH) : f_Mo_stands_b62 G k63 x0 x1 x2 x3 x5 h = (k63 x0 x1 x2 x3 x5 (0 : Int32) h) := rfl
def f_Mo_stands_b45 (G : Nat) (k58 : Nat → Int32 → Int32 → Int32 → Int32 → pH → Option pR) (k63 : Nat → Int32 → Int32 → Int32 → Int32 → Int32 → pH → Option pR) (x0 : Nat) (x1 : Int32) (x2 : Int32) (x3 : Int32) (x5 : Int32) (x6 : Int32) (h : pH) : Option pR := if x3 = 0 then ((f_Mo_stands_b62 G k63) x0 x1 x2 x3 x5 h) else (cI true (f_Mo_object G x6 h) fun v14 h11 => if v14 = x2 then (k58 x0 x1 x2 x3 x5 h11) else ((f_Mo_stands_b62 G k63) x0 x1 x2 x3 x5 h11))
theorem f_Mo_stands_b45_eq (G : Nat) (k58 : Nat → Int32 → Int32 → Int32 → Int32 → pH → Option pR) (k63 : Nat → Int32 → Int32 → Int32 → Int32 → Int32 → pH → Option pR) (x0 : Nat) (x1 : Int32) (x2 : Int32) (x3 : Int32) (x5 : Int32) (x6 : Int32) (h : pH) : f_Mo_stands_b45 G k58 k63 x0 x1 x2 x3 x5 x6 h = (if x3 = 0 then ((f_Mo_stands_b62 G k63) x0 x1 x2 x3 x5 h) else (cI true (f_Mo_object G x6 h) fun v14 h11 => if v14 = x2 then (k58 x0 x1 x2 x3 x5 h11) else ((f_Mo_stands_b62 G k63) x0 x1 x2 x3 x5 h11))) := rfl
def f_Mo_stands_b58 (G : Nat) (k63 : Nat → Int32 → Int32 → Int32 → Int32 → Int32 → pH → Option pR) (x0 : Nat) (x1 : Int32) (x2 : Int32) (x3 : Int32) (x5 : Int32) (h : pH) : Option pR := k63 x0 x1 x2 x3 x5 (1 : Int32) h
theorem f_Mo_stands_b58_eq (G : Nat) (k63 : Nat → Int32 → Int32 → Int32 → Int32 → Int32 → pH → Option pR) (x0 : Nat) (x1 : Int32) (x2 : Int32) (x3 : Int32) (x5 : Int32) (h : pH) : f_Mo_stands_b58 G k63 x0 x1 x2 x3 x5 h = (k63 x0 x1 x2 x3 x5 (1 : Int32) h) := rfl
def f_Mo_stands_b63 (G : Nat) (k6 : Nat → Int32 → Int32 → Int32 → Int32 → Int32 → pH → Option pR) (x0 : Nat) (x1 : Int32) (x2 : Int32) (x3 : Int32) (x5 : Int32) (s0 : Int32) (h : pH) : Option pR := k6 x0 x1 x2 x3 s0 (x5 + 1) h
theorem f_Mo_stands_b63_eq (G : Nat) (k6 : Nat → Int32 → Int32 → Int32 → Int32 → Int32 → pH → Option pR) (x0 : Nat) (x1 : Int32) (x2 : Int32) (x3 : Int32) (x5 : Int32) (s0 : Int32) (h : pH) : f_Mo_stands_b63 G k6 x0 x1 x2 x3 x5 s0 h = (k6 x0 x1 x2 x3 s0 (x5 + 1) h) := rfl
def f_Mo_stands_b6 (G : Nat) : Nat → Nat → Int32 → Int32 → Int32 → Int32 → Int32 → pH → Option pR
  | 0 => fun _ _ _ _ _ _ _ => none
  | F + 1 => fun x0 x1 x2 x3 x4 x5 h => (gR h x0 4 2).bind fun v1 => (aI h v1 x1).bind fun v2 => if v2 ≤ x5 then ((if isZ x4 = true then some (some (.int x4), h) else none)) else (cI (oC h x0 4) (f_Mo_numberOf G x0 x1 x5 h) fun v6 h3 => if x4 = 0 then (if x3 = (1 : Int32) then ((f_Mo_stands_b45 G (f_Mo_stands_b58 G (f_Mo_stands_b63 G (f_Mo_stands_b6 G F))) (f_Mo_stands_b63 G (f_Mo_stands_b6 G F))) x0 x1 x2 x3 x5 v6 h3) else (cI true (f_Mo_subject G v6 h3) fun v10 h7 => if v10 = x2 then ((f_Mo_stands_b58 G (f_Mo_stands_b63 G (f_Mo_stands_b6 G F))) x0 x1 x2 x3 x5 h7) else ((f_Mo_stands_b45 G (f_Mo_stands_b58 G (f_Mo_stands_b63 G (f_Mo_stands_b6 G F))) (f_Mo_stands_b63 G (f_Mo_stands_b6 G F))) x0 x1 x2 x3 x5 v6 h7))) else ((f_Mo_stands_b58 G (f_Mo_stands_b63 G (f_Mo_stands_b6 G F))) x0 x1 x2 x3 x5 h3))
theorem f_Mo_stands_b6_eq (G : Nat) (F : Nat) (x0 : Nat) (x1 : Int32) (x2 : Int32) (x3 : Int32) (x4 : Int32) (x5 : Int32) (h : pH) : f_Mo_stands_b6 G (F + 1) x0 x1 x2 x3 x4 x5 h = ((gR h x0 4 2).bind fun v1 => (aI h v1 x1).bind fun v2 => if v2 ≤ x5 then ((if isZ x4 = true then some (some (.int x4), h) else none)) else (cI (oC h x0 4) (f_Mo_numberOf G x0 x1 x5 h) fun v6 h3 => if x4 = 0 then (if x3 = (1 : Int32) then ((f_Mo_stands_b45 G (f_Mo_stands_b58 G (f_Mo_stands_b63 G (f_Mo_stands_b6 G F))) (f_Mo_stands_b63 G (f_Mo_stands_b6 G F))) x0 x1 x2 x3 x5 v6 h3) else (cI true (f_Mo_subject G v6 h3) fun v10 h7 => if v10 = x2 then ((f_Mo_stands_b58 G (f_Mo_stands_b63 G (f_Mo_stands_b6 G F))) x0 x1 x2 x3 x5 h7) else ((f_Mo_stands_b45 G (f_Mo_stands_b58 G (f_Mo_stands_b63 G (f_Mo_stands_b6 G F))) (f_Mo_stands_b63 G (f_Mo_stands_b6 G F))) x0 x1 x2 x3 x5 v6 h7))) else ((f_Mo_stands_b58 G (f_Mo_stands_b63 G (f_Mo_stands_b6 G F))) x0 x1 x2 x3 x5 h3))) := rfl
def f_Mo_stands (G : Nat) (x0 : Nat) (x1 : Int32) (x2 : Int32) (x3 : Int32) (h : pH) : Option pR := (f_Mo_stands_b6 G G) x0 x1 x2 x3 (0 : Int32) (0 : Int32) h
theorem f_Mo_stands_eq (G : Nat) (x0 : Nat) (x1 : Int32) (x2 : Int32) (x3 : Int32) (h : pH) : f_Mo_stands G x0 x1 x2 x3 h = ((f_Mo_stands_b6 G G) x0 x1 x2 x3 (0 : Int32) (0 : Int32) h) := rfl
set_option maxRecDepth 100000 in
set_option maxHeartbeats 4000000 in
theorem w_Mo_stands_b62 {X : zX} {r : pR} {G : Nat} {k63 : Nat → Int32 → Int32 → Int32 → Int32 → Int32 → pH → Option pR} (hQ : zQ X r) (hk63 : ∀ (x0 : Nat) (x1 : Int32) (x2 : Int32) (x3 : Int32) (x5 : Int32) (s0 : Int32) (h : pH), k63 x0 x1 x2 x3 x5 s0 h = some r → Z X M_Mo_stands 0 0 h 63 [(0, .ref x0), (1, .int x1), (2, .int x2), (3, .int x3), (5, .int x5)] [.int s0]) : ∀ (x0 : Nat) (x1 : Int32) (x2 : Int32) (x3 : Int32) (x5 : Int32) (h : pH), f_Mo_stands_b62 G k63 x0 x1 x2 x3 x5 h = some r → Z X M_Mo_stands 0 0 h 62 [(0, .ref x0), (1, .int x1), (2, .int x2), (3, .int x3), (5, .int x5)] [] := by
  intro x0 x1 x2 x3 x5 h E
  rw [f_Mo_stands_b62_eq] at E
  refine z_iconst (v := (0 : Int32)) d_Mo_stands_62 (by decide) ?_
  exact hk63 x0 x1 x2 x3 x5 (0 : Int32) h E
set_option maxRecDepth 100000 in
set_option maxHeartbeats 4000000 in
theorem w_Mo_stands_b45 {X : zX} {r : pR} {G : Nat} {k58 : Nat → Int32 → Int32 → Int32 → Int32 → pH → Option pR} {k63 : Nat → Int32 → Int32 → Int32 → Int32 → Int32 → pH → Option pR} (hQ : zQ X r) (hk58 : ∀ (x0 : Nat) (x1 : Int32) (x2 : Int32) (x3 : Int32) (x5 : Int32) (h : pH), k58 x0 x1 x2 x3 x5 h = some r → Z X M_Mo_stands 0 0 h 58 [(0, .ref x0), (1, .int x1), (2, .int x2), (3, .int x3), (5, .int x5)] []) (hk63 : ∀ (x0 : Nat) (x1 : Int32) (x2 : Int32) (x3 : Int32) (x5 : Int32) (s0 : Int32) (h : pH), k63 x0 x1 x2 x3 x5 s0 h = some r → Z X M_Mo_stands 0 0 h 63 [(0, .ref x0), (1, .int x1), (2, .int x2), (3, .int x3), (5, .int x5)] [.int s0]) : ∀ (x0 : Nat) (x1 : Int32) (x2 : Int32) (x3 : Int32) (x5 : Int32) (x6 : Int32) (h : pH), f_Mo_stands_b45 G k58 k63 x0 x1 x2 x3 x5 x6 h = some r → Z X M_Mo_stands 0 0 h 45 [(0, .ref x0), (1, .int x1), (2, .int x2), (3, .int x3), (5, .int x5), (6, .int x6)] [] := by
  intro x0 x1 x2 x3 x5 x6 h E
  rw [f_Mo_stands_b45_eq] at E
  refine z_iload_n 3 d_Mo_stands_45 rfl rfl ?_
  refine z_if_eq (y := 0) (tgt := 62) d_Mo_stands_46 (by decide) E (fun E => ?_) (fun E => ?_)
  · refine z_lv [0, 1, 2, 3, 4] rfl ?_
    exact (w_Mo_stands_b62 hQ hk63) x0 x1 x2 x3 x5 h E
  · refine z_iload 5 d_Mo_stands_49 rfl ?_
    obtain ⟨g12, v14, h11, e13, E⟩ := cI_some E
    refine z_invS (y := y_Mo_object) (Mc := M_Mo_object) (av := [.int x6]) (rest := []) ⟨zt_795, zt_796, zt_52⟩ zk_Mo_object zy_Mo_object (by decide) (Nat.le_of_ble_eq_true rfl) z00 rfl (Nat.le_of_ble_eq_true rfl) d_Mo_stands_51 (m_Mo_object e13) ?_
    show Z X M_Mo_stands 0 0 h11 54 [(0, .ref x0), (1, .int x1), (2, .int x2), (3, .int x3), (5, .int x5), (6, .int x6)] [.int v14]
    refine z_iload_n 2 d_Mo_stands_54 rfl rfl ?_
    refine z_ic_ne (tgt := 62) d_Mo_stands_55 (by decide) E (fun E => ?_) (fun E => ?_)
    · refine z_lv [0, 1, 2, 3, 4] rfl ?_
      exact (w_Mo_stands_b62 hQ hk63) x0 x1 x2 x3 x5 h11 E
    · refine z_lv [0, 1, 2, 3, 4] rfl ?_
      exact hk58 x0 x1 x2 x3 x5 h11 E
set_option maxRecDepth 100000 in
set_option maxHeartbeats 4000000 in
theorem w_Mo_stands_b58 {X : zX} {r : pR} {G : Nat} {k63 : Nat → Int32 → Int32 → Int32 → Int32 → Int32 → pH → Option pR} (hQ : zQ X r) (hk63 : ∀ (x0 : Nat) (x1 : Int32) (x2 : Int32) (x3 : Int32) (x5 : Int32) (s0 : Int32) (h : pH), k63 x0 x1 x2 x3 x5 s0 h = some r → Z X M_Mo_stands 0 0 h 63 [(0, .ref x0), (1, .int x1), (2, .int x2), (3, .int x3), (5, .int x5)] [.int s0]) : ∀ (x0 : Nat) (x1 : Int32) (x2 : Int32) (x3 : Int32) (x5 : Int32) (h : pH), f_Mo_stands_b58 G k63 x0 x1 x2 x3 x5 h = some r → Z X M_Mo_stands 0 0 h 58 [(0, .ref x0), (1, .int x1), (2, .int x2), (3, .int x3), (5, .int x5)] [] := by
  intro x0 x1 x2 x3 x5 h E
  rw [f_Mo_stands_b58_eq] at E
  refine z_iconst (v := (1 : Int32)) d_Mo_stands_58 (by decide) ?_
  refine z_goto (tgt := 63) d_Mo_stands_59 (by decide) ?_
  exact hk63 x0 x1 x2 x3 x5 (1 : Int32) h E
set_option maxRecDepth 100000 in
set_option maxHeartbeats 4000000 in
theorem w_Mo_stands_b63 {X : zX} {r : pR} {G : Nat} {k6 : Nat → Int32 → Int32 → Int32 → Int32 → Int32 → pH → Option pR} (hQ : zQ X r) (hk6 : ∀ (x0 : Nat) (x1 : Int32) (x2 : Int32) (x3 : Int32) (x4 : Int32) (x5 : Int32) (h : pH), k6 x0 x1 x2 x3 x4 x5 h = some r → Z X M_Mo_stands 0 0 h 6 [(0, .ref x0), (1, .int x1), (2, .int x2), (3, .int x3), (4, .int x4), (5, .int x5)] []) : ∀ (x0 : Nat) (x1 : Int32) (x2 : Int32) (x3 : Int32) (x5 : Int32) (s0 : Int32) (h : pH), f_Mo_stands_b63 G k6 x0 x1 x2 x3 x5 s0 h = some r → Z X M_Mo_stands 0 0 h 63 [(0, .ref x0), (1, .int x1), (2, .int x2), (3, .int x3), (5, .int x5)] [.int s0] := by
  intro x0 x1 x2 x3 x5 s0 h E
  rw [f_Mo_stands_b63_eq] at E
  refine z_istore (lv2 := [(4, .int s0), (0, .ref x0), (1, .int x1), (2, .int x2), (3, .int x3), (5, .int x5)]) d_Mo_stands_63 (Nat.le_of_ble_eq_true rfl) rfl ?_
  refine z_iinc (v := (x5 + 1)) (lv2 := [(5, .int (x5 + 1)), (4, .int s0), (0, .ref x0), (1, .int x1), (2, .int x2), (3, .int x3)]) 5 d_Mo_stands_65 rfl rfl (Nat.le_of_ble_eq_true rfl) rfl ?_
  refine z_goto (tgt := 6) d_Mo_stands_68 (by decide) ?_
  refine z_lv [2, 3, 4, 5, 1, 0] rfl ?_
  exact hk6 x0 x1 x2 x3 s0 (x5 + 1) h E
set_option maxRecDepth 100000 in
set_option maxHeartbeats 4000000 in
theorem w_Mo_stands_b6 {X : zX} {r : pR} {G : Nat} (hQ : zQ X r) : ∀ (F : Nat) (x0 : Nat) (x1 : Int32) (x2 : Int32) (x3 : Int32) (x4 : Int32) (x5 : Int32) (h : pH), f_Mo_stands_b6 G F x0 x1 x2 x3 x4 x5 h = some r → Z X M_Mo_stands 0 0 h 6 [(0, .ref x0), (1, .int x1), (2, .int x2), (3, .int x3), (4, .int x4), (5, .int x5)] [] := by
  intro F
  induction F with
  | zero => intro x0 x1 x2 x3 x4 x5 h E; exact nomatch (show (none : Option pR) = some _ from E)
  | succ F ih =>
    intro x0 x1 x2 x3 x4 x5 h E
    rw [f_Mo_stands_b6_eq] at E
    refine z_iload 5 d_Mo_stands_6 rfl ?_
    refine z_aload_n 0 d_Mo_stands_8 rfl rfl ?_
    refine z_getR (ci := 4) (j := 2) rfl (by decide) zf_Mo_13 d_Mo_stands_9 E (fun v1 _ E => ?_)
    refine z_iload_n 1 d_Mo_stands_12 rfl rfl ?_
    refine z_iaload d_Mo_stands_13 E (fun v2 _ E => ?_)
    refine z_ic_ge (tgt := 71) d_Mo_stands_14 (by decide) E (fun E => ?_) (fun E => ?_)
    · refine z_iload 4 d_Mo_stands_71 rfl ?_
      exact z_zreturn hQ rfl z00 d_Mo_stands_73 E
    · refine z_aload_n 0 d_Mo_stands_17 rfl rfl ?_
      refine z_iload_n 1 d_Mo_stands_18 rfl rfl ?_
      refine z_iload 5 d_Mo_stands_19 rfl ?_
      obtain ⟨g4, v6, h3, e5, E⟩ := cI_some E
      refine z_invV (ci := 4) (y := y_Mo_numberOf) (Mc := M_Mo_numberOf) (av := [.int x1, .int x5]) (rest := []) rfl rfl ⟨zt_760, zt_762, zt_27, zt_52⟩ zk_Mo_numberOf zy_Mo_numberOf (by decide) (Nat.le_of_ble_eq_true rfl) z00 rfl (Nat.le_of_ble_eq_true rfl) d_Mo_stands_21 g4 (m_Mo_numberOf e5) ?_
      show Z X M_Mo_stands 0 0 h3 24 [(0, .ref x0), (1, .int x1), (2, .int x2), (3, .int x3), (4, .int x4), (5, .int x5)] [.int v6]
      refine z_istore (lv2 := [(6, .int v6), (0, .ref x0), (1, .int x1), (2, .int x2), (3, .int x3), (4, .int x4), (5, .int x5)]) d_Mo_stands_24 (Nat.le_of_ble_eq_true rfl) rfl ?_
      refine z_iload 5 d_Mo_stands_26 rfl ?_
      refine z_if_ne (y := 0) (tgt := 58) d_Mo_stands_28 (by decide) E (fun E => ?_) (fun E => ?_)
      · refine z_lv [1, 2, 3, 4, 6] rfl ?_
        exact (w_Mo_stands_b58 hQ (w_Mo_stands_b63 hQ ih)) x0 x1 x2 x3 x5 h3 E
      · refine z_iload_n 4 d_Mo_stands_31 rfl rfl ?_
        refine z_iconst (v := (1 : Int32)) d_Mo_stands_32 (by decide) ?_
        refine z_ic_eq (tgt := 45) d_Mo_stands_33 (by decide) E (fun E => ?_) (fun E => ?_)
        · refine z_lv [1, 2, 3, 4, 6, 0] rfl ?_
          exact (w_Mo_stands_b45 hQ (w_Mo_stands_b58 hQ (w_Mo_stands_b63 hQ ih)) (w_Mo_stands_b63 hQ ih)) x0 x1 x2 x3 x5 v6 h3 E
        · refine z_iload 0 d_Mo_stands_36 rfl ?_
          obtain ⟨g8, v10, h7, e9, E⟩ := cI_some E
          refine z_invS (y := y_Mo_subject) (Mc := M_Mo_subject) (av := [.int v6]) (rest := []) ⟨zt_792, zt_793, zt_52⟩ zk_Mo_subject zy_Mo_subject (by decide) (Nat.le_of_ble_eq_true rfl) z00 rfl (Nat.le_of_ble_eq_true rfl) d_Mo_stands_38 (m_Mo_subject e9) ?_
          show Z X M_Mo_stands 0 0 h7 41 [(6, .int v6), (0, .ref x0), (1, .int x1), (2, .int x2), (3, .int x3), (4, .int x4), (5, .int x5)] [.int v10]
          refine z_iload_n 3 d_Mo_stands_41 rfl rfl ?_
          refine z_ic_eq (tgt := 58) d_Mo_stands_42 (by decide) E (fun E => ?_) (fun E => ?_)
          · refine z_lv [1, 2, 3, 4, 6] rfl ?_
            exact (w_Mo_stands_b58 hQ (w_Mo_stands_b63 hQ ih)) x0 x1 x2 x3 x5 h7 E
          · refine z_lv [1, 2, 3, 4, 6, 0] rfl ?_
            exact (w_Mo_stands_b45 hQ (w_Mo_stands_b58 hQ (w_Mo_stands_b63 hQ ih)) (w_Mo_stands_b63 hQ ih)) x0 x1 x2 x3 x5 v6 h7 E
set_option maxRecDepth 100000 in
set_option maxHeartbeats 4000000 in
theorem w_Mo_stands_b0 {X : zX} {r : pR} {G : Nat} (hQ : zQ X r) : ∀ (x0 : Nat) (x1 : Int32) (x2 : Int32) (x3 : Int32) (h : pH), f_Mo_stands G x0 x1 x2 x3 h = some r → Z X M_Mo_stands 0 0 h 0 [(0, .ref x0), (1, .int x1), (2, .int x2), (3, .int x3)] [] := by
  intro x0 x1 x2 x3 h E
  rw [f_Mo_stands_eq] at E
  refine z_iconst (v := (0 : Int32)) d_Mo_stands_0 (by decide) ?_
  refine z_istore (lv2 := [(4, .int (0 : Int32)), (0, .ref x0), (1, .int x1), (2, .int x2), (3, .int x3)]) d_Mo_stands_1 (Nat.le_of_ble_eq_true rfl) rfl ?_
  refine z_iconst (v := (0 : Int32)) d_Mo_stands_3 (by decide) ?_
  refine z_istore (lv2 := [(5, .int (0 : Int32)), (4, .int (0 : Int32)), (0, .ref x0), (1, .int x1), (2, .int x2), (3, .int x3)]) d_Mo_stands_4 (Nat.le_of_ble_eq_true rfl) rfl ?_
  refine z_lv [2, 3, 4, 5, 1, 0] rfl ?_
  exact (w_Mo_stands_b6 hQ G) x0 x1 x2 x3 (0 : Int32) (0 : Int32) h E
theorem m_Mo_stands {l : Launch} {G : Nat} {x0 : Nat} {x1 : Int32} {x2 : Int32} {x3 : Int32} {h : pH} {r : pR} (E : f_Mo_stands G x0 x1 x2 x3 h = some r) : zMet l y_Mo_stands M_Mo_stands 0 0 [.ref x0, .int x1, .int x2, .int x3] h r :=
  zMet_of (by decide) rfl (Nat.le_of_ble_eq_true rfl) (fun p e s m args below meth c D0 cT => w_Mo_stands_b0 (X := (p, l, e, s, m, args, below, meth, c, D0, cT, h, _, 0, 0)) rfl x0 x1 x2 x3 h E)
def f_Mo_nodesOf_b27 (G : Nat) (k5 : Nat → Int32 → Int32 → Int32 → pH → Option pR) (x0 : Nat) (x1 : Int32) (x3 : Int32) (s0 : Int32) (s1 : Int32) (h : pH) : Option pR := k5 x0 x1 (s0 + s1) (x3 + 1) h
theorem f_Mo_nodesOf_b27_eq (G : Nat) (k5 : Nat → Int32 → Int32 → Int32 → pH → Option pR) (x0 : Nat) (x1 : Int32) (x3 : Int32) (s0 : Int32) (s1 : Int32) (h : pH) : f_Mo_nodesOf_b27 G k5 x0 x1 x3 s0 s1 h = (k5 x0 x1 (s0 + s1) (x3 + 1) h) := rfl
def f_Mo_nodesOf_b5 (G : Nat) : Nat → Nat → Int32 → Int32 → Int32 → pH → Option pR
  | 0 => fun _ _ _ _ _ => none
  | F + 1 => fun x0 x1 x2 x3 h => if (46 : Int32) ≤ x3 then (some (some (.int x2), h)) else (cI (oC h x0 4) (f_Mo_stands G x0 x1 x3 (2 : Int32) h) fun v4 h1 => if v4 = 0 then ((f_Mo_nodesOf_b27 G (f_Mo_nodesOf_b5 G F)) x0 x1 x3 x2 (0 : Int32) h1) else ((f_Mo_nodesOf_b27 G (f_Mo_nodesOf_b5 G F)) x0 x1 x3 x2 (1 : Int32) h1))
theorem f_Mo_nodesOf_b5_eq (G : Nat) (F : Nat) (x0 : Nat) (x1 : Int32) (x2 : Int32) (x3 : Int32) (h : pH) : f_Mo_nodesOf_b5 G (F + 1) x0 x1 x2 x3 h = (if (46 : Int32) ≤ x3 then (some (some (.int x2), h)) else (cI (oC h x0 4) (f_Mo_stands G x0 x1 x3 (2 : Int32) h) fun v4 h1 => if v4 = 0 then ((f_Mo_nodesOf_b27 G (f_Mo_nodesOf_b5 G F)) x0 x1 x3 x2 (0 : Int32) h1) else ((f_Mo_nodesOf_b27 G (f_Mo_nodesOf_b5 G F)) x0 x1 x3 x2 (1 : Int32) h1))) := rfl
def f_Mo_nodesOf (G : Nat) (x0 : Nat) (x1 : Int32) (h : pH) : Option pR := (f_Mo_nodesOf_b5 G G) x0 x1 (0 : Int32) (40 : Int32) h
theorem f_Mo_nodesOf_eq (G : Nat) (x0 : Nat) (x1 : Int32) (h : pH) : f_Mo_nodesOf G x0 x1 h = ((f_Mo_nodesOf_b5 G G) x0 x1 (0 : Int32) (40 : Int32) h) := rfl
set_option maxRecDepth 100000 in
set_option maxHeartbeats 4000000 in
theorem w_Mo_nodesOf_b27 {X : zX} {r : pR} {G : Nat} {k5 : Nat → Int32 → Int32 → Int32 → pH → Option pR} (hQ : zQ X r) (hk5 : ∀ (x0 : Nat) (x1 : Int32) (x2 : Int32) (x3 : Int32) (h : pH), k5 x0 x1 x2 x3 h = some r → Z X M_Mo_nodesOf 0 0 h 5 [(0, .ref x0), (1, .int x1), (2, .int x2), (3, .int x3)] []) : ∀ (x0 : Nat) (x1 : Int32) (x3 : Int32) (s0 : Int32) (s1 : Int32) (h : pH), f_Mo_nodesOf_b27 G k5 x0 x1 x3 s0 s1 h = some r → Z X M_Mo_nodesOf 0 0 h 27 [(0, .ref x0), (1, .int x1), (3, .int x3)] [.int s1, .int s0] := by
  intro x0 x1 x3 s0 s1 h E
  rw [f_Mo_nodesOf_b27_eq] at E
  refine z_iadd d_Mo_nodesOf_27 ?_
  refine z_istore_n (lv2 := [(2, .int (s0 + s1)), (0, .ref x0), (1, .int x1), (3, .int x3)]) d_Mo_nodesOf_28 rfl (Nat.le_of_ble_eq_true rfl) rfl ?_
  refine z_iinc (v := (x3 + 1)) (lv2 := [(3, .int (x3 + 1)), (2, .int (s0 + s1)), (0, .ref x0), (1, .int x1)]) 3 d_Mo_nodesOf_29 rfl rfl (Nat.le_of_ble_eq_true rfl) rfl ?_
  refine z_goto (tgt := 5) d_Mo_nodesOf_32 (by decide) ?_
  refine z_lv [2, 3, 1, 0] rfl ?_
  exact hk5 x0 x1 (s0 + s1) (x3 + 1) h E
set_option maxRecDepth 100000 in
set_option maxHeartbeats 4000000 in
theorem w_Mo_nodesOf_b5 {X : zX} {r : pR} {G : Nat} (hQ : zQ X r) : ∀ (F : Nat) (x0 : Nat) (x1 : Int32) (x2 : Int32) (x3 : Int32) (h : pH), f_Mo_nodesOf_b5 G F x0 x1 x2 x3 h = some r → Z X M_Mo_nodesOf 0 0 h 5 [(0, .ref x0), (1, .int x1), (2, .int x2), (3, .int x3)] [] := by
  intro F
  induction F with
  | zero => intro x0 x1 x2 x3 h E; exact nomatch (show (none : Option pR) = some _ from E)
  | succ F ih =>
    intro x0 x1 x2 x3 h E
    rw [f_Mo_nodesOf_b5_eq] at E
    refine z_iload_n 3 d_Mo_nodesOf_5 rfl rfl ?_
    refine z_bipush (v := (46 : Int32)) d_Mo_nodesOf_6 (by decide) ?_
    refine z_ic_ge (tgt := 35) d_Mo_nodesOf_8 (by decide) E (fun E => ?_) (fun E => ?_)
    · refine z_iload_n 2 d_Mo_nodesOf_35 rfl rfl ?_
      exact z_ireturn hQ rfl z00 d_Mo_nodesOf_36 E
    · refine z_iload_n 2 d_Mo_nodesOf_11 rfl rfl ?_
      refine z_aload_n 0 d_Mo_nodesOf_12 rfl rfl ?_
      refine z_iload_n 1 d_Mo_nodesOf_13 rfl rfl ?_
      refine z_iload_n 3 d_Mo_nodesOf_14 rfl rfl ?_
      refine z_iconst (v := (2 : Int32)) d_Mo_nodesOf_15 (by decide) ?_
      obtain ⟨g2, v4, h1, e3, E⟩ := cI_some E
      refine z_invV (ci := 4) (y := y_Mo_stands) (Mc := M_Mo_stands) (av := [.int x1, .int x3, .int (2 : Int32)]) (rest := [.int x2]) rfl rfl ⟨zt_788, zt_790, zt_31, zt_52⟩ zk_Mo_stands zy_Mo_stands (by decide) (Nat.le_of_ble_eq_true rfl) z00 rfl (Nat.le_of_ble_eq_true rfl) d_Mo_nodesOf_16 g2 (m_Mo_stands e3) ?_
      show Z X M_Mo_nodesOf 0 0 h1 19 [(0, .ref x0), (1, .int x1), (2, .int x2), (3, .int x3)] [.int v4, .int x2]
      refine z_if_eq (y := 0) (tgt := 26) d_Mo_nodesOf_19 (by decide) E (fun E => ?_) (fun E => ?_)
      · refine z_iconst (v := (0 : Int32)) d_Mo_nodesOf_26 (by decide) ?_
        refine z_lv [0, 1, 3] rfl ?_
        exact (w_Mo_nodesOf_b27 hQ ih) x0 x1 x3 x2 (0 : Int32) h1 E
      · refine z_iconst (v := (1 : Int32)) d_Mo_nodesOf_22 (by decide) ?_
        refine z_goto (tgt := 27) d_Mo_nodesOf_23 (by decide) ?_
        refine z_lv [0, 1, 3] rfl ?_
        exact (w_Mo_nodesOf_b27 hQ ih) x0 x1 x3 x2 (1 : Int32) h1 E
set_option maxRecDepth 100000 in
set_option maxHeartbeats 4000000 in
theorem w_Mo_nodesOf_b0 {X : zX} {r : pR} {G : Nat} (hQ : zQ X r) : ∀ (x0 : Nat) (x1 : Int32) (h : pH), f_Mo_nodesOf G x0 x1 h = some r → Z X M_Mo_nodesOf 0 0 h 0 [(0, .ref x0), (1, .int x1)] [] := by
  intro x0 x1 h E
  rw [f_Mo_nodesOf_eq] at E
  refine z_iconst (v := (0 : Int32)) d_Mo_nodesOf_0 (by decide) ?_
  refine z_istore_n (lv2 := [(2, .int (0 : Int32)), (0, .ref x0), (1, .int x1)]) d_Mo_nodesOf_1 rfl (Nat.le_of_ble_eq_true rfl) rfl ?_
  refine z_bipush (v := (40 : Int32)) d_Mo_nodesOf_2 (by decide) ?_
  refine z_istore_n (lv2 := [(3, .int (40 : Int32)), (2, .int (0 : Int32)), (0, .ref x0), (1, .int x1)]) d_Mo_nodesOf_4 rfl (Nat.le_of_ble_eq_true rfl) rfl ?_
  refine z_lv [2, 3, 1, 0] rfl ?_
  exact (w_Mo_nodesOf_b5 hQ G) x0 x1 (0 : Int32) (40 : Int32) h E
theorem m_Mo_nodesOf {l : Launch} {G : Nat} {x0 : Nat} {x1 : Int32} {h : pH} {r : pR} (E : f_Mo_nodesOf G x0 x1 h = some r) : zMet l y_Mo_nodesOf M_Mo_nodesOf 0 0 [.ref x0, .int x1] h r :=
  zMet_of (by decide) rfl (Nat.le_of_ble_eq_true rfl) (fun p e s m args below meth c D0 cT => w_Mo_nodesOf_b0 (X := (p, l, e, s, m, args, below, meth, c, D0, cT, h, _, 0, 0)) rfl x0 x1 h E)
def f_Mo_wrong_b60 (G : Nat) (s0 : Int32) (h : pH) : Option pR := some (some (.int s0), h)
theorem f_Mo_wrong_b60_eq (G : Nat) (s0 : Int32) (h : pH) : f_Mo_wrong_b60 G s0 h = (some (some (.int s0), h)) := rfl
def f_Mo_wrong_b36 (G : Nat) (k37 : Int32 → Int32 → pH → Option pR) (x1 : Int32) (h : pH) : Option pR := k37 x1 (0 : Int32) h
theorem f_Mo_wrong_b36_eq (G : Nat) (k37 : Int32 → Int32 → pH → Option pR) (x1 : Int32) (h : pH) : f_Mo_wrong_b36 G k37 x1 h = (k37 x1 (0 : Int32) h) := rfl
def f_Mo_wrong_b37 (G : Nat) (x1 : Int32) (s0 : Int32) (h : pH) : Option pR := cI true (f_Mo_isGraph G x1 h) fun v4 h1 => if v4 = 0 then ((f_Mo_wrong_b60 G) (1 : Int32) h1) else (if s0 = 0 then ((f_Mo_wrong_b60 G) (2 : Int32) h1) else ((f_Mo_wrong_b60 G) (0 : Int32) h1))
theorem f_Mo_wrong_b37_eq (G : Nat) (x1 : Int32) (s0 : Int32) (h : pH) : f_Mo_wrong_b37 G x1 s0 h = (cI true (f_Mo_isGraph G x1 h) fun v4 h1 => if v4 = 0 then ((f_Mo_wrong_b60 G) (1 : Int32) h1) else (if s0 = 0 then ((f_Mo_wrong_b60 G) (2 : Int32) h1) else ((f_Mo_wrong_b60 G) (0 : Int32) h1))) := rfl
def f_Mo_wrong (G : Nat) (x0 : Nat) (x1 : Int32) (x2 : Int32) (x3 : Int32) (x4 : Int32) (h : pH) : Option pR := if x2 < 0 then ((f_Mo_wrong_b36 G (f_Mo_wrong_b37 G)) x1 h) else (if (46 : Int32) ≤ x2 then ((f_Mo_wrong_b36 G (f_Mo_wrong_b37 G)) x1 h) else (if x3 < 0 then ((f_Mo_wrong_b36 G (f_Mo_wrong_b37 G)) x1 h) else (if (40 : Int32) ≤ x3 then ((f_Mo_wrong_b36 G (f_Mo_wrong_b37 G)) x1 h) else (if x4 < 0 then ((f_Mo_wrong_b36 G (f_Mo_wrong_b37 G)) x1 h) else (if (46 : Int32) ≤ x4 then ((f_Mo_wrong_b36 G (f_Mo_wrong_b37 G)) x1 h) else ((f_Mo_wrong_b37 G) x1 (1 : Int32) h))))))
theorem f_Mo_wrong_eq (G : Nat) (x0 : Nat) (x1 : Int32) (x2 : Int32) (x3 : Int32) (x4 : Int32) (h : pH) : f_Mo_wrong G x0 x1 x2 x3 x4 h = (if x2 < 0 then ((f_Mo_wrong_b36 G (f_Mo_wrong_b37 G)) x1 h) else (if (46 : Int32) ≤ x2 then ((f_Mo_wrong_b36 G (f_Mo_wrong_b37 G)) x1 h) else (if x3 < 0 then ((f_Mo_wrong_b36 G (f_Mo_wrong_b37 G)) x1 h) else (if (40 : Int32) ≤ x3 then ((f_Mo_wrong_b36 G (f_Mo_wrong_b37 G)) x1 h) else (if x4 < 0 then ((f_Mo_wrong_b36 G (f_Mo_wrong_b37 G)) x1 h) else (if (46 : Int32) ≤ x4 then ((f_Mo_wrong_b36 G (f_Mo_wrong_b37 G)) x1 h) else ((f_Mo_wrong_b37 G) x1 (1 : Int32) h))))))) := rfl
set_option maxRecDepth 100000 in
set_option maxHeartbeats 4000000 in
theorem w_Mo_wrong_b60 {X : zX} {r : pR} {G : Nat} (hQ : zQ X r) : ∀ (s0 : Int32) (h : pH), f_Mo_wrong_b60 G s0 h = some r → Z X M_Mo_wrong 0 0 h 60 [] [.int s0] := by
  intro s0 h E
  rw [f_Mo_wrong_b60_eq] at E
  exact z_ireturn hQ rfl z00 d_Mo_wrong_60 E
set_option maxRecDepth 100000 in
set_option maxHeartbeats 4000000 in
theorem w_Mo_wrong_b36 {X : zX} {r : pR} {G : Nat} {k37 : Int32 → Int32 → pH → Option pR} (hQ : zQ X r) (hk37 : ∀ (x1 : Int32) (s0 : Int32) (h : pH), k37 x1 s0 h = some r → Z X M_Mo_wrong 0 0 h 37 [(1, .int x1)] [.int s0]) : ∀ (x1 : Int32) (h : pH), f_Mo_wrong_b36 G k37 x1 h = some r → Z X M_Mo_wrong 0 0 h 36 [(1, .int x1)] [] := by
  intro x1 h E
  rw [f_Mo_wrong_b36_eq] at E
  refine z_iconst (v := (0 : Int32)) d_Mo_wrong_36 (by decide) ?_
  exact hk37 x1 (0 : Int32) h E
set_option maxRecDepth 100000 in
set_option maxHeartbeats 4000000 in
theorem w_Mo_wrong_b37 {X : zX} {r : pR} {G : Nat} (hQ : zQ X r) : ∀ (x1 : Int32) (s0 : Int32) (h : pH), f_Mo_wrong_b37 G x1 s0 h = some r → Z X M_Mo_wrong 0 0 h 37 [(1, .int x1)] [.int s0] := by
  intro x1 s0 h E
  rw [f_Mo_wrong_b37_eq] at E
  refine z_istore (lv2 := [(5, .int s0), (1, .int x1)]) d_Mo_wrong_37 (Nat.le_of_ble_eq_true rfl) rfl ?_
  refine z_iload_n 1 d_Mo_wrong_39 rfl rfl ?_
  obtain ⟨g2, v4, h1, e3, E⟩ := cI_some E
  refine z_invS (y := y_Mo_isGraph) (Mc := M_Mo_isGraph) (av := [.int x1]) (rest := []) ⟨zt_750, zt_751, zt_52⟩ zk_Mo_isGraph zy_Mo_isGraph (by decide) (Nat.le_of_ble_eq_true rfl) z00 rfl (Nat.le_of_ble_eq_true rfl) d_Mo_wrong_40 (m_Mo_isGraph e3) ?_
  show Z X M_Mo_wrong 0 0 h1 43 [(5, .int s0), (1, .int x1)] [.int v4]
  refine z_if_ne (y := 0) (tgt := 50) d_Mo_wrong_43 (by decide) E (fun E => ?_) (fun E => ?_)
  · refine z_iload 0 d_Mo_wrong_50 rfl ?_
    refine z_if_eq (y := 0) (tgt := 59) d_Mo_wrong_52 (by decide) E (fun E => ?_) (fun E => ?_)
    · refine z_iconst (v := (2 : Int32)) d_Mo_wrong_59 (by decide) ?_
      refine z_lv [] rfl ?_
      exact (w_Mo_wrong_b60 hQ) (2 : Int32) h1 E
    · refine z_iconst (v := (0 : Int32)) d_Mo_wrong_55 (by decide) ?_
      refine z_goto (tgt := 60) d_Mo_wrong_56 (by decide) ?_
      refine z_lv [] rfl ?_
      exact (w_Mo_wrong_b60 hQ) (0 : Int32) h1 E
  · refine z_iconst (v := (1 : Int32)) d_Mo_wrong_46 (by decide) ?_
    refine z_goto (tgt := 60) d_Mo_wrong_47 (by decide) ?_
    refine z_lv [] rfl ?_
    exact (w_Mo_wrong_b60 hQ) (1 : Int32) h1 E
set_option maxRecDepth 100000 in
set_option maxHeartbeats 4000000 in
theorem w_Mo_wrong_b0 {X : zX} {r : pR} {G : Nat} (hQ : zQ X r) : ∀ (x0 : Nat) (x1 : Int32) (x2 : Int32) (x3 : Int32) (x4 : Int32) (h : pH), f_Mo_wrong G x0 x1 x2 x3 x4 h = some r → Z X M_Mo_wrong 0 0 h 0 [(0, .ref x0), (1, .int x1), (2, .int x2), (3, .int x3), (4, .int x4)] [] := by
  intro x0 x1 x2 x3 x4 h E
  rw [f_Mo_wrong_eq] at E
  refine z_iload_n 2 d_Mo_wrong_0 rfl rfl ?_
  refine z_if_lt (y := 0) (tgt := 36) d_Mo_wrong_1 (by decide) E (fun E => ?_) (fun E => ?_)
  · refine z_lv [1] rfl ?_
    exact (w_Mo_wrong_b36 hQ (w_Mo_wrong_b37 hQ)) x1 h E
  · refine z_iload_n 2 d_Mo_wrong_4 rfl rfl ?_
    refine z_bipush (v := (46 : Int32)) d_Mo_wrong_5 (by decide) ?_
    refine z_ic_ge (tgt := 36) d_Mo_wrong_7 (by decide) E (fun E => ?_) (fun E => ?_)
    · refine z_lv [1] rfl ?_
      exact (w_Mo_wrong_b36 hQ (w_Mo_wrong_b37 hQ)) x1 h E
    · refine z_iload_n 3 d_Mo_wrong_10 rfl rfl ?_
      refine z_if_lt (y := 0) (tgt := 36) d_Mo_wrong_11 (by decide) E (fun E => ?_) (fun E => ?_)
      · refine z_lv [1] rfl ?_
        exact (w_Mo_wrong_b36 hQ (w_Mo_wrong_b37 hQ)) x1 h E
      · refine z_iload_n 3 d_Mo_wrong_14 rfl rfl ?_
        refine z_bipush (v := (40 : Int32)) d_Mo_wrong_15 (by decide) ?_
        refine z_ic_ge (tgt := 36) d_Mo_wrong_17 (by decide) E (fun E => ?_) (fun E => ?_)
        · refine z_lv [1] rfl ?_
          exact (w_Mo_wrong_b36 hQ (w_Mo_wrong_b37 hQ)) x1 h E
        · refine z_iload 4 d_Mo_wrong_20 rfl ?_
          refine z_if_lt (y := 0) (tgt := 36) d_Mo_wrong_22 (by decide) E (fun E => ?_) (fun E => ?_)
          · refine z_lv [1] rfl ?_
            exact (w_Mo_wrong_b36 hQ (w_Mo_wrong_b37 hQ)) x1 h E
          · refine z_iload 4 d_Mo_wrong_25 rfl ?_
            refine z_bipush (v := (46 : Int32)) d_Mo_wrong_27 (by decide) ?_
            refine z_ic_ge (tgt := 36) d_Mo_wrong_29 (by decide) E (fun E => ?_) (fun E => ?_)
            · refine z_lv [1] rfl ?_
              exact (w_Mo_wrong_b36 hQ (w_Mo_wrong_b37 hQ)) x1 h E
            · refine z_iconst (v := (1 : Int32)) d_Mo_wrong_32 (by decide) ?_
              refine z_goto (tgt := 37) d_Mo_wrong_33 (by decide) ?_
              refine z_lv [1] rfl ?_
              exact (w_Mo_wrong_b37 hQ) x1 (1 : Int32) h E
theorem m_Mo_wrong {l : Launch} {G : Nat} {x0 : Nat} {x1 : Int32} {x2 : Int32} {x3 : Int32} {x4 : Int32} {h : pH} {r : pR} (E : f_Mo_wrong G x0 x1 x2 x3 x4 h = some r) : zMet l y_Mo_wrong M_Mo_wrong 0 0 [.ref x0, .int x1, .int x2, .int x3, .int x4] h r :=
  zMet_of (by decide) rfl (Nat.le_of_ble_eq_true rfl) (fun p e s m args below meth c D0 cT => w_Mo_wrong_b0 (X := (p, l, e, s, m, args, below, meth, c, D0, cT, h, _, 0, 0)) rfl x0 x1 x2 x3 x4 h E)
def f_Mo_put_b35 (G : Nat) (h : pH) : Option pR := some (some (.int (0 : Int32)), h)
theorem f_Mo_put_b35_eq (G : Nat) (h : pH) : f_Mo_put_b35 G h = (some (some (.int (0 : Int32)), h)) := rfl
def f_Mo_put_b58 (G : Nat) : Nat → Nat → Int32 → Int32 → Int32 → Int32 → Int32 → pH → Option pR
  | 0 => fun _ _ _ _ _ _ _ => none
  | F + 1 => fun x0 x1 x2 x3 x4 x5 h => (gR h x0 4 2).bind fun v18 => (aI h v18 x1).bind fun v19 => if v19 ≤ x5 then (cI true (f_Mo_numbered G x2 x3 x4 h) fun v23 h20 => cV (oC h20 x0 4) (f_Mo_add G x0 v23 h20) fun h24 => cV (oC h24 x0 4) (f_Mo_keep G x0 x1 h24) fun h27 => some (some (.int (1 : Int32)), h27)) else (cI (oC h x0 4) (f_Mo_numberOf G x0 x1 x5 h) fun v33 h30 => cV (oC h30 x0 4) (f_Mo_add G x0 v33 h30) fun h34 => (f_Mo_put_b58 G F) x0 x1 x2 x3 x4 (x5 + 1) h34)
theorem f_Mo_put_b58_eq (G : Nat) (F : Nat) (x0 : Nat) (x1 : Int32) (x2 : Int32) (x3 : Int32) (x4 : Int32) (x5 : Int32) (h : pH) : f_Mo_put_b58 G (F + 1) x0 x1 x2 x3 x4 x5 h = ((gR h x0 4 2).bind fun v18 => (aI h v18 x1).bind fun v19 => if v19 ≤ x5 then (cI true (f_Mo_numbered G x2 x3 x4 h) fun v23 h20 => cV (oC h20 x0 4) (f_Mo_add G x0 v23 h20) fun h24 => cV (oC h24 x0 4) (f_Mo_keep G x0 x1 h24) fun h27 => some (some (.int (1 : Int32)), h27)) else (cI (oC h x0 4) (f_Mo_numberOf G x0 x1 x5 h) fun v33 h30 => cV (oC h30 x0 4) (f_Mo_add G x0 v33 h30) fun h34 => (f_Mo_put_b58 G F) x0 x1 x2 x3 x4 (x5 + 1) h34)) := rfl
def f_Mo_put (G : Nat) (x0 : Nat) (x1 : Int32) (x2 : Int32) (x3 : Int32) (x4 : Int32) (h : pH) : Option pR := cI (oC h x0 4) (f_Mo_wrong G x0 x1 x2 x3 x4 h) fun v4 h1 => (oP h1 x0 4 0 (.int v4)).bind fun h5 => (gI h5 x0 4 0).bind fun v6 => if 0 < v6 then ((f_Mo_put_b35 G) h5) else (cI true (f_Mo_numbered G x2 x3 x4 h5) fun v10 h7 => cI (oC h7 x0 4) (f_Mo_has G x0 x1 v10 h7) fun v14 h11 => if v14 = 0 then ((gR h11 x0 4 2).bind fun v15 => (aI h11 v15 x1).bind fun v16 => if v16 = (30 : Int32) then (some (some (.int (-1 : Int32)), h11)) else ((oP h11 x0 4 4 (.int (0 : Int32))).bind fun h17 => (f_Mo_put_b58 G G) x0 x1 x2 x3 x4 (0 : Int32) h17)) else ((f_Mo_put_b35 G) h11))
theorem f_Mo_put_eq (G : Nat) (x0 : Nat) (x1 : Int32) (x2 : Int32) (x3 : Int32) (x4 : Int32) (h : pH) : f_Mo_put G x0 x1 x2 x3 x4 h = (cI (oC h x0 4) (f_Mo_wrong G x0 x1 x2 x3 x4 h) fun v4 h1 => (oP h1 x0 4 0 (.int v4)).bind fun h5 => (gI h5 x0 4 0).bind fun v6 => if 0 < v6 then ((f_Mo_put_b35 G) h5) else (cI true (f_Mo_numbered G x2 x3 x4 h5) fun v10 h7 => cI (oC h7 x0 4) (f_Mo_has G x0 x1 v10 h7) fun v14 h11 => if v14 = 0 then ((gR h11 x0 4 2).bind fun v15 => (aI h11 v15 x1).bind fun v16 => if v16 = (30 : Int32) then (some (some (.int (-1 : Int32)), h11)) else ((oP h11 x0 4 4 (.int (0 : Int32))).bind fun h17 => (f_Mo_put_b58 G G) x0 x1 x2 x3 x4 (0 : Int32) h17)) else ((f_Mo_put_b35 G) h11))) := rfl
set_option maxRecDepth 100000 in
set_option maxHeartbeats 4000000 in
theorem w_Mo_put_b35 {X : zX} {r : pR} {G : Nat} (hQ : zQ X r) : ∀ (h : pH), f_Mo_put_b35 G h = some r → Z X M_Mo_put 0 0 h 35 [] [] := by
  intro h E
  rw [f_Mo_put_b35_eq] at E
  refine z_iconst (v := (0 : Int32)) d_Mo_put_35 (by decide) ?_
  exact z_ireturn hQ rfl z00 d_Mo_put_36 E
set_option maxRecDepth 100000 in
set_option maxHeartbeats 4000000 in
theorem w_Mo_put_b58 {X : zX} {r : pR} {G : Nat} (hQ : zQ X r) : ∀ (F : Nat) (x0 : Nat) (x1 : Int32) (x2 : Int32) (x3 : Int32) (x4 : Int32) (x5 : Int32) (h : pH), f_Mo_put_b58 G F x0 x1 x2 x3 x4 x5 h = some r → Z X M_Mo_put 0 0 h 58 [(0, .ref x0), (1, .int x1), (2, .int x2), (3, .int x3), (4, .int x4), (5, .int x5)] [] := by
  intro F
  induction F with
  | zero => intro x0 x1 x2 x3 x4 x5 h E; exact nomatch (show (none : Option pR) = some _ from E)
  | succ F ih =>
    intro x0 x1 x2 x3 x4 x5 h E
    rw [f_Mo_put_b58_eq] at E
    refine z_iload 5 d_Mo_put_58 rfl ?_
    refine z_aload_n 0 d_Mo_put_60 rfl rfl ?_
    refine z_getR (ci := 4) (j := 2) rfl (by decide) zf_Mo_13 d_Mo_put_61 E (fun v18 _ E => ?_)
    refine z_iload_n 1 d_Mo_put_64 rfl rfl ?_
    refine z_iaload d_Mo_put_65 E (fun v19 _ E => ?_)
    refine z_ic_ge (tgt := 86) d_Mo_put_66 (by decide) E (fun E => ?_) (fun E => ?_)
    · refine z_aload_n 0 d_Mo_put_86 rfl rfl ?_
      refine z_iload_n 2 d_Mo_put_87 rfl rfl ?_
      refine z_iload_n 3 d_Mo_put_88 rfl rfl ?_
      refine z_iload 4 d_Mo_put_89 rfl ?_
      obtain ⟨g21, v23, h20, e22, E⟩ := cI_some E
      refine z_invS (y := y_Mo_numbered) (Mc := M_Mo_numbered) (av := [.int x2, .int x3, .int x4]) (rest := [.ref x0]) ⟨zt_753, zt_754, zt_52⟩ zk_Mo_numbered zy_Mo_numbered (by decide) (Nat.le_of_ble_eq_true rfl) z00 rfl (Nat.le_of_ble_eq_true rfl) d_Mo_put_91 (m_Mo_numbered e22) ?_
      show Z X M_Mo_put 0 0 h20 94 [(0, .ref x0), (1, .int x1), (2, .int x2), (3, .int x3), (4, .int x4), (5, .int x5)] [.int v23, .ref x0]
      obtain ⟨g25, h24, e26, E⟩ := cV_some E
      refine z_invV (ci := 4) (y := y_Mo_add) (Mc := M_Mo_add) (av := [.int v23]) (rest := []) rfl rfl ⟨zt_764, zt_766, zt_28, zt_52⟩ zk_Mo_add zy_Mo_add (by decide) (Nat.le_of_ble_eq_true rfl) z00 rfl (Nat.le_of_ble_eq_true rfl) d_Mo_put_94 g25 (m_Mo_add e26) ?_
      show Z X M_Mo_put 0 0 h24 97 [(0, .ref x0), (1, .int x1), (2, .int x2), (3, .int x3), (4, .int x4), (5, .int x5)] []
      refine z_aload_n 0 d_Mo_put_97 rfl rfl ?_
      refine z_iload_n 1 d_Mo_put_98 rfl rfl ?_
      obtain ⟨g28, h27, e29, E⟩ := cV_some E
      refine z_invV (ci := 4) (y := y_Mo_keep) (Mc := M_Mo_keep) (av := [.int x1]) (rest := []) rfl rfl ⟨zt_768, zt_770, zt_29, zt_52⟩ zk_Mo_keep zy_Mo_keep (by decide) (Nat.le_of_ble_eq_true rfl) z00 rfl (Nat.le_of_ble_eq_true rfl) d_Mo_put_99 g28 (m_Mo_keep e29) ?_
      show Z X M_Mo_put 0 0 h27 102 [(0, .ref x0), (1, .int x1), (2, .int x2), (3, .int x3), (4, .int x4), (5, .int x5)] []
      refine z_iconst (v := (1 : Int32)) d_Mo_put_102 (by decide) ?_
      exact z_ireturn hQ rfl z00 d_Mo_put_103 E
    · refine z_aload_n 0 d_Mo_put_69 rfl rfl ?_
      refine z_aload_n 0 d_Mo_put_70 rfl rfl ?_
      refine z_iload_n 1 d_Mo_put_71 rfl rfl ?_
      refine z_iload 5 d_Mo_put_72 rfl ?_
      obtain ⟨g31, v33, h30, e32, E⟩ := cI_some E
      refine z_invV (ci := 4) (y := y_Mo_numberOf) (Mc := M_Mo_numberOf) (av := [.int x1, .int x5]) (rest := [.ref x0]) rfl rfl ⟨zt_760, zt_762, zt_27, zt_52⟩ zk_Mo_numberOf zy_Mo_numberOf (by decide) (Nat.le_of_ble_eq_true rfl) z00 rfl (Nat.le_of_ble_eq_true rfl) d_Mo_put_74 g31 (m_Mo_numberOf e32) ?_
      show Z X M_Mo_put 0 0 h30 77 [(0, .ref x0), (1, .int x1), (2, .int x2), (3, .int x3), (4, .int x4), (5, .int x5)] [.int v33, .ref x0]
      obtain ⟨g35, h34, e36, E⟩ := cV_some E
      refine z_invV (ci := 4) (y := y_Mo_add) (Mc := M_Mo_add) (av := [.int v33]) (rest := []) rfl rfl ⟨zt_764, zt_766, zt_28, zt_52⟩ zk_Mo_add zy_Mo_add (by decide) (Nat.le_of_ble_eq_true rfl) z00 rfl (Nat.le_of_ble_eq_true rfl) d_Mo_put_77 g35 (m_Mo_add e36) ?_
      show Z X M_Mo_put 0 0 h34 80 [(0, .ref x0), (1, .int x1), (2, .int x2), (3, .int x3), (4, .int x4), (5, .int x5)] []
      refine z_iinc (v := (x5 + 1)) (lv2 := [(5, .int (x5 + 1)), (0, .ref x0), (1, .int x1), (2, .int x2), (3, .int x3), (4, .int x4)]) 5 d_Mo_put_80 rfl rfl (Nat.le_of_ble_eq_true rfl) rfl ?_
      refine z_goto (tgt := 58) d_Mo_put_83 (by decide) ?_
      refine z_lv [1, 2, 3, 4, 5, 0] rfl ?_
      exact ih x0 x1 x2 x3 x4 (x5 + 1) h34 E
set_option maxRecDepth 100000 in
set_option maxHeartbeats 4000000 in
theorem w_Mo_put_b0 {X : zX} {r : pR} {G : Nat} (hQ : zQ X r) : ∀ (x0 : Nat) (x1 : Int32) (x2 : Int32) (x3 : Int32) (x4 : Int32) (h : pH), f_Mo_put G x0 x1 x2 x3 x4 h = some r → Z X M_Mo_put 0 0 h 0 [(0, .ref x0), (1, .int x1), (2, .int x2), (3, .int x3), (4, .int x4)] [] := by
  intro x0 x1 x2 x3 x4 h E
  rw [f_Mo_put_eq] at E
  refine z_aload_n 0 d_Mo_put_0 rfl rfl ?_
  refine z_aload_n 0 d_Mo_put_1 rfl rfl ?_
  refine z_iload_n 1 d_Mo_put_2 rfl rfl ?_
  refine z_iload_n 2 d_Mo_put_3 rfl rfl ?_
  refine z_iload_n 3 d_Mo_put_4 rfl rfl ?_
  refine z_iload 4 d_Mo_put_5 rfl ?_
  obtain ⟨g2, v4, h1, e3, E⟩ := cI_some E
  refine z_invV (ci := 4) (y := y_Mo_wrong) (Mc := M_Mo_wrong) (av := [.int x1, .int x2, .int x3, .int x4]) (rest := [.ref x0]) rfl rfl ⟨zt_746, zt_748, zt_25, zt_52⟩ zk_Mo_wrong zy_Mo_wrong (by decide) (Nat.le_of_ble_eq_true rfl) z00 rfl (Nat.le_of_ble_eq_true rfl) d_Mo_put_7 g2 (m_Mo_wrong e3) ?_
  show Z X M_Mo_put 0 0 h1 10 [(0, .ref x0), (1, .int x1), (2, .int x2), (3, .int x3), (4, .int x4)] [.int v4, .ref x0]
  refine z_putI (ci := 4) (j := 0) rfl (by decide) zf_Mo_46 rfl rfl d_Mo_put_10 E (fun h5 _ E => ?_)
  refine z_aload_n 0 d_Mo_put_13 rfl rfl ?_
  refine z_getI (ci := 4) (j := 0) rfl (by decide) zf_Mo_46 d_Mo_put_14 E (fun v6 _ E => ?_)
  refine z_if_gt (y := 0) (tgt := 35) d_Mo_put_17 (by decide) E (fun E => ?_) (fun E => ?_)
  · refine z_lv [] rfl ?_
    exact (w_Mo_put_b35 hQ) h5 E
  · refine z_aload_n 0 d_Mo_put_20 rfl rfl ?_
    refine z_iload_n 1 d_Mo_put_21 rfl rfl ?_
    refine z_iload_n 2 d_Mo_put_22 rfl rfl ?_
    refine z_iload_n 3 d_Mo_put_23 rfl rfl ?_
    refine z_iload 4 d_Mo_put_24 rfl ?_
    obtain ⟨g8, v10, h7, e9, E⟩ := cI_some E
    refine z_invS (y := y_Mo_numbered) (Mc := M_Mo_numbered) (av := [.int x2, .int x3, .int x4]) (rest := [.int x1, .ref x0]) ⟨zt_753, zt_754, zt_52⟩ zk_Mo_numbered zy_Mo_numbered (by decide) (Nat.le_of_ble_eq_true rfl) z00 rfl (Nat.le_of_ble_eq_true rfl) d_Mo_put_26 (m_Mo_numbered e9) ?_
    show Z X M_Mo_put 0 0 h7 29 [(0, .ref x0), (1, .int x1), (2, .int x2), (3, .int x3), (4, .int x4)] [.int v10, .int x1, .ref x0]
    obtain ⟨g12, v14, h11, e13, E⟩ := cI_some E
    refine z_invV (ci := 4) (y := y_Mo_has) (Mc := M_Mo_has) (av := [.int x1, .int v10]) (rest := []) rfl rfl ⟨zt_756, zt_758, zt_26, zt_52⟩ zk_Mo_has zy_Mo_has (by decide) (Nat.le_of_ble_eq_true rfl) z00 rfl (Nat.le_of_ble_eq_true rfl) d_Mo_put_29 g12 (m_Mo_has e13) ?_
    show Z X M_Mo_put 0 0 h11 32 [(0, .ref x0), (1, .int x1), (2, .int x2), (3, .int x3), (4, .int x4)] [.int v14]
    refine z_if_eq (y := 0) (tgt := 37) d_Mo_put_32 (by decide) E (fun E => ?_) (fun E => ?_)
    · refine z_aload_n 0 d_Mo_put_37 rfl rfl ?_
      refine z_getR (ci := 4) (j := 2) rfl (by decide) zf_Mo_13 d_Mo_put_38 E (fun v15 _ E => ?_)
      refine z_iload_n 1 d_Mo_put_41 rfl rfl ?_
      refine z_iaload d_Mo_put_42 E (fun v16 _ E => ?_)
      refine z_bipush (v := (30 : Int32)) d_Mo_put_43 (by decide) ?_
      refine z_ic_ne (tgt := 50) d_Mo_put_45 (by decide) E (fun E => ?_) (fun E => ?_)
      · refine z_aload_n 0 d_Mo_put_50 rfl rfl ?_
        refine z_iconst (v := (0 : Int32)) d_Mo_put_51 (by decide) ?_
        refine z_putI (ci := 4) (j := 4) rfl (by decide) zf_Mo_54 rfl rfl d_Mo_put_52 E (fun h17 _ E => ?_)
        refine z_iconst (v := (0 : Int32)) d_Mo_put_55 (by decide) ?_
        refine z_istore (lv2 := [(5, .int (0 : Int32)), (0, .ref x0), (1, .int x1), (2, .int x2), (3, .int x3), (4, .int x4)]) d_Mo_put_56 (Nat.le_of_ble_eq_true rfl) rfl ?_
        refine z_lv [1, 2, 3, 4, 5, 0] rfl ?_
        exact (w_Mo_put_b58 hQ G) x0 x1 x2 x3 x4 (0 : Int32) h17 E
      · refine z_iconst (v := (-1 : Int32)) d_Mo_put_48 (by decide) ?_
        exact z_ireturn hQ rfl z00 d_Mo_put_49 E
    · refine z_lv [] rfl ?_
      exact (w_Mo_put_b35 hQ) h11 E
theorem m_Mo_put {l : Launch} {G : Nat} {x0 : Nat} {x1 : Int32} {x2 : Int32} {x3 : Int32} {x4 : Int32} {h : pH} {r : pR} (E : f_Mo_put G x0 x1 x2 x3 x4 h = some r) : zMet l y_Mo_put M_Mo_put 0 0 [.ref x0, .int x1, .int x2, .int x3, .int x4] h r :=
  zMet_of (by decide) rfl (Nat.le_of_ble_eq_true rfl) (fun p e s m args below meth c D0 cT => w_Mo_put_b0 (X := (p, l, e, s, m, args, below, meth, c, D0, cT, h, _, 0, 0)) rfl x0 x1 x2 x3 x4 h E)
def f_Mo_drop_b84 (G : Nat) (k45 : Nat → Int32 → Int32 → Int32 → Int32 → Int32 → pH → Option pR) (x0 : Nat) (x1 : Int32) (x2 : Int32) (x3 : Int32) (x4 : Int32) (x5 : Int32) (h : pH) : Option pR := k45 x0 x1 x2 x3 x4 (x5 + 1) h
theorem f_Mo_drop_b84_eq (G : Nat) (k45 : Nat → Int32 → Int32 → Int32 → Int32 → Int32 → pH → Option pR) (x0 : Nat) (x1 : Int32) (x2 : Int32) (x3 : Int32) (x4 : Int32) (x5 : Int32) (h : pH) : f_Mo_drop_b84 G k45 x0 x1 x2 x3 x4 x5 h = (k45 x0 x1 x2 x3 x4 (x5 + 1) h) := rfl
def f_Mo_drop_b35 (G : Nat) (h : pH) : Option pR := some (some (.int (0 : Int32)), h)
theorem f_Mo_drop_b35_eq (G : Nat) (h : pH) : f_Mo_drop_b35 G h = (some (some (.int (0 : Int32)), h)) := rfl
def f_Mo_drop_b45 (G : Nat) : Nat → Nat → Int32 → Int32 → Int32 → Int32 → Int32 → pH → Option pR
  | 0 => fun _ _ _ _ _ _ _ => none
  | F + 1 => fun x0 x1 x2 x3 x4 x5 h => (gR h x0 4 2).bind fun v16 => (aI h v16 x1).bind fun v17 => if v17 ≤ x5 then (cV (oC h x0 4) (f_Mo_keep G x0 x1 h) fun h18 => some (some (.int (1 : Int32)), h18)) else (cI (oC h x0 4) (f_Mo_numberOf G x0 x1 x5 h) fun v24 h21 => cI true (f_Mo_numbered G x2 x3 x4 h21) fun v28 h25 => if v24 = v28 then ((f_Mo_drop_b84 G (f_Mo_drop_b45 G F)) x0 x1 x2 x3 x4 x5 h25) else (cI (oC h25 x0 4) (f_Mo_numberOf G x0 x1 x5 h25) fun v32 h29 => cV (oC h29 x0 4) (f_Mo_add G x0 v32 h29) fun h33 => (f_Mo_drop_b84 G (f_Mo_drop_b45 G F)) x0 x1 x2 x3 x4 x5 h33))
theorem f_Mo_drop_b45_eq (G : Nat) (F : Nat) (x0 : Nat) (x1 : Int32) (x2 : Int32) (x3 : Int32) (x4 : Int32) (x5 : Int32) (h : pH) : f_Mo_drop_b45 G (F + 1) x0 x1 x2 x3 x4 x5 h = ((gR h x0 4 2).bind fun v16 => (aI h v16 x1).bind fun v17 => if v17 ≤ x5 then (cV (oC h x0 4) (f_Mo_keep G x0 x1 h) fun h18 => some (some (.int (1 : Int32)), h18)) else (cI (oC h x0 4) (f_Mo_numberOf G x0 x1 x5 h) fun v24 h21 => cI true (f_Mo_numbered G x2 x3 x4 h21) fun v28 h25 => if v24 = v28 then ((f_Mo_drop_b84 G (f_Mo_drop_b45 G F)) x0 x1 x2 x3 x4 x5 h25) else (cI (oC h25 x0 4) (f_Mo_numberOf G x0 x1 x5 h25) fun v32 h29 => cV (oC h29 x0 4) (f_Mo_add G x0 v32 h29) fun h33 => (f_Mo_drop_b84 G (f_Mo_drop_b45 G F)) x0 x1 x2 x3 x4 x5 h33))) := rfl
def f_Mo_drop (G : Nat) (x0 : Nat) (x1 : Int32) (x2 : Int32) (x3 : Int32) (x4 : Int32) (h : pH) : Option pR := cI (oC h x0 4) (f_Mo_wrong G x0 x1 x2 x3 x4 h) fun v4 h1 => (oP h1 x0 4 0 (.int v4)).bind fun h5 => (gI h5 x0 4 0).bind fun v6 => if 0 < v6 then ((f_Mo_drop_b35 G) h5) else (cI true (f_Mo_numbered G x2 x3 x4 h5) fun v10 h7 => cI (oC h7 x0 4) (f_Mo_has G x0 x1 v10 h7) fun v14 h11 => if v14 = 0 then ((f_Mo_drop_b35 G) h11) else ((oP h11 x0 4 4 (.int (0 : Int32))).bind fun h15 => (f_Mo_drop_b45 G G) x0 x1 x2 x3 x4 (0 : Int32) h15))
theorem f_Mo_drop_eq (G : Nat) (x0 : Nat) (x1 : Int32) (x2 : Int32) (x3 : Int32) (x4 : Int32) (h : pH) : f_Mo_drop G x0 x1 x2 x3 x4 h = (cI (oC h x0 4) (f_Mo_wrong G x0 x1 x2 x3 x4 h) fun v4 h1 => (oP h1 x0 4 0 (.int v4)).bind fun h5 => (gI h5 x0 4 0).bind fun v6 => if 0 < v6 then ((f_Mo_drop_b35 G) h5) else (cI true (f_Mo_numbered G x2 x3 x4 h5) fun v10 h7 => cI (oC h7 x0 4) (f_Mo_has G x0 x1 v10 h7) fun v14 h11 => if v14 = 0 then ((f_Mo_drop_b35 G) h11) else ((oP h11 x0 4 4 (.int (0 : Int32))).bind fun h15 => (f_Mo_drop_b45 G G) x0 x1 x2 x3 x4 (0 : Int32) h15))) := rfl
set_option maxRecDepth 100000 in
set_option maxHeartbeats 4000000 in
theorem w_Mo_drop_b84 {X : zX} {r : pR} {G : Nat} {k45 : Nat → Int32 → Int32 → Int32 → Int32 → Int32 → pH → Option pR} (hQ : zQ X r) (hk45 : ∀ (x0 : Nat) (x1 : Int32) (x2 : Int32) (x3 : Int32) (x4 : Int32) (x5 : Int32) (h : pH), k45 x0 x1 x2 x3 x4 x5 h = some r → Z X M_Mo_drop 0 0 h 45 [(0, .ref x0), (1, .int x1), (2, .int x2), (3, .int x3), (4, .int x4), (5, .int x5)] []) : ∀ (x0 : Nat) (x1 : Int32) (x2 : Int32) (x3 : Int32) (x4 : Int32) (x5 : Int32) (h : pH), f_Mo_drop_b84 G k45 x0 x1 x2 x3 x4 x5 h = some r → Z X M_Mo_drop 0 0 h 84 [(0, .ref x0), (1, .int x1), (2, .int x2), (3, .int x3), (4, .int x4), (5, .int x5)] [] := by
  intro x0 x1 x2 x3 x4 x5 h E
  rw [f_Mo_drop_b84_eq] at E
  refine z_iinc (v := (x5 + 1)) (lv2 := [(5, .int (x5 + 1)), (0, .ref x0), (1, .int x1), (2, .int x2), (3, .int x3), (4, .int x4)]) 5 d_Mo_drop_84 rfl rfl (Nat.le_of_ble_eq_true rfl) rfl ?_
  refine z_goto (tgt := 45) d_Mo_drop_87 (by decide) ?_
  refine z_lv [1, 2, 3, 4, 5, 0] rfl ?_
  exact hk45 x0 x1 x2 x3 x4 (x5 + 1) h E
set_option maxRecDepth 100000 in
set_option maxHeartbeats 4000000 in
theorem w_Mo_drop_b35 {X : zX} {r : pR} {G : Nat} (hQ : zQ X r) : ∀ (h : pH), f_Mo_drop_b35 G h = some r → Z X M_Mo_drop 0 0 h 35 [] [] := by
  intro h E
  rw [f_Mo_drop_b35_eq] at E
  refine z_iconst (v := (0 : Int32)) d_Mo_drop_35 (by decide) ?_
  exact z_ireturn hQ rfl z00 d_Mo_drop_36 E
set_option maxRecDepth 100000 in
set_option maxHeartbeats 4000000 in
theorem w_Mo_drop_b45 {X : zX} {r : pR} {G : Nat} (hQ : zQ X r) : ∀ (F : Nat) (x0 : Nat) (x1 : Int32) (x2 : Int32) (x3 : Int32) (x4 : Int32) (x5 : Int32) (h : pH), f_Mo_drop_b45 G F x0 x1 x2 x3 x4 x5 h = some r → Z X M_Mo_drop 0 0 h 45 [(0, .ref x0), (1, .int x1), (2, .int x2), (3, .int x3), (4, .int x4), (5, .int x5)] [] := by
  intro F
  induction F with
  | zero => intro x0 x1 x2 x3 x4 x5 h E; exact nomatch (show (none : Option pR) = some _ from E)
  | succ F ih =>
    intro x0 x1 x2 x3 x4 x5 h E
    rw [f_Mo_drop_b45_eq] at E
    refine z_iload 5 d_Mo_drop_45 rfl ?_
    refine z_aload_n 0 d_Mo_drop_47 rfl rfl ?_
    refine z_getR (ci := 4) (j := 2) rfl (by decide) zf_Mo_13 d_Mo_drop_48 E (fun v16 _ E => ?_)
    refine z_iload_n 1 d_Mo_drop_51 rfl rfl ?_
    refine z_iaload d_Mo_drop_52 E (fun v17 _ E => ?_)
    refine z_ic_ge (tgt := 90) d_Mo_drop_53 (by decide) E (fun E => ?_) (fun E => ?_)
    · refine z_aload_n 0 d_Mo_drop_90 rfl rfl ?_
      refine z_iload_n 1 d_Mo_drop_91 rfl rfl ?_
      obtain ⟨g19, h18, e20, E⟩ := cV_some E
      refine z_invV (ci := 4) (y := y_Mo_keep) (Mc := M_Mo_keep) (av := [.int x1]) (rest := []) rfl rfl ⟨zt_768, zt_770, zt_29, zt_52⟩ zk_Mo_keep zy_Mo_keep (by decide) (Nat.le_of_ble_eq_true rfl) z00 rfl (Nat.le_of_ble_eq_true rfl) d_Mo_drop_92 g19 (m_Mo_keep e20) ?_
      show Z X M_Mo_drop 0 0 h18 95 [(0, .ref x0), (1, .int x1), (2, .int x2), (3, .int x3), (4, .int x4), (5, .int x5)] []
      refine z_iconst (v := (1 : Int32)) d_Mo_drop_95 (by decide) ?_
      exact z_ireturn hQ rfl z00 d_Mo_drop_96 E
    · refine z_aload_n 0 d_Mo_drop_56 rfl rfl ?_
      refine z_iload_n 1 d_Mo_drop_57 rfl rfl ?_
      refine z_iload 5 d_Mo_drop_58 rfl ?_
      obtain ⟨g22, v24, h21, e23, E⟩ := cI_some E
      refine z_invV (ci := 4) (y := y_Mo_numberOf) (Mc := M_Mo_numberOf) (av := [.int x1, .int x5]) (rest := []) rfl rfl ⟨zt_760, zt_762, zt_27, zt_52⟩ zk_Mo_numberOf zy_Mo_numberOf (by decide) (Nat.le_of_ble_eq_true rfl) z00 rfl (Nat.le_of_ble_eq_true rfl) d_Mo_drop_60 g22 (m_Mo_numberOf e23) ?_
      show Z X M_Mo_drop 0 0 h21 63 [(0, .ref x0), (1, .int x1), (2, .int x2), (3, .int x3), (4, .int x4), (5, .int x5)] [.int v24]
      refine z_iload_n 2 d_Mo_drop_63 rfl rfl ?_
      refine z_iload_n 3 d_Mo_drop_64 rfl rfl ?_
      refine z_iload 4 d_Mo_drop_65 rfl ?_
      obtain ⟨g26, v28, h25, e27, E⟩ := cI_some E
      refine z_invS (y := y_Mo_numbered) (Mc := M_Mo_numbered) (av := [.int x2, .int x3, .int x4]) (rest := [.int v24]) ⟨zt_753, zt_754, zt_52⟩ zk_Mo_numbered zy_Mo_numbered (by decide) (Nat.le_of_ble_eq_true rfl) z00 rfl (Nat.le_of_ble_eq_true rfl) d_Mo_drop_67 (m_Mo_numbered e27) ?_
      show Z X M_Mo_drop 0 0 h25 70 [(0, .ref x0), (1, .int x1), (2, .int x2), (3, .int x3), (4, .int x4), (5, .int x5)] [.int v28, .int v24]
      refine z_ic_eq (tgt := 84) d_Mo_drop_70 (by decide) E (fun E => ?_) (fun E => ?_)
      · exact (w_Mo_drop_b84 hQ ih) x0 x1 x2 x3 x4 x5 h25 E
      · refine z_aload_n 0 d_Mo_drop_73 rfl rfl ?_
        refine z_aload_n 0 d_Mo_drop_74 rfl rfl ?_
        refine z_iload_n 1 d_Mo_drop_75 rfl rfl ?_
        refine z_iload 5 d_Mo_drop_76 rfl ?_
        obtain ⟨g30, v32, h29, e31, E⟩ := cI_some E
        refine z_invV (ci := 4) (y := y_Mo_numberOf) (Mc := M_Mo_numberOf) (av := [.int x1, .int x5]) (rest := [.ref x0]) rfl rfl ⟨zt_760, zt_762, zt_27, zt_52⟩ zk_Mo_numberOf zy_Mo_numberOf (by decide) (Nat.le_of_ble_eq_true rfl) z00 rfl (Nat.le_of_ble_eq_true rfl) d_Mo_drop_78 g30 (m_Mo_numberOf e31) ?_
        show Z X M_Mo_drop 0 0 h29 81 [(0, .ref x0), (1, .int x1), (2, .int x2), (3, .int x3), (4, .int x4), (5, .int x5)] [.int v32, .ref x0]
        obtain ⟨g34, h33, e35, E⟩ := cV_some E
        refine z_invV (ci := 4) (y := y_Mo_add) (Mc := M_Mo_add) (av := [.int v32]) (rest := []) rfl rfl ⟨zt_764, zt_766, zt_28, zt_52⟩ zk_Mo_add zy_Mo_add (by decide) (Nat.le_of_ble_eq_true rfl) z00 rfl (Nat.le_of_ble_eq_true rfl) d_Mo_drop_81 g34 (m_Mo_add e35) ?_
        show Z X M_Mo_drop 0 0 h33 84 [(0, .ref x0), (1, .int x1), (2, .int x2), (3, .int x3), (4, .int x4), (5, .int x5)] []
        exact (w_Mo_drop_b84 hQ ih) x0 x1 x2 x3 x4 x5 h33 E
set_option maxRecDepth 100000 in
set_option maxHeartbeats 4000000 in
theorem w_Mo_drop_b0 {X : zX} {r : pR} {G : Nat} (hQ : zQ X r) : ∀ (x0 : Nat) (x1 : Int32) (x2 : Int32) (x3 : Int32) (x4 : Int32) (h : pH), f_Mo_drop G x0 x1 x2 x3 x4 h = some r → Z X M_Mo_drop 0 0 h 0 [(0, .ref x0), (1, .int x1), (2, .int x2), (3, .int x3), (4, .int x4)] [] := by
  intro x0 x1 x2 x3 x4 h E
  rw [f_Mo_drop_eq] at E
  refine z_aload_n 0 d_Mo_drop_0 rfl rfl ?_
  refine z_aload_n 0 d_Mo_drop_1 rfl rfl ?_
  refine z_iload_n 1 d_Mo_drop_2 rfl rfl ?_
  refine z_iload_n 2 d_Mo_drop_3 rfl rfl ?_
  refine z_iload_n 3 d_Mo_drop_4 rfl rfl ?_
  refine z_iload 4 d_Mo_drop_5 rfl ?_
  obtain ⟨g2, v4, h1, e3, E⟩ := cI_some E
  refine z_invV (ci := 4) (y := y_Mo_wrong) (Mc := M_Mo_wrong) (av := [.int x1, .int x2, .int x3, .int x4]) (rest := [.ref x0]) rfl rfl ⟨zt_746, zt_748, zt_25, zt_52⟩ zk_Mo_wrong zy_Mo_wrong (by decide) (Nat.le_of_ble_eq_true rfl) z00 rfl (Nat.le_of_ble_eq_true rfl) d_Mo_drop_7 g2 (m_Mo_wrong e3) ?_
  show Z X M_Mo_drop 0 0 h1 10 [(0, .ref x0), (1, .int x1), (2, .int x2), (3, .int x3), (4, .int x4)] [.int v4, .ref x0]
  refine z_putI (ci := 4) (j := 0) rfl (by decide) zf_Mo_46 rfl rfl d_Mo_drop_10 E (fun h5 _ E => ?_)
  refine z_aload_n 0 d_Mo_drop_13 rfl rfl ?_
  refine z_getI (ci := 4) (j := 0) rfl (by decide) zf_Mo_46 d_Mo_drop_14 E (fun v6 _ E => ?_)
  refine z_if_gt (y := 0) (tgt := 35) d_Mo_drop_17 (by decide) E (fun E => ?_) (fun E => ?_)
  · refine z_lv [] rfl ?_
    exact (w_Mo_drop_b35 hQ) h5 E
  · refine z_aload_n 0 d_Mo_drop_20 rfl rfl ?_
    refine z_iload_n 1 d_Mo_drop_21 rfl rfl ?_
    refine z_iload_n 2 d_Mo_drop_22 rfl rfl ?_
    refine z_iload_n 3 d_Mo_drop_23 rfl rfl ?_
    refine z_iload 4 d_Mo_drop_24 rfl ?_
    obtain ⟨g8, v10, h7, e9, E⟩ := cI_some E
    refine z_invS (y := y_Mo_numbered) (Mc := M_Mo_numbered) (av := [.int x2, .int x3, .int x4]) (rest := [.int x1, .ref x0]) ⟨zt_753, zt_754, zt_52⟩ zk_Mo_numbered zy_Mo_numbered (by decide) (Nat.le_of_ble_eq_true rfl) z00 rfl (Nat.le_of_ble_eq_true rfl) d_Mo_drop_26 (m_Mo_numbered e9) ?_
    show Z X M_Mo_drop 0 0 h7 29 [(0, .ref x0), (1, .int x1), (2, .int x2), (3, .int x3), (4, .int x4)] [.int v10, .int x1, .ref x0]
    obtain ⟨g12, v14, h11, e13, E⟩ := cI_some E
    refine z_invV (ci := 4) (y := y_Mo_has) (Mc := M_Mo_has) (av := [.int x1, .int v10]) (rest := []) rfl rfl ⟨zt_756, zt_758, zt_26, zt_52⟩ zk_Mo_has zy_Mo_has (by decide) (Nat.le_of_ble_eq_true rfl) z00 rfl (Nat.le_of_ble_eq_true rfl) d_Mo_drop_29 g12 (m_Mo_has e13) ?_
    show Z X M_Mo_drop 0 0 h11 32 [(0, .ref x0), (1, .int x1), (2, .int x2), (3, .int x3), (4, .int x4)] [.int v14]
    refine z_if_ne (y := 0) (tgt := 37) d_Mo_drop_32 (by decide) E (fun E => ?_) (fun E => ?_)
    · refine z_aload_n 0 d_Mo_drop_37 rfl rfl ?_
      refine z_iconst (v := (0 : Int32)) d_Mo_drop_38 (by decide) ?_
      refine z_putI (ci := 4) (j := 4) rfl (by decide) zf_Mo_54 rfl rfl d_Mo_drop_39 E (fun h15 _ E => ?_)
      refine z_iconst (v := (0 : Int32)) d_Mo_drop_42 (by decide) ?_
      refine z_istore (lv2 := [(5, .int (0 : Int32)), (0, .ref x0), (1, .int x1), (2, .int x2), (3, .int x3), (4, .int x4)]) d_Mo_drop_43 (Nat.le_of_ble_eq_true rfl) rfl ?_
      refine z_lv [1, 2, 3, 4, 5, 0] rfl ?_
      exact (w_Mo_drop_b45 hQ G) x0 x1 x2 x3 x4 (0 : Int32) h15 E
    · refine z_lv [] rfl ?_
      exact (w_Mo_drop_b35 hQ) h11 E
theorem m_Mo_drop {l : Launch} {G : Nat} {x0 : Nat} {x1 : Int32} {x2 : Int32} {x3 : Int32} {x4 : Int32} {h : pH} {r : pR} (E : f_Mo_drop G x0 x1 x2 x3 x4 h = some r) : zMet l y_Mo_drop M_Mo_drop 0 0 [.ref x0, .int x1, .int x2, .int x3, .int x4] h r :=
  zMet_of (by decide) rfl (Nat.le_of_ble_eq_true rfl) (fun p e s m args below meth c D0 cT => w_Mo_drop_b0 (X := (p, l, e, s, m, args, below, meth, c, D0, cT, h, _, 0, 0)) rfl x0 x1 x2 x3 x4 h E)
def f_Mo_copy_b42 (G : Nat) : Nat → Nat → Int32 → Int32 → Int32 → pH → Option pR
  | 0 => fun _ _ _ _ _ => none
  | F + 1 => fun x0 x1 x2 x3 h => (gR h x0 4 2).bind fun v17 => (aI h v17 x1).bind fun v18 => if v18 ≤ x3 then ((gR h x0 4 2).bind fun v19 => (aI h v19 x2).bind fun v20 => some (some (.int v20), h)) else ((gR h x0 4 1).bind fun v21 => cI (oC h x0 4) (f_Mo_numberOf G x0 x1 x3 h) fun v25 h22 => (sI h22 v21 (((30 : Int32) * x2) + x3) v25).bind fun h26 => (f_Mo_copy_b42 G F) x0 x1 x2 (x3 + 1) h26)
theorem f_Mo_copy_b42_eq (G : Nat) (F : Nat) (x0 : Nat) (x1 : Int32) (x2 : Int32) (x3 : Int32) (h : pH) : f_Mo_copy_b42 G (F + 1) x0 x1 x2 x3 h = ((gR h x0 4 2).bind fun v17 => (aI h v17 x1).bind fun v18 => if v18 ≤ x3 then ((gR h x0 4 2).bind fun v19 => (aI h v19 x2).bind fun v20 => some (some (.int v20), h)) else ((gR h x0 4 1).bind fun v21 => cI (oC h x0 4) (f_Mo_numberOf G x0 x1 x3 h) fun v25 h22 => (sI h22 v21 (((30 : Int32) * x2) + x3) v25).bind fun h26 => (f_Mo_copy_b42 G F) x0 x1 x2 (x3 + 1) h26)) := rfl
def f_Mo_copy_b19 (G : Nat) (k20 : Nat → Int32 → Int32 → Nat → Int32 → pH → Option pR) (x0 : Nat) (x1 : Int32) (x2 : Int32) (s0 : Nat) (h : pH) : Option pR := k20 x0 x1 x2 s0 (0 : Int32) h
theorem f_Mo_copy_b19_eq (G : Nat) (k20 : Nat → Int32 → Int32 → Nat → Int32 → pH → Option pR) (x0 : Nat) (x1 : Int32) (x2 : Int32) (s0 : Nat) (h : pH) : f_Mo_copy_b19 G k20 x0 x1 x2 s0 h = (k20 x0 x1 x2 s0 (0 : Int32) h) := rfl
def f_Mo_copy_b20 (G : Nat) (x0 : Nat) (x1 : Int32) (x2 : Int32) (s0 : Nat) (s1 : Int32) (h : pH) : Option pR := cI (oC h s0 4) (f_Mo_there G s0 s1 h) fun v12 h9 => if v12 = 0 then (some (some (.int (0 : Int32)), h9)) else ((gR h9 x0 4 2).bind fun v13 => (gR h9 x0 4 2).bind fun v14 => (aI h9 v14 x1).bind fun v15 => (sI h9 v13 x2 v15).bind fun h16 => (f_Mo_copy_b42 G G) x0 x1 x2 (0 : Int32) h16)
theorem f_Mo_copy_b20_eq (G : Nat) (x0 : Nat) (x1 : Int32) (x2 : Int32) (s0 : Nat) (s1 : Int32) (h : pH) : f_Mo_copy_b20 G x0 x1 x2 s0 s1 h = (cI (oC h s0 4) (f_Mo_there G s0 s1 h) fun v12 h9 => if v12 = 0 then (some (some (.int (0 : Int32)), h9)) else ((gR h9 x0 4 2).bind fun v13 => (gR h9 x0 4 2).bind fun v14 => (aI h9 v14 x1).bind fun v15 => (sI h9 v13 x2 v15).bind fun h16 => (f_Mo_copy_b42 G G) x0 x1 x2 (0 : Int32) h16)) := rfl
def f_Mo_copy (G : Nat) (x0 : Nat) (x1 : Int32) (x2 : Int32) (h : pH) : Option pR := cI true (f_Mo_isGraph G x1 h) fun v4 h1 => if v4 = 0 then ((f_Mo_copy_b19 G (f_Mo_copy_b20 G)) x0 x1 x2 x0 h1) else (cI true (f_Mo_isGraph G x2 h1) fun v8 h5 => if v8 = 0 then ((f_Mo_copy_b19 G (f_Mo_copy_b20 G)) x0 x1 x2 x0 h5) else ((f_Mo_copy_b20 G) x0 x1 x2 x0 (1 : Int32) h5))
theorem f_Mo_copy_eq (G : Nat) (x0 : Nat) (x1 : Int32) (x2 : Int32) (h : pH) : f_Mo_copy G x0 x1 x2 h = (cI true (f_Mo_isGraph G x1 h) fun v4 h1 => if v4 = 0 then ((f_Mo_copy_b19 G (f_Mo_copy_b20 G)) x0 x1 x2 x0 h1) else (cI true (f_Mo_isGraph G x2 h1) fun v8 h5 => if v8 = 0 then ((f_Mo_copy_b19 G (f_Mo_copy_b20 G)) x0 x1 x2 x0 h5) else ((f_Mo_copy_b20 G) x0 x1 x2 x0 (1 : Int32) h5))) := rfl
set_option maxRecDepth 100000 in
set_option maxHeartbeats 4000000 in
theorem w_Mo_copy_b42 {X : zX} {r : pR} {G : Nat} (hQ : zQ X r) : ∀ (F : Nat) (x0 : Nat) (x1 : Int32) (x2 : Int32) (x3 : Int32) (h : pH), f_Mo_copy_b42 G F x0 x1 x2 x3 h = some r → Z X M_Mo_copy 0 0 h 42 [(0, .ref x0), (1, .int x1), (2, .int x2), (3, .int x3)] [] := by
  intro F
  induction F with
  | zero => intro x0 x1 x2 x3 h E; exact nomatch (show (none : Option pR) = some _ from E)
  | succ F ih =>
    intro x0 x1 x2 x3 h E
    rw [f_Mo_copy_b42_eq] at E
    refine z_iload_n 3 d_Mo_copy_42 rfl rfl ?_
    refine z_aload_n 0 d_Mo_copy_43 rfl rfl ?_
    refine z_getR (ci := 4) (j := 2) rfl (by decide) zf_Mo_13 d_Mo_copy_44 E (fun v17 _ E => ?_)
    refine z_iload_n 1 d_Mo_copy_47 rfl rfl ?_
    refine z_iaload d_Mo_copy_48 E (fun v18 _ E => ?_)
    refine z_ic_ge (tgt := 75) d_Mo_copy_49 (by decide) E (fun E => ?_) (fun E => ?_)
    · refine z_aload_n 0 d_Mo_copy_75 rfl rfl ?_
      refine z_getR (ci := 4) (j := 2) rfl (by decide) zf_Mo_13 d_Mo_copy_76 E (fun v19 _ E => ?_)
      refine z_iload_n 2 d_Mo_copy_79 rfl rfl ?_
      refine z_iaload d_Mo_copy_80 E (fun v20 _ E => ?_)
      exact z_ireturn hQ rfl z00 d_Mo_copy_81 E
    · refine z_aload_n 0 d_Mo_copy_52 rfl rfl ?_
      refine z_getR (ci := 4) (j := 1) rfl (by decide) zf_Mo_7 d_Mo_copy_53 E (fun v21 _ E => ?_)
      refine z_bipush (v := (30 : Int32)) d_Mo_copy_56 (by decide) ?_
      refine z_iload_n 2 d_Mo_copy_58 rfl rfl ?_
      refine z_imul d_Mo_copy_59 ?_
      refine z_iload_n 3 d_Mo_copy_60 rfl rfl ?_
      refine z_iadd d_Mo_copy_61 ?_
      refine z_aload_n 0 d_Mo_copy_62 rfl rfl ?_
      refine z_iload_n 1 d_Mo_copy_63 rfl rfl ?_
      refine z_iload_n 3 d_Mo_copy_64 rfl rfl ?_
      obtain ⟨g23, v25, h22, e24, E⟩ := cI_some E
      refine z_invV (ci := 4) (y := y_Mo_numberOf) (Mc := M_Mo_numberOf) (av := [.int x1, .int x3]) (rest := [.int (((30 : Int32) * x2) + x3), .ref v21]) rfl rfl ⟨zt_760, zt_762, zt_27, zt_52⟩ zk_Mo_numberOf zy_Mo_numberOf (by decide) (Nat.le_of_ble_eq_true rfl) z00 rfl (Nat.le_of_ble_eq_true rfl) d_Mo_copy_65 g23 (m_Mo_numberOf e24) ?_
      show Z X M_Mo_copy 0 0 h22 68 [(0, .ref x0), (1, .int x1), (2, .int x2), (3, .int x3)] [.int v25, .int (((30 : Int32) * x2) + x3), .ref v21]
      refine z_iastore d_Mo_copy_68 E (fun h26 _ E => ?_)
      refine z_iinc (v := (x3 + 1)) (lv2 := [(3, .int (x3 + 1)), (0, .ref x0), (1, .int x1), (2, .int x2)]) 3 d_Mo_copy_69 rfl rfl (Nat.le_of_ble_eq_true rfl) rfl ?_
      refine z_goto (tgt := 42) d_Mo_copy_72 (by decide) ?_
      refine z_lv [1, 2, 3, 0] rfl ?_
      exact ih x0 x1 x2 (x3 + 1) h26 E
set_option maxRecDepth 100000 in
set_option maxHeartbeats 4000000 in
theorem w_Mo_copy_b19 {X : zX} {r : pR} {G : Nat} {k20 : Nat → Int32 → Int32 → Nat → Int32 → pH → Option pR} (hQ : zQ X r) (hk20 : ∀ (x0 : Nat) (x1 : Int32) (x2 : Int32) (s0 : Nat) (s1 : Int32) (h : pH), k20 x0 x1 x2 s0 s1 h = some r → Z X M_Mo_copy 0 0 h 20 [(0, .ref x0), (1, .int x1), (2, .int x2)] [.int s1, .ref s0]) : ∀ (x0 : Nat) (x1 : Int32) (x2 : Int32) (s0 : Nat) (h : pH), f_Mo_copy_b19 G k20 x0 x1 x2 s0 h = some r → Z X M_Mo_copy 0 0 h 19 [(0, .ref x0), (1, .int x1), (2, .int x2)] [.ref s0] := by
  intro x0 x1 x2 s0 h E
  rw [f_Mo_copy_b19_eq] at E
  refine z_iconst (v := (0 : Int32)) d_Mo_copy_19 (by decide) ?_
  exact hk20 x0 x1 x2 s0 (0 : Int32) h E
set_option maxRecDepth 100000 in
set_option maxHeartbeats 4000000 in
theorem w_Mo_copy_b20 {X : zX} {r : pR} {G : Nat} (hQ : zQ X r) : ∀ (x0 : Nat) (x1 : Int32) (x2 : Int32) (s0 : Nat) (s1 : Int32) (h : pH), f_Mo_copy_b20 G x0 x1 x2 s0 s1 h = some r → Z X M_Mo_copy 0 0 h 20 [(0, .ref x0), (1, .int x1), (2, .int x2)] [.int s1, .ref s0] := by
  intro x0 x1 x2 s0 s1 h E
  rw [f_Mo_copy_b20_eq] at E
  obtain ⟨g10, v12, h9, e11, E⟩ := cI_some E
  refine z_invV (ci := 4) (y := y_Mo_there) (Mc := M_Mo_there) (av := [.int s1]) (rest := []) rfl rfl ⟨zt_780, zt_782, zt_30, zt_52⟩ zk_Mo_there zy_Mo_there (by decide) (Nat.le_of_ble_eq_true rfl) z00 rfl (Nat.le_of_ble_eq_true rfl) d_Mo_copy_20 g10 (m_Mo_there e11) ?_
  show Z X M_Mo_copy 0 0 h9 23 [(0, .ref x0), (1, .int x1), (2, .int x2)] [.int v12]
  refine z_if_ne (y := 0) (tgt := 28) d_Mo_copy_23 (by decide) E (fun E => ?_) (fun E => ?_)
  · refine z_aload_n 0 d_Mo_copy_28 rfl rfl ?_
    refine z_getR (ci := 4) (j := 2) rfl (by decide) zf_Mo_13 d_Mo_copy_29 E (fun v13 _ E => ?_)
    refine z_iload_n 2 d_Mo_copy_32 rfl rfl ?_
    refine z_aload_n 0 d_Mo_copy_33 rfl rfl ?_
    refine z_getR (ci := 4) (j := 2) rfl (by decide) zf_Mo_13 d_Mo_copy_34 E (fun v14 _ E => ?_)
    refine z_iload_n 1 d_Mo_copy_37 rfl rfl ?_
    refine z_iaload d_Mo_copy_38 E (fun v15 _ E => ?_)
    refine z_iastore d_Mo_copy_39 E (fun h16 _ E => ?_)
    refine z_iconst (v := (0 : Int32)) d_Mo_copy_40 (by decide) ?_
    refine z_istore_n (lv2 := [(3, .int (0 : Int32)), (0, .ref x0), (1, .int x1), (2, .int x2)]) d_Mo_copy_41 rfl (Nat.le_of_ble_eq_true rfl) rfl ?_
    refine z_lv [1, 2, 3, 0] rfl ?_
    exact (w_Mo_copy_b42 hQ G) x0 x1 x2 (0 : Int32) h16 E
  · refine z_iconst (v := (0 : Int32)) d_Mo_copy_26 (by decide) ?_
    exact z_ireturn hQ rfl z00 d_Mo_copy_27 E
set_option maxRecDepth 100000 in
set_option maxHeartbeats 4000000 in
theorem w_Mo_copy_b0 {X : zX} {r : pR} {G : Nat} (hQ : zQ X r) : ∀ (x0 : Nat) (x1 : Int32) (x2 : Int32) (h : pH), f_Mo_copy G x0 x1 x2 h = some r → Z X M_Mo_copy 0 0 h 0 [(0, .ref x0), (1, .int x1), (2, .int x2)] [] := by
  intro x0 x1 x2 h E
  rw [f_Mo_copy_eq] at E
  refine z_aload_n 0 d_Mo_copy_0 rfl rfl ?_
  refine z_iload_n 1 d_Mo_copy_1 rfl rfl ?_
  obtain ⟨g2, v4, h1, e3, E⟩ := cI_some E
  refine z_invS (y := y_Mo_isGraph) (Mc := M_Mo_isGraph) (av := [.int x1]) (rest := [.ref x0]) ⟨zt_750, zt_751, zt_52⟩ zk_Mo_isGraph zy_Mo_isGraph (by decide) (Nat.le_of_ble_eq_true rfl) z00 rfl (Nat.le_of_ble_eq_true rfl) d_Mo_copy_2 (m_Mo_isGraph e3) ?_
  show Z X M_Mo_copy 0 0 h1 5 [(0, .ref x0), (1, .int x1), (2, .int x2)] [.int v4, .ref x0]
  refine z_if_eq (y := 0) (tgt := 19) d_Mo_copy_5 (by decide) E (fun E => ?_) (fun E => ?_)
  · exact (w_Mo_copy_b19 hQ (w_Mo_copy_b20 hQ)) x0 x1 x2 x0 h1 E
  · refine z_iload_n 2 d_Mo_copy_8 rfl rfl ?_
    obtain ⟨g6, v8, h5, e7, E⟩ := cI_some E
    refine z_invS (y := y_Mo_isGraph) (Mc := M_Mo_isGraph) (av := [.int x2]) (rest := [.ref x0]) ⟨zt_750, zt_751, zt_52⟩ zk_Mo_isGraph zy_Mo_isGraph (by decide) (Nat.le_of_ble_eq_true rfl) z00 rfl (Nat.le_of_ble_eq_true rfl) d_Mo_copy_9 (m_Mo_isGraph e7) ?_
    show Z X M_Mo_copy 0 0 h5 12 [(0, .ref x0), (1, .int x1), (2, .int x2)] [.int v8, .ref x0]
    refine z_if_eq (y := 0) (tgt := 19) d_Mo_copy_12 (by decide) E (fun E => ?_) (fun E => ?_)
    · exact (w_Mo_copy_b19 hQ (w_Mo_copy_b20 hQ)) x0 x1 x2 x0 h5 E
    · refine z_iconst (v := (1 : Int32)) d_Mo_copy_15 (by decide) ?_
      refine z_goto (tgt := 20) d_Mo_copy_16 (by decide) ?_
      exact (w_Mo_copy_b20 hQ) x0 x1 x2 x0 (1 : Int32) h5 E
theorem m_Mo_copy {l : Launch} {G : Nat} {x0 : Nat} {x1 : Int32} {x2 : Int32} {h : pH} {r : pR} (E : f_Mo_copy G x0 x1 x2 h = some r) : zMet l y_Mo_copy M_Mo_copy 0 0 [.ref x0, .int x1, .int x2] h r :=
  zMet_of (by decide) rfl (Nat.le_of_ble_eq_true rfl) (fun p e s m args below meth c D0 cT => w_Mo_copy_b0 (X := (p, l, e, s, m, args, below, meth, c, D0, cT, h, _, 0, 0)) rfl x0 x1 x2 h E)
def f_Mo_size_b59 (G : Nat) (k35 : Nat → Int32 → Int32 → Int32 → Int32 → pH → Option pR) (x0 : Nat) (x1 : Int32) (x2 : Int32) (x4 : Int32) (s0 : Int32) (s1 : Int32) (h : pH) : Option pR := k35 x0 x1 x2 (s0 + s1) (x4 + 1) h
theorem f_Mo_size_b59_eq (G : Nat) (k35 : Nat → Int32 → Int32 → Int32 → Int32 → pH → Option pR) (x0 : Nat) (x1 : Int32) (x2 : Int32) (x4 : Int32) (s0 : Int32) (s1 : Int32) (h : pH) : f_Mo_size_b59 G k35 x0 x1 x2 x4 s0 s1 h = (k35 x0 x1 x2 (s0 + s1) (x4 + 1) h) := rfl
def f_Mo_size_b94 (G : Nat) (s0 : Int32) (h : pH) : Option pR := some (some (.int s0), h)
theorem f_Mo_size_b94_eq (G : Nat) (s0 : Int32) (h : pH) : f_Mo_size_b94 G s0 h = (some (some (.int s0), h)) := rfl
def f_Mo_size_b35 (G : Nat) : Nat → Nat → Int32 → Int32 → Int32 → Int32 → pH → Option pR
  | 0 => fun _ _ _ _ _ _ => none
  | F + 1 => fun x0 x1 x2 x3 x4 h => if (46 : Int32) ≤ x4 then (if x2 = 0 then ((gR h x0 4 2).bind fun v13 => (aI h v13 x1).bind fun v14 => (f_Mo_size_b94 G) v14 h) else (if x2 = (1 : Int32) then (cI (oC h x0 4) (f_Mo_nodesOf G x0 x1 h) fun v12 h9 => (f_Mo_size_b94 G) v12 h9) else ((f_Mo_size_b94 G) x3 h))) else (cI (oC h x0 4) (f_Mo_stands G x0 x1 x4 (2 : Int32) h) fun v18 h15 => if v18 = 0 then ((f_Mo_size_b59 G (f_Mo_size_b35 G F)) x0 x1 x2 x4 x3 (0 : Int32) h15) else ((f_Mo_size_b59 G (f_Mo_size_b35 G F)) x0 x1 x2 x4 x3 (1 : Int32) h15))
theorem f_Mo_size_b35_eq (G : Nat) (F : Nat) (x0 : Nat) (x1 : Int32) (x2 : Int32) (x3 : Int32) (x4 : Int32) (h : pH) : f_Mo_size_b35 G (F + 1) x0 x1 x2 x3 x4 h = (if (46 : Int32) ≤ x4 then (if x2 = 0 then ((gR h x0 4 2).bind fun v13 => (aI h v13 x1).bind fun v14 => (f_Mo_size_b94 G) v14 h) else (if x2 = (1 : Int32) then (cI (oC h x0 4) (f_Mo_nodesOf G x0 x1 h) fun v12 h9 => (f_Mo_size_b94 G) v12 h9) else ((f_Mo_size_b94 G) x3 h))) else (cI (oC h x0 4) (f_Mo_stands G x0 x1 x4 (2 : Int32) h) fun v18 h15 => if v18 = 0 then ((f_Mo_size_b59 G (f_Mo_size_b35 G F)) x0 x1 x2 x4 x3 (0 : Int32) h15) else ((f_Mo_size_b59 G (f_Mo_size_b35 G F)) x0 x1 x2 x4 x3 (1 : Int32) h15))) := rfl
def f_Mo_size_b21 (G : Nat) (k22 : Nat → Int32 → Int32 → Nat → Int32 → pH → Option pR) (x0 : Nat) (x1 : Int32) (x2 : Int32) (s0 : Nat) (h : pH) : Option pR := k22 x0 x1 x2 s0 (0 : Int32) h
theorem f_Mo_size_b21_eq (G : Nat) (k22 : Nat → Int32 → Int32 → Nat → Int32 → pH → Option pR) (x0 : Nat) (x1 : Int32) (x2 : Int32) (s0 : Nat) (h : pH) : f_Mo_size_b21 G k22 x0 x1 x2 s0 h = (k22 x0 x1 x2 s0 (0 : Int32) h) := rfl
def f_Mo_size_b22 (G : Nat) (x0 : Nat) (x1 : Int32) (x2 : Int32) (s0 : Nat) (s1 : Int32) (h : pH) : Option pR := cI (oC h s0 4) (f_Mo_there G s0 s1 h) fun v8 h5 => if v8 = 0 then (some (some (.int (0 : Int32)), h5)) else ((f_Mo_size_b35 G G) x0 x1 x2 (0 : Int32) (0 : Int32) h5)
theorem f_Mo_size_b22_eq (G : Nat) (x0 : Nat) (x1 : Int32) (x2 : Int32) (s0 : Nat) (s1 : Int32) (h : pH) : f_Mo_size_b22 G x0 x1 x2 s0 s1 h = (cI (oC h s0 4) (f_Mo_there G s0 s1 h) fun v8 h5 => if v8 = 0 then (some (some (.int (0 : Int32)), h5)) else ((f_Mo_size_b35 G G) x0 x1 x2 (0 : Int32) (0 : Int32) h5)) := rfl
def f_Mo_size (G : Nat) (x0 : Nat) (x1 : Int32) (x2 : Int32) (h : pH) : Option pR := cI true (f_Mo_isGraph G x1 h) fun v4 h1 => if v4 = 0 then ((f_Mo_size_b21 G (f_Mo_size_b22 G)) x0 x1 x2 x0 h1) else (if x2 < 0 then ((f_Mo_size_b21 G (f_Mo_size_b22 G)) x0 x1 x2 x0 h1) else (if (2 : Int32) < x2 then ((f_Mo_size_b21 G (f_Mo_size_b22 G)) x0 x1 x2 x0 h1) else ((f_Mo_size_b22 G) x0 x1 x2 x0 (1 : Int32) h1)))
theorem f_Mo_size_eq (G : Nat) (x0 : Nat) (x1 : Int32) (x2 : Int32) (h : pH) : f_Mo_size G x0 x1 x2 h = (cI true (f_Mo_isGraph G x1 h) fun v4 h1 => if v4 = 0 then ((f_Mo_size_b21 G (f_Mo_size_b22 G)) x0 x1 x2 x0 h1) else (if x2 < 0 then ((f_Mo_size_b21 G (f_Mo_size_b22 G)) x0 x1 x2 x0 h1) else (if (2 : Int32) < x2 then ((f_Mo_size_b21 G (f_Mo_size_b22 G)) x0 x1 x2 x0 h1) else ((f_Mo_size_b22 G) x0 x1 x2 x0 (1 : Int32) h1)))) := rfl
set_option maxRecDepth 100000 in
set_option maxHeartbeats 4000000 in
theorem w_Mo_size_b59 {X : zX} {r : pR} {G : Nat} {k35 : Nat → Int32 → Int32 → Int32 → Int32 → pH → Option pR} (hQ : zQ X r) (hk35 : ∀ (x0 : Nat) (x1 : Int32) (x2 : Int32) (x3 : Int32) (x4 : Int32) (h : pH), k35 x0 x1 x2 x3 x4 h = some r → Z X M_Mo_size 0 0 h 35 [(0, .ref x0), (1, .int x1), (2, .int x2), (3, .int x3), (4, .int x4)] []) : ∀ (x0 : Nat) (x1 : Int32) (x2 : Int32) (x4 : Int32) (s0 : Int32) (s1 : Int32) (h : pH), f_Mo_size_b59 G k35 x0 x1 x2 x4 s0 s1 h = some r → Z X M_Mo_size 0 0 h 59 [(0, .ref x0), (1, .int x1), (2, .int x2), (4, .int x4)] [.int s1, .int s0] := by
  intro x0 x1 x2 x4 s0 s1 h E
  rw [f_Mo_size_b59_eq] at E
  refine z_iadd d_Mo_size_59 ?_
  refine z_istore_n (lv2 := [(3, .int (s0 + s1)), (0, .ref x0), (1, .int x1), (2, .int x2), (4, .int x4)]) d_Mo_size_60 rfl (Nat.le_of_ble_eq_true rfl) rfl ?_
  refine z_iinc (v := (x4 + 1)) (lv2 := [(4, .int (x4 + 1)), (3, .int (s0 + s1)), (0, .ref x0), (1, .int x1), (2, .int x2)]) 4 d_Mo_size_61 rfl rfl (Nat.le_of_ble_eq_true rfl) rfl ?_
  refine z_goto (tgt := 35) d_Mo_size_64 (by decide) ?_
  refine z_lv [2, 3, 4, 1, 0] rfl ?_
  exact hk35 x0 x1 x2 (s0 + s1) (x4 + 1) h E
set_option maxRecDepth 100000 in
set_option maxHeartbeats 4000000 in
theorem w_Mo_size_b94 {X : zX} {r : pR} {G : Nat} (hQ : zQ X r) : ∀ (s0 : Int32) (h : pH), f_Mo_size_b94 G s0 h = some r → Z X M_Mo_size 0 0 h 94 [] [.int s0] := by
  intro s0 h E
  rw [f_Mo_size_b94_eq] at E
  exact z_ireturn hQ rfl z00 d_Mo_size_94 E
set_option maxRecDepth 100000 in
set_option maxHeartbeats 4000000 in
theorem w_Mo_size_b35 {X : zX} {r : pR} {G : Nat} (hQ : zQ X r) : ∀ (F : Nat) (x0 : Nat) (x1 : Int32) (x2 : Int32) (x3 : Int32) (x4 : Int32) (h : pH), f_Mo_size_b35 G F x0 x1 x2 x3 x4 h = some r → Z X M_Mo_size 0 0 h 35 [(0, .ref x0), (1, .int x1), (2, .int x2), (3, .int x3), (4, .int x4)] [] := by
  intro F
  induction F with
  | zero => intro x0 x1 x2 x3 x4 h E; exact nomatch (show (none : Option pR) = some _ from E)
  | succ F ih =>
    intro x0 x1 x2 x3 x4 h E
    rw [f_Mo_size_b35_eq] at E
    refine z_iload 4 d_Mo_size_35 rfl ?_
    refine z_bipush (v := (46 : Int32)) d_Mo_size_37 (by decide) ?_
    refine z_ic_ge (tgt := 67) d_Mo_size_39 (by decide) E (fun E => ?_) (fun E => ?_)
    · refine z_iload_n 2 d_Mo_size_67 rfl rfl ?_
      refine z_if_ne (y := 0) (tgt := 80) d_Mo_size_68 (by decide) E (fun E => ?_) (fun E => ?_)
      · refine z_iload_n 2 d_Mo_size_80 rfl rfl ?_
        refine z_iconst (v := (1 : Int32)) d_Mo_size_81 (by decide) ?_
        refine z_ic_ne (tgt := 93) d_Mo_size_82 (by decide) E (fun E => ?_) (fun E => ?_)
        · refine z_iload_n 3 d_Mo_size_93 rfl rfl ?_
          refine z_lv [] rfl ?_
          exact (w_Mo_size_b94 hQ) x3 h E
        · refine z_aload_n 0 d_Mo_size_85 rfl rfl ?_
          refine z_iload_n 1 d_Mo_size_86 rfl rfl ?_
          obtain ⟨g10, v12, h9, e11, E⟩ := cI_some E
          refine z_invV (ci := 4) (y := y_Mo_nodesOf) (Mc := M_Mo_nodesOf) (av := [.int x1]) (rest := []) rfl rfl ⟨zt_798, zt_800, zt_32, zt_52⟩ zk_Mo_nodesOf zy_Mo_nodesOf (by decide) (Nat.le_of_ble_eq_true rfl) z00 rfl (Nat.le_of_ble_eq_true rfl) d_Mo_size_87 g10 (m_Mo_nodesOf e11) ?_
          show Z X M_Mo_size 0 0 h9 90 [(0, .ref x0), (1, .int x1), (2, .int x2), (3, .int x3), (4, .int x4)] [.int v12]
          refine z_goto (tgt := 94) d_Mo_size_90 (by decide) ?_
          refine z_lv [] rfl ?_
          exact (w_Mo_size_b94 hQ) v12 h9 E
      · refine z_aload_n 0 d_Mo_size_71 rfl rfl ?_
        refine z_getR (ci := 4) (j := 2) rfl (by decide) zf_Mo_13 d_Mo_size_72 E (fun v13 _ E => ?_)
        refine z_iload_n 1 d_Mo_size_75 rfl rfl ?_
        refine z_iaload d_Mo_size_76 E (fun v14 _ E => ?_)
        refine z_goto (tgt := 94) d_Mo_size_77 (by decide) ?_
        refine z_lv [] rfl ?_
        exact (w_Mo_size_b94 hQ) v14 h E
    · refine z_iload_n 3 d_Mo_size_42 rfl rfl ?_
      refine z_aload_n 0 d_Mo_size_43 rfl rfl ?_
      refine z_iload_n 1 d_Mo_size_44 rfl rfl ?_
      refine z_iload 4 d_Mo_size_45 rfl ?_
      refine z_iconst (v := (2 : Int32)) d_Mo_size_47 (by decide) ?_
      obtain ⟨g16, v18, h15, e17, E⟩ := cI_some E
      refine z_invV (ci := 4) (y := y_Mo_stands) (Mc := M_Mo_stands) (av := [.int x1, .int x4, .int (2 : Int32)]) (rest := [.int x3]) rfl rfl ⟨zt_788, zt_790, zt_31, zt_52⟩ zk_Mo_stands zy_Mo_stands (by decide) (Nat.le_of_ble_eq_true rfl) z00 rfl (Nat.le_of_ble_eq_true rfl) d_Mo_size_48 g16 (m_Mo_stands e17) ?_
      show Z X M_Mo_size 0 0 h15 51 [(0, .ref x0), (1, .int x1), (2, .int x2), (3, .int x3), (4, .int x4)] [.int v18, .int x3]
      refine z_if_eq (y := 0) (tgt := 58) d_Mo_size_51 (by decide) E (fun E => ?_) (fun E => ?_)
      · refine z_iconst (v := (0 : Int32)) d_Mo_size_58 (by decide) ?_
        refine z_lv [0, 1, 2, 4] rfl ?_
        exact (w_Mo_size_b59 hQ ih) x0 x1 x2 x4 x3 (0 : Int32) h15 E
      · refine z_iconst (v := (1 : Int32)) d_Mo_size_54 (by decide) ?_
        refine z_goto (tgt := 59) d_Mo_size_55 (by decide) ?_
        refine z_lv [0, 1, 2, 4] rfl ?_
        exact (w_Mo_size_b59 hQ ih) x0 x1 x2 x4 x3 (1 : Int32) h15 E
set_option maxRecDepth 100000 in
set_option maxHeartbeats 4000000 in
theorem w_Mo_size_b21 {X : zX} {r : pR} {G : Nat} {k22 : Nat → Int32 → Int32 → Nat → Int32 → pH → Option pR} (hQ : zQ X r) (hk22 : ∀ (x0 : Nat) (x1 : Int32) (x2 : Int32) (s0 : Nat) (s1 : Int32) (h : pH), k22 x0 x1 x2 s0 s1 h = some r → Z X M_Mo_size 0 0 h 22 [(0, .ref x0), (1, .int x1), (2, .int x2)] [.int s1, .ref s0]) : ∀ (x0 : Nat) (x1 : Int32) (x2 : Int32) (s0 : Nat) (h : pH), f_Mo_size_b21 G k22 x0 x1 x2 s0 h = some r → Z X M_Mo_size 0 0 h 21 [(0, .ref x0), (1, .int x1), (2, .int x2)] [.ref s0] := by
  intro x0 x1 x2 s0 h E
  rw [f_Mo_size_b21_eq] at E
  refine z_iconst (v := (0 : Int32)) d_Mo_size_21 (by decide) ?_
  exact hk22 x0 x1 x2 s0 (0 : Int32) h E
set_option maxRecDepth 100000 in
set_option maxHeartbeats 4000000 in
theorem w_Mo_size_b22 {X : zX} {r : pR} {G : Nat} (hQ : zQ X r) : ∀ (x0 : Nat) (x1 : Int32) (x2 : Int32) (s0 : Nat) (s1 : Int32) (h : pH), f_Mo_size_b22 G x0 x1 x2 s0 s1 h = some r → Z X M_Mo_size 0 0 h 22 [(0, .ref x0), (1, .int x1), (2, .int x2)] [.int s1, .ref s0] := by
  intro x0 x1 x2 s0 s1 h E
  rw [f_Mo_size_b22_eq] at E
  obtain ⟨g6, v8, h5, e7, E⟩ := cI_some E
  refine z_invV (ci := 4) (y := y_Mo_there) (Mc := M_Mo_there) (av := [.int s1]) (rest := []) rfl rfl ⟨zt_780, zt_782, zt_30, zt_52⟩ zk_Mo_there zy_Mo_there (by decide) (Nat.le_of_ble_eq_true rfl) z00 rfl (Nat.le_of_ble_eq_true rfl) d_Mo_size_22 g6 (m_Mo_there e7) ?_
  show Z X M_Mo_size 0 0 h5 25 [(0, .ref x0), (1, .int x1), (2, .int x2)] [.int v8]
  refine z_if_ne (y := 0) (tgt := 30) d_Mo_size_25 (by decide) E (fun E => ?_) (fun E => ?_)
  · refine z_iconst (v := (0 : Int32)) d_Mo_size_30 (by decide) ?_
    refine z_istore_n (lv2 := [(3, .int (0 : Int32)), (0, .ref x0), (1, .int x1), (2, .int x2)]) d_Mo_size_31 rfl (Nat.le_of_ble_eq_true rfl) rfl ?_
    refine z_iconst (v := (0 : Int32)) d_Mo_size_32 (by decide) ?_
    refine z_istore (lv2 := [(4, .int (0 : Int32)), (3, .int (0 : Int32)), (0, .ref x0), (1, .int x1), (2, .int x2)]) d_Mo_size_33 (Nat.le_of_ble_eq_true rfl) rfl ?_
    refine z_lv [2, 3, 4, 1, 0] rfl ?_
    exact (w_Mo_size_b35 hQ G) x0 x1 x2 (0 : Int32) (0 : Int32) h5 E
  · refine z_iconst (v := (0 : Int32)) d_Mo_size_28 (by decide) ?_
    exact z_ireturn hQ rfl z00 d_Mo_size_29 E
set_option maxRecDepth 100000 in
set_option maxHeartbeats 4000000 in
theorem w_Mo_size_b0 {X : zX} {r : pR} {G : Nat} (hQ : zQ X r) : ∀ (x0 : Nat) (x1 : Int32) (x2 : Int32) (h : pH), f_Mo_size G x0 x1 x2 h = some r → Z X M_Mo_size 0 0 h 0 [(0, .ref x0), (1, .int x1), (2, .int x2)] [] := by
  intro x0 x1 x2 h E
  rw [f_Mo_size_eq] at E
  refine z_aload_n 0 d_Mo_size_0 rfl rfl ?_
  refine z_iload_n 1 d_Mo_size_1 rfl rfl ?_
  obtain ⟨g2, v4, h1, e3, E⟩ := cI_some E
  refine z_invS (y := y_Mo_isGraph) (Mc := M_Mo_isGraph) (av := [.int x1]) (rest := [.ref x0]) ⟨zt_750, zt_751, zt_52⟩ zk_Mo_isGraph zy_Mo_isGraph (by decide) (Nat.le_of_ble_eq_true rfl) z00 rfl (Nat.le_of_ble_eq_true rfl) d_Mo_size_2 (m_Mo_isGraph e3) ?_
  show Z X M_Mo_size 0 0 h1 5 [(0, .ref x0), (1, .int x1), (2, .int x2)] [.int v4, .ref x0]
  refine z_if_eq (y := 0) (tgt := 21) d_Mo_size_5 (by decide) E (fun E => ?_) (fun E => ?_)
  · exact (w_Mo_size_b21 hQ (w_Mo_size_b22 hQ)) x0 x1 x2 x0 h1 E
  · refine z_iload_n 2 d_Mo_size_8 rfl rfl ?_
    refine z_if_lt (y := 0) (tgt := 21) d_Mo_size_9 (by decide) E (fun E => ?_) (fun E => ?_)
    · exact (w_Mo_size_b21 hQ (w_Mo_size_b22 hQ)) x0 x1 x2 x0 h1 E
    · refine z_iload_n 2 d_Mo_size_12 rfl rfl ?_
      refine z_iconst (v := (2 : Int32)) d_Mo_size_13 (by decide) ?_
      refine z_ic_gt (tgt := 21) d_Mo_size_14 (by decide) E (fun E => ?_) (fun E => ?_)
      · exact (w_Mo_size_b21 hQ (w_Mo_size_b22 hQ)) x0 x1 x2 x0 h1 E
      · refine z_iconst (v := (1 : Int32)) d_Mo_size_17 (by decide) ?_
        refine z_goto (tgt := 22) d_Mo_size_18 (by decide) ?_
        exact (w_Mo_size_b22 hQ) x0 x1 x2 x0 (1 : Int32) h1 E
theorem m_Mo_size {l : Launch} {G : Nat} {x0 : Nat} {x1 : Int32} {x2 : Int32} {h : pH} {r : pR} (E : f_Mo_size G x0 x1 x2 h = some r) : zMet l y_Mo_size M_Mo_size 0 0 [.ref x0, .int x1, .int x2] h r :=
  zMet_of (by decide) rfl (Nat.le_of_ble_eq_true rfl) (fun p e s m args below meth c D0 cT => w_Mo_size_b0 (X := (p, l, e, s, m, args, below, meth, c, D0, cT, h, _, 0, 0)) rfl x0 x1 x2 h E)
def f_Mo_fact_b43 (G : Nat) (s0 : Int32) (h : pH) : Option pR := some (some (.int s0), h)
theorem f_Mo_fact_b43_eq (G : Nat) (s0 : Int32) (h : pH) : f_Mo_fact_b43 G s0 h = (some (some (.int s0), h)) := rfl
def f_Mo_fact_b26 (G : Nat) (k27 : Nat → Int32 → Int32 → Nat → Int32 → pH → Option pR) (x0 : Nat) (x1 : Int32) (x2 : Int32) (s0 : Nat) (h : pH) : Option pR := k27 x0 x1 x2 s0 (0 : Int32) h
theorem f_Mo_fact_b26_eq (G : Nat) (k27 : Nat → Int32 → Int32 → Nat → Int32 → pH → Option pR) (x0 : Nat) (x1 : Int32) (x2 : Int32) (s0 : Nat) (h : pH) : f_Mo_fact_b26 G k27 x0 x1 x2 s0 h = (k27 x0 x1 x2 s0 (0 : Int32) h) := rfl
def f_Mo_fact_b27 (G : Nat) (x0 : Nat) (x1 : Int32) (x2 : Int32) (s0 : Nat) (s1 : Int32) (h : pH) : Option pR := cI (oC h s0 4) (f_Mo_there G s0 s1 h) fun v10 h7 => if v10 = 0 then ((f_Mo_fact_b43 G) (0 : Int32) h7) else (cI (oC h7 x0 4) (f_Mo_numberOf G x0 x1 x2 h7) fun v14 h11 => (f_Mo_fact_b43 G) v14 h11)
theorem f_Mo_fact_b27_eq (G : Nat) (x0 : Nat) (x1 : Int32) (x2 : Int32) (s0 : Nat) (s1 : Int32) (h : pH) : f_Mo_fact_b27 G x0 x1 x2 s0 s1 h = (cI (oC h s0 4) (f_Mo_there G s0 s1 h) fun v10 h7 => if v10 = 0 then ((f_Mo_fact_b43 G) (0 : Int32) h7) else (cI (oC h7 x0 4) (f_Mo_numberOf G x0 x1 x2 h7) fun v14 h11 => (f_Mo_fact_b43 G) v14 h11)) := rfl
def f_Mo_fact (G : Nat) (x0 : Nat) (x1 : Int32) (x2 : Int32) (h : pH) : Option pR := cI true (f_Mo_isGraph G x1 h) fun v4 h1 => if v4 = 0 then ((f_Mo_fact_b26 G (f_Mo_fact_b27 G)) x0 x1 x2 x0 h1) else (if x2 < 0 then ((f_Mo_fact_b26 G (f_Mo_fact_b27 G)) x0 x1 x2 x0 h1) else ((gR h1 x0 4 2).bind fun v5 => (aI h1 v5 x1).bind fun v6 => if v6 ≤ x2 then ((f_Mo_fact_b26 G (f_Mo_fact_b27 G)) x0 x1 x2 x0 h1) else ((f_Mo_fact_b27 G) x0 x1 x2 x0 (1 : Int32) h1)))
theorem f_Mo_fact_eq (G : Nat) (x0 : Nat) (x1 : Int32) (x2 : Int32) (h : pH) : f_Mo_fact G x0 x1 x2 h = (cI true (f_Mo_isGraph G x1 h) fun v4 h1 => if v4 = 0 then ((f_Mo_fact_b26 G (f_Mo_fact_b27 G)) x0 x1 x2 x0 h1) else (if x2 < 0 then ((f_Mo_fact_b26 G (f_Mo_fact_b27 G)) x0 x1 x2 x0 h1) else ((gR h1 x0 4 2).bind fun v5 => (aI h1 v5 x1).bind fun v6 => if v6 ≤ x2 then ((f_Mo_fact_b26 G (f_Mo_fact_b27 G)) x0 x1 x2 x0 h1) else ((f_Mo_fact_b27 G) x0 x1 x2 x0 (1 : Int32) h1)))) := rfl
set_option maxRecDepth 100000 in
set_option maxHeartbeats 4000000 in
theorem w_Mo_fact_b43 {X : zX} {r : pR} {G : Nat} (hQ : zQ X r) : ∀ (s0 : Int32) (h : pH), f_Mo_fact_b43 G s0 h = some r → Z X M_Mo_fact 0 0 h 43 [] [.int s0] := by
  intro s0 h E
  rw [f_Mo_fact_b43_eq] at E
  exact z_ireturn hQ rfl z00 d_Mo_fact_43 E
set_option maxRecDepth 100000 in
set_option maxHeartbeats 4000000 in
theorem w_Mo_fact_b26 {X : zX} {r : pR} {G : Nat} {k27 : Nat → Int32 → Int32 → Nat → Int32 → pH → Option pR} (hQ : zQ X r) (hk27 : ∀ (x0 : Nat) (x1 : Int32) (x2 : Int32) (s0 : Nat) (s1 : Int32) (h : pH), k27 x0 x1 x2 s0 s1 h = some r → Z X M_Mo_fact 0 0 h 27 [(0, .ref x0), (1, .int x1), (2, .int x2)] [.int s1, .ref s0]) : ∀ (x0 : Nat) (x1 : Int32) (x2 : Int32) (s0 : Nat) (h : pH), f_Mo_fact_b26 G k27 x0 x1 x2 s0 h = some r → Z X M_Mo_fact 0 0 h 26 [(0, .ref x0), (1, .int x1), (2, .int x2)] [.ref s0] := by
  intro x0 x1 x2 s0 h E
  rw [f_Mo_fact_b26_eq] at E
  refine z_iconst (v := (0 : Int32)) d_Mo_fact_26 (by decide) ?_
  exact hk27 x0 x1 x2 s0 (0 : Int32) h E
set_option maxRecDepth 100000 in
set_option maxHeartbeats 4000000 in
theorem w_Mo_fact_b27 {X : zX} {r : pR} {G : Nat} (hQ : zQ X r) : ∀ (x0 : Nat) (x1 : Int32) (x2 : Int32) (s0 : Nat) (s1 : Int32) (h : pH), f_Mo_fact_b27 G x0 x1 x2 s0 s1 h = some r → Z X M_Mo_fact 0 0 h 27 [(0, .ref x0), (1, .int x1), (2, .int x2)] [.int s1, .ref s0] := by
  intro x0 x1 x2 s0 s1 h E
  rw [f_Mo_fact_b27_eq] at E
  obtain ⟨g8, v10, h7, e9, E⟩ := cI_some E
  refine z_invV (ci := 4) (y := y_Mo_there) (Mc := M_Mo_there) (av := [.int s1]) (rest := []) rfl rfl ⟨zt_780, zt_782, zt_30, zt_52⟩ zk_Mo_there zy_Mo_there (by decide) (Nat.le_of_ble_eq_true rfl) z00 rfl (Nat.le_of_ble_eq_true rfl) d_Mo_fact_27 g8 (m_Mo_there e9) ?_
  show Z X M_Mo_fact 0 0 h7 30 [(0, .ref x0), (1, .int x1), (2, .int x2)] [.int v10]
  refine z_if_eq (y := 0) (tgt := 42) d_Mo_fact_30 (by decide) E (fun E => ?_) (fun E => ?_)
  · refine z_iconst (v := (0 : Int32)) d_Mo_fact_42 (by decide) ?_
    refine z_lv [] rfl ?_
    exact (w_Mo_fact_b43 hQ) (0 : Int32) h7 E
  · refine z_aload_n 0 d_Mo_fact_33 rfl rfl ?_
    refine z_iload_n 1 d_Mo_fact_34 rfl rfl ?_
    refine z_iload_n 2 d_Mo_fact_35 rfl rfl ?_
    obtain ⟨g12, v14, h11, e13, E⟩ := cI_some E
    refine z_invV (ci := 4) (y := y_Mo_numberOf) (Mc := M_Mo_numberOf) (av := [.int x1, .int x2]) (rest := []) rfl rfl ⟨zt_760, zt_762, zt_27, zt_52⟩ zk_Mo_numberOf zy_Mo_numberOf (by decide) (Nat.le_of_ble_eq_true rfl) z00 rfl (Nat.le_of_ble_eq_true rfl) d_Mo_fact_36 g12 (m_Mo_numberOf e13) ?_
    show Z X M_Mo_fact 0 0 h11 39 [(0, .ref x0), (1, .int x1), (2, .int x2)] [.int v14]
    refine z_goto (tgt := 43) d_Mo_fact_39 (by decide) ?_
    refine z_lv [] rfl ?_
    exact (w_Mo_fact_b43 hQ) v14 h11 E
set_option maxRecDepth 100000 in
set_option maxHeartbeats 4000000 in
theorem w_Mo_fact_b0 {X : zX} {r : pR} {G : Nat} (hQ : zQ X r) : ∀ (x0 : Nat) (x1 : Int32) (x2 : Int32) (h : pH), f_Mo_fact G x0 x1 x2 h = some r → Z X M_Mo_fact 0 0 h 0 [(0, .ref x0), (1, .int x1), (2, .int x2)] [] := by
  intro x0 x1 x2 h E
  rw [f_Mo_fact_eq] at E
  refine z_aload_n 0 d_Mo_fact_0 rfl rfl ?_
  refine z_iload_n 1 d_Mo_fact_1 rfl rfl ?_
  obtain ⟨g2, v4, h1, e3, E⟩ := cI_some E
  refine z_invS (y := y_Mo_isGraph) (Mc := M_Mo_isGraph) (av := [.int x1]) (rest := [.ref x0]) ⟨zt_750, zt_751, zt_52⟩ zk_Mo_isGraph zy_Mo_isGraph (by decide) (Nat.le_of_ble_eq_true rfl) z00 rfl (Nat.le_of_ble_eq_true rfl) d_Mo_fact_2 (m_Mo_isGraph e3) ?_
  show Z X M_Mo_fact 0 0 h1 5 [(0, .ref x0), (1, .int x1), (2, .int x2)] [.int v4, .ref x0]
  refine z_if_eq (y := 0) (tgt := 26) d_Mo_fact_5 (by decide) E (fun E => ?_) (fun E => ?_)
  · exact (w_Mo_fact_b26 hQ (w_Mo_fact_b27 hQ)) x0 x1 x2 x0 h1 E
  · refine z_iload_n 2 d_Mo_fact_8 rfl rfl ?_
    refine z_if_lt (y := 0) (tgt := 26) d_Mo_fact_9 (by decide) E (fun E => ?_) (fun E => ?_)
    · exact (w_Mo_fact_b26 hQ (w_Mo_fact_b27 hQ)) x0 x1 x2 x0 h1 E
    · refine z_iload_n 2 d_Mo_fact_12 rfl rfl ?_
      refine z_aload_n 0 d_Mo_fact_13 rfl rfl ?_
      refine z_getR (ci := 4) (j := 2) rfl (by decide) zf_Mo_13 d_Mo_fact_14 E (fun v5 _ E => ?_)
      refine z_iload_n 1 d_Mo_fact_17 rfl rfl ?_
      refine z_iaload d_Mo_fact_18 E (fun v6 _ E => ?_)
      refine z_ic_ge (tgt := 26) d_Mo_fact_19 (by decide) E (fun E => ?_) (fun E => ?_)
      · exact (w_Mo_fact_b26 hQ (w_Mo_fact_b27 hQ)) x0 x1 x2 x0 h1 E
      · refine z_iconst (v := (1 : Int32)) d_Mo_fact_22 (by decide) ?_
        refine z_goto (tgt := 27) d_Mo_fact_23 (by decide) ?_
        exact (w_Mo_fact_b27 hQ) x0 x1 x2 x0 (1 : Int32) h1 E
theorem m_Mo_fact {l : Launch} {G : Nat} {x0 : Nat} {x1 : Int32} {x2 : Int32} {h : pH} {r : pR} (E : f_Mo_fact G x0 x1 x2 h = some r) : zMet l y_Mo_fact M_Mo_fact 0 0 [.ref x0, .int x1, .int x2] h r :=
  zMet_of (by decide) rfl (Nat.le_of_ble_eq_true rfl) (fun p e s m args below meth c D0 cT => w_Mo_fact_b0 (X := (p, l, e, s, m, args, below, meth, c, D0, cT, h, _, 0, 0)) rfl x0 x1 x2 h E)
def f_Mo_indexOf_b2 (G : Nat) : Nat → Nat → Int32 → Int32 → pH → Option pR
  | 0 => fun _ _ _ _ => none
  | F + 1 => fun x0 x1 x2 h => (gI h x0 4 7).bind fun v1 => if v1 ≤ x2 then (some (some (.int (-1 : Int32)), h)) else ((gR h x0 4 6).bind fun v2 => (aI h v2 x2).bind fun v3 => if v3 = x1 then (some (some (.int x2), h)) else ((f_Mo_indexOf_b2 G F) x0 x1 (x2 + 1) h))
theorem f_Mo_indexOf_b2_eq (G : Nat) (F : Nat) (x0 : Nat) (x1 : Int32) (x2 : Int32) (h : pH) : f_Mo_indexOf_b2 G (F + 1) x0 x1 x2 h = ((gI h x0 4 7).bind fun v1 => if v1 ≤ x2 then (some (some (.int (-1 : Int32)), h)) else ((gR h x0 4 6).bind fun v2 => (aI h v2 x2).bind fun v3 => if v3 = x1 then (some (some (.int x2), h)) else ((f_Mo_indexOf_b2 G F) x0 x1 (x2 + 1) h))) := rfl
def f_Mo_indexOf (G : Nat) (x0 : Nat) (x1 : Int32) (h : pH) : Option pR := (f_Mo_indexOf_b2 G G) x0 x1 (0 : Int32) h
theorem f_Mo_indexOf_eq (G : Nat) (x0 : Nat) (x1 : Int32) (h : pH) : f_Mo_indexOf G x0 x1 h = ((f_Mo_indexOf_b2 G G) x0 x1 (0 : Int32) h) := rfl
set_option maxRecDepth 100000 in
set_option maxHeartbeats 4000000 in
theorem w_Mo_indexOf_b2 {X : zX} {r : pR} {G : Nat} (hQ : zQ X r) : ∀ (F : Nat) (x0 : Nat) (x1 : Int32) (x2 : Int32) (h : pH), f_Mo_indexOf_b2 G F x0 x1 x2 h = some r → Z X M_Mo_indexOf 0 0 h 2 [(0, .ref x0), (1, .int x1), (2, .int x2)] [] := by
  intro F
  induction F with
  | zero => intro x0 x1 x2 h E; exact nomatch (show (none : Option pR) = some _ from E)
  | succ F ih =>
    intro x0 x1 x2 h E
    rw [f_Mo_indexOf_b2_eq] at E
    refine z_iload_n 2 d_Mo_indexOf_2 rfl rfl ?_
    refine z_aload_n 0 d_Mo_indexOf_3 rfl rfl ?_
    refine z_getI (ci := 4) (j := 7) rfl (by decide) zf_Mo_98 d_Mo_indexOf_4 E (fun v1 _ E => ?_)
    refine z_ic_ge (tgt := 28) d_Mo_indexOf_7 (by decide) E (fun E => ?_) (fun E => ?_)
    · refine z_iconst (v := (-1 : Int32)) d_Mo_indexOf_28 (by decide) ?_
      exact z_ireturn hQ rfl z00 d_Mo_indexOf_29 E
    · refine z_aload_n 0 d_Mo_indexOf_10 rfl rfl ?_
      refine z_getR (ci := 4) (j := 6) rfl (by decide) zf_Mo_22 d_Mo_indexOf_11 E (fun v2 _ E => ?_)
      refine z_iload_n 2 d_Mo_indexOf_14 rfl rfl ?_
      refine z_iaload d_Mo_indexOf_15 E (fun v3 _ E => ?_)
      refine z_iload_n 1 d_Mo_indexOf_16 rfl rfl ?_
      refine z_ic_ne (tgt := 22) d_Mo_indexOf_17 (by decide) E (fun E => ?_) (fun E => ?_)
      · refine z_iinc (v := (x2 + 1)) (lv2 := [(2, .int (x2 + 1)), (0, .ref x0), (1, .int x1)]) 2 d_Mo_indexOf_22 rfl rfl (Nat.le_of_ble_eq_true rfl) rfl ?_
        refine z_goto (tgt := 2) d_Mo_indexOf_25 (by decide) ?_
        refine z_lv [1, 2, 0] rfl ?_
        exact ih x0 x1 (x2 + 1) h E
      · refine z_iload_n 2 d_Mo_indexOf_20 rfl rfl ?_
        exact z_ireturn hQ rfl z00 d_Mo_indexOf_21 E
set_option maxRecDepth 100000 in
set_option maxHeartbeats 4000000 in
theorem w_Mo_indexOf_b0 {X : zX} {r : pR} {G : Nat} (hQ : zQ X r) : ∀ (x0 : Nat) (x1 : Int32) (h : pH), f_Mo_indexOf G x0 x1 h = some r → Z X M_Mo_indexOf 0 0 h 0 [(0, .ref x0), (1, .int x1)] [] := by
  intro x0 x1 h E
  rw [f_Mo_indexOf_eq] at E
  refine z_iconst (v := (0 : Int32)) d_Mo_indexOf_0 (by decide) ?_
  refine z_istore_n (lv2 := [(2, .int (0 : Int32)), (0, .ref x0), (1, .int x1)]) d_Mo_indexOf_1 rfl (Nat.le_of_ble_eq_true rfl) rfl ?_
  refine z_lv [1, 2, 0] rfl ?_
  exact (w_Mo_indexOf_b2 hQ G) x0 x1 (0 : Int32) h E
theorem m_Mo_indexOf {l : Launch} {G : Nat} {x0 : Nat} {x1 : Int32} {h : pH} {r : pR} (E : f_Mo_indexOf G x0 x1 h = some r) : zMet l y_Mo_indexOf M_Mo_indexOf 0 0 [.ref x0, .int x1] h r :=
  zMet_of (by decide) rfl (Nat.le_of_ble_eq_true rfl) (fun p e s m args below meth c D0 cT => w_Mo_indexOf_b0 (X := (p, l, e, s, m, args, below, meth, c, D0, cT, h, _, 0, 0)) rfl x0 x1 h E)
def f_Mo_putFor_b20 (G : Nat) (s0 : Int32) (h : pH) : Option pR := some (some (.int s0), h)
theorem f_Mo_putFor_b20_eq (G : Nat) (s0 : Int32) (h : pH) : f_Mo_putFor_b20 G s0 h = (some (some (.int s0), h)) := rfl
def f_Mo_putFor (G : Nat) (x0 : Nat) (x1 : Int32) (h : pH) : Option pR := cI (oC h x0 4) (f_Mo_indexOf G x0 x1 h) fun v4 h1 => if 0 ≤ v4 then ((gR h1 x0 4 11).bind fun v5 => (aI h1 v5 v4).bind fun v6 => (f_Mo_putFor_b20 G) v6 h1) else ((f_Mo_putFor_b20 G) x1 h1)
theorem f_Mo_putFor_eq (G : Nat) (x0 : Nat) (x1 : Int32) (h : pH) : f_Mo_putFor G x0 x1 h = (cI (oC h x0 4) (f_Mo_indexOf G x0 x1 h) fun v4 h1 => if 0 ≤ v4 then ((gR h1 x0 4 11).bind fun v5 => (aI h1 v5 v4).bind fun v6 => (f_Mo_putFor_b20 G) v6 h1) else ((f_Mo_putFor_b20 G) x1 h1)) := rfl
set_option maxRecDepth 100000 in
set_option maxHeartbeats 4000000 in
theorem w_Mo_putFor_b20 {X : zX} {r : pR} {G : Nat} (hQ : zQ X r) : ∀ (s0 : Int32) (h : pH), f_Mo_putFor_b20 G s0 h = some r → Z X M_Mo_putFor 0 0 h 20 [] [.int s0] := by
  intro s0 h E
  rw [f_Mo_putFor_b20_eq] at E
  exact z_ireturn hQ rfl z00 d_Mo_putFor_20 E
set_option maxRecDepth 100000 in
set_option maxHeartbeats 4000000 in
theorem w_Mo_putFor_b0 {X : zX} {r : pR} {G : Nat} (hQ : zQ X r) : ∀ (x0 : Nat) (x1 : Int32) (h : pH), f_Mo_putFor G x0 x1 h = some r → Z X M_Mo_putFor 0 0 h 0 [(0, .ref x0), (1, .int x1)] [] := by
  intro x0 x1 h E
  rw [f_Mo_putFor_eq] at E
  refine z_aload_n 0 d_Mo_putFor_0 rfl rfl ?_
  refine z_iload_n 1 d_Mo_putFor_1 rfl rfl ?_
  obtain ⟨g2, v4, h1, e3, E⟩ := cI_some E
  refine z_invV (ci := 4) (y := y_Mo_indexOf) (Mc := M_Mo_indexOf) (av := [.int x1]) (rest := []) rfl rfl ⟨zt_826, zt_828, zt_37, zt_52⟩ zk_Mo_indexOf zy_Mo_indexOf (by decide) (Nat.le_of_ble_eq_true rfl) z00 rfl (Nat.le_of_ble_eq_true rfl) d_Mo_putFor_2 g2 (m_Mo_indexOf e3) ?_
  show Z X M_Mo_putFor 0 0 h1 5 [(0, .ref x0), (1, .int x1)] [.int v4]
  refine z_istore_n (lv2 := [(2, .int v4), (0, .ref x0), (1, .int x1)]) d_Mo_putFor_5 rfl (Nat.le_of_ble_eq_true rfl) rfl ?_
  refine z_iload_n 0 d_Mo_putFor_6 rfl rfl ?_
  refine z_if_ge (y := 0) (tgt := 14) d_Mo_putFor_7 (by decide) E (fun E => ?_) (fun E => ?_)
  · refine z_aload_n 1 d_Mo_putFor_14 rfl rfl ?_
    refine z_getR (ci := 4) (j := 11) rfl (by decide) zf_Mo_31 d_Mo_putFor_15 E (fun v5 _ E => ?_)
    refine z_iload_n 0 d_Mo_putFor_18 rfl rfl ?_
    refine z_iaload d_Mo_putFor_19 E (fun v6 _ E => ?_)
    refine z_lv [] rfl ?_
    exact (w_Mo_putFor_b20 hQ) v6 h1 E
  · refine z_iload_n 2 d_Mo_putFor_10 rfl rfl ?_
    refine z_goto (tgt := 20) d_Mo_putFor_11 (by decide) ?_
    refine z_lv [] rfl ?_
    exact (w_Mo_putFor_b20 hQ) x1 h1 E
theorem m_Mo_putFor {l : Launch} {G : Nat} {x0 : Nat} {x1 : Int32} {h : pH} {r : pR} (E : f_Mo_putFor G x0 x1 h = some r) : zMet l y_Mo_putFor M_Mo_putFor 0 0 [.ref x0, .int x1] h r :=
  zMet_of (by decide) rfl (Nat.le_of_ble_eq_true rfl) (fun p e s m args below meth c D0 cT => w_Mo_putFor_b0 (X := (p, l, e, s, m, args, below, meth, c, D0, cT, h, _, 0, 0)) rfl x0 x1 h E)
def f_Mo_imageOf (G : Nat) (x0 : Nat) (x1 : Int32) (h : pH) : Option pR := cI true (f_Mo_subject G x1 h) fun v4 h1 => cI (oC h1 x0 4) (f_Mo_putFor G x0 v4 h1) fun v8 h5 => (if (64 : Int32) = 0 then none else (if (64 : Int32) = 0 then none else cI true (f_Mo_object G x1 h5) fun v12 h9 => cI (oC h9 x0 4) (f_Mo_putFor G x0 v12 h9) fun v16 h13 => cI true (f_Mo_numbered G v8 ((x1 / (64 : Int32)) - (x1 / (64 : Int32)) / (64 : Int32) * (64 : Int32)) v16 h13) fun v20 h17 => some (some (.int v20), h17)))
theorem f_Mo_imageOf_eq (G : Nat) (x0 : Nat) (x1 : Int32) (h : pH) : f_Mo_imageOf G x0 x1 h = (cI true (f_Mo_subject G x1 h) fun v4 h1 => cI (oC h1 x0 4) (f_Mo_putFor G x0 v4 h1) fun v8 h5 => (if (64 : Int32) = 0 then none else (if (64 : Int32) = 0 then none else cI true (f_Mo_object G x1 h5) fun v12 h9 => cI (oC h9 x0 4) (f_Mo_putFor G x0 v12 h9) fun v16 h13 => cI true (f_Mo_numbered G v8 ((x1 / (64 : Int32)) - (x1 / (64 : Int32)) / (64 : Int32) * (64 : Int32)) v16 h13) fun v20 h17 => some (some (.int v20), h17)))) := rfl
set_option maxRecDepth 100000 in
set_option maxHeartbeats 4000000 in
theorem w_Mo_imageOf_b0 {X : zX} {r : pR} {G : Nat} (hQ : zQ X r) : ∀ (x0 : Nat) (x1 : Int32) (h : pH), f_Mo_imageOf G x0 x1 h = some r → Z X M_Mo_imageOf 0 0 h 0 [(0, .ref x0), (1, .int x1)] [] := by
  intro x0 x1 h E
  rw [f_Mo_imageOf_eq] at E
  refine z_aload_n 0 d_Mo_imageOf_0 rfl rfl ?_
  refine z_iload_n 1 d_Mo_imageOf_1 rfl rfl ?_
  obtain ⟨g2, v4, h1, e3, E⟩ := cI_some E
  refine z_invS (y := y_Mo_subject) (Mc := M_Mo_subject) (av := [.int x1]) (rest := [.ref x0]) ⟨zt_792, zt_793, zt_52⟩ zk_Mo_subject zy_Mo_subject (by decide) (Nat.le_of_ble_eq_true rfl) z00 rfl (Nat.le_of_ble_eq_true rfl) d_Mo_imageOf_2 (m_Mo_subject e3) ?_
  show Z X M_Mo_imageOf 0 0 h1 5 [(0, .ref x0), (1, .int x1)] [.int v4, .ref x0]
  obtain ⟨g6, v8, h5, e7, E⟩ := cI_some E
  refine z_invV (ci := 4) (y := y_Mo_putFor) (Mc := M_Mo_putFor) (av := [.int v4]) (rest := []) rfl rfl ⟨zt_834, zt_836, zt_39, zt_52⟩ zk_Mo_putFor zy_Mo_putFor (by decide) (Nat.le_of_ble_eq_true rfl) z00 rfl (Nat.le_of_ble_eq_true rfl) d_Mo_imageOf_5 g6 (m_Mo_putFor e7) ?_
  show Z X M_Mo_imageOf 0 0 h5 8 [(0, .ref x0), (1, .int x1)] [.int v8]
  refine z_iload_n 1 d_Mo_imageOf_8 rfl rfl ?_
  refine z_bipush (v := (64 : Int32)) d_Mo_imageOf_9 (by decide) ?_
  refine z_idiv d_Mo_imageOf_11 E (fun E => ?_)
  refine z_bipush (v := (64 : Int32)) d_Mo_imageOf_12 (by decide) ?_
  refine z_irem d_Mo_imageOf_14 E (fun E => ?_)
  refine z_aload_n 0 d_Mo_imageOf_15 rfl rfl ?_
  refine z_iload_n 1 d_Mo_imageOf_16 rfl rfl ?_
  obtain ⟨g10, v12, h9, e11, E⟩ := cI_some E
  refine z_invS (y := y_Mo_object) (Mc := M_Mo_object) (av := [.int x1]) (rest := [.ref x0, .int ((x1 / (64 : Int32)) - (x1 / (64 : Int32)) / (64 : Int32) * (64 : Int32)), .int v8]) ⟨zt_795, zt_796, zt_52⟩ zk_Mo_object zy_Mo_object (by decide) (Nat.le_of_ble_eq_true rfl) z00 rfl (Nat.le_of_ble_eq_true rfl) d_Mo_imageOf_17 (m_Mo_object e11) ?_
  show Z X M_Mo_imageOf 0 0 h9 20 [(0, .ref x0), (1, .int x1)] [.int v12, .ref x0, .int ((x1 / (64 : Int32)) - (x1 / (64 : Int32)) / (64 : Int32) * (64 : Int32)), .int v8]
  obtain ⟨g14, v16, h13, e15, E⟩ := cI_some E
  refine z_invV (ci := 4) (y := y_Mo_putFor) (Mc := M_Mo_putFor) (av := [.int v12]) (rest := [.int ((x1 / (64 : Int32)) - (x1 / (64 : Int32)) / (64 : Int32) * (64 : Int32)), .int v8]) rfl rfl ⟨zt_834, zt_836, zt_39, zt_52⟩ zk_Mo_putFor zy_Mo_putFor (by decide) (Nat.le_of_ble_eq_true rfl) z00 rfl (Nat.le_of_ble_eq_true rfl) d_Mo_imageOf_20 g14 (m_Mo_putFor e15) ?_
  show Z X M_Mo_imageOf 0 0 h13 23 [(0, .ref x0), (1, .int x1)] [.int v16, .int ((x1 / (64 : Int32)) - (x1 / (64 : Int32)) / (64 : Int32) * (64 : Int32)), .int v8]
  obtain ⟨g18, v20, h17, e19, E⟩ := cI_some E
  refine z_invS (y := y_Mo_numbered) (Mc := M_Mo_numbered) (av := [.int v8, .int ((x1 / (64 : Int32)) - (x1 / (64 : Int32)) / (64 : Int32) * (64 : Int32)), .int v16]) (rest := []) ⟨zt_753, zt_754, zt_52⟩ zk_Mo_numbered zy_Mo_numbered (by decide) (Nat.le_of_ble_eq_true rfl) z00 rfl (Nat.le_of_ble_eq_true rfl) d_Mo_imageOf_23 (m_Mo_numbered e19) ?_
  show Z X M_Mo_imageOf 0 0 h17 26 [(0, .ref x0), (1, .int x1)] [.int v20]
  exact z_ireturn hQ rfl z00 d_Mo_imageOf_26 E
theorem m_Mo_imageOf {l : Launch} {G : Nat} {x0 : Nat} {x1 : Int32} {h : pH} {r : pR} (E : f_Mo_imageOf G x0 x1 h = some r) : zMet l y_Mo_imageOf M_Mo_imageOf 0 0 [.ref x0, .int x1] h r :=
  zMet_of (by decide) rfl (Nat.le_of_ble_eq_true rfl) (fun p e s m args below meth c D0 cT => w_Mo_imageOf_b0 (X := (p, l, e, s, m, args, below, meth, c, D0, cT, h, _, 0, 0)) rfl x0 x1 h E)
def f_Mo_lastNode_b28 (G : Nat) (s0 : Int32) (h : pH) : Option pR := some (some (.int s0), h)
theorem f_Mo_lastNode_b28_eq (G : Nat) (s0 : Int32) (h : pH) : f_Mo_lastNode_b28 G s0 h = (some (some (.int s0), h)) := rfl
def f_Mo_lastNode (G : Nat) (x0 : Nat) (x1 : Int32) (h : pH) : Option pR := cI true (f_Mo_subject G x1 h) fun v4 h1 => cI (oC h1 x0 4) (f_Mo_indexOf G x0 v4 h1) fun v8 h5 => cI true (f_Mo_object G x1 h5) fun v12 h9 => cI (oC h9 x0 4) (f_Mo_indexOf G x0 v12 h9) fun v16 h13 => if v8 ≤ v16 then ((f_Mo_lastNode_b28 G) v16 h13) else ((f_Mo_lastNode_b28 G) v8 h13)
theorem f_Mo_lastNode_eq (G : Nat) (x0 : Nat) (x1 : Int32) (h : pH) : f_Mo_lastNode G x0 x1 h = (cI true (f_Mo_subject G x1 h) fun v4 h1 => cI (oC h1 x0 4) (f_Mo_indexOf G x0 v4 h1) fun v8 h5 => cI true (f_Mo_object G x1 h5) fun v12 h9 => cI (oC h9 x0 4) (f_Mo_indexOf G x0 v12 h9) fun v16 h13 => if v8 ≤ v16 then ((f_Mo_lastNode_b28 G) v16 h13) else ((f_Mo_lastNode_b28 G) v8 h13)) := rfl
set_option maxRecDepth 100000 in
set_option maxHeartbeats 4000000 in
theorem w_Mo_lastNode_b28 {X : zX} {r : pR} {G : Nat} (hQ : zQ X r) : ∀ (s0 : Int32) (h : pH), f_Mo_lastNode_b28 G s0 h = some r → Z X M_Mo_lastNode 0 0 h 28 [] [.int s0] := by
  intro s0 h E
  rw [f_Mo_lastNode_b28_eq] at E
  exact z_ireturn hQ rfl z00 d_Mo_lastNode_28 E
set_option maxRecDepth 100000 in
set_option maxHeartbeats 4000000 in
theorem w_Mo_lastNode_b0 {X : zX} {r : pR} {G : Nat} (hQ : zQ X r) : ∀ (x0 : Nat) (x1 : Int32) (h : pH), f_Mo_lastNode G x0 x1 h = some r → Z X M_Mo_lastNode 0 0 h 0 [(0, .ref x0), (1, .int x1)] [] := by
  intro x0 x1 h E
  rw [f_Mo_lastNode_eq] at E
  refine z_aload_n 0 d_Mo_lastNode_0 rfl rfl ?_
  refine z_iload_n 1 d_Mo_lastNode_1 rfl rfl ?_
  obtain ⟨g2, v4, h1, e3, E⟩ := cI_some E
  refine z_invS (y := y_Mo_subject) (Mc := M_Mo_subject) (av := [.int x1]) (rest := [.ref x0]) ⟨zt_792, zt_793, zt_52⟩ zk_Mo_subject zy_Mo_subject (by decide) (Nat.le_of_ble_eq_true rfl) z00 rfl (Nat.le_of_ble_eq_true rfl) d_Mo_lastNode_2 (m_Mo_subject e3) ?_
  show Z X M_Mo_lastNode 0 0 h1 5 [(0, .ref x0), (1, .int x1)] [.int v4, .ref x0]
  obtain ⟨g6, v8, h5, e7, E⟩ := cI_some E
  refine z_invV (ci := 4) (y := y_Mo_indexOf) (Mc := M_Mo_indexOf) (av := [.int v4]) (rest := []) rfl rfl ⟨zt_826, zt_828, zt_37, zt_52⟩ zk_Mo_indexOf zy_Mo_indexOf (by decide) (Nat.le_of_ble_eq_true rfl) z00 rfl (Nat.le_of_ble_eq_true rfl) d_Mo_lastNode_5 g6 (m_Mo_indexOf e7) ?_
  show Z X M_Mo_lastNode 0 0 h5 8 [(0, .ref x0), (1, .int x1)] [.int v8]
  refine z_istore_n (lv2 := [(2, .int v8), (0, .ref x0), (1, .int x1)]) d_Mo_lastNode_8 rfl (Nat.le_of_ble_eq_true rfl) rfl ?_
  refine z_aload_n 1 d_Mo_lastNode_9 rfl rfl ?_
  refine z_iload_n 2 d_Mo_lastNode_10 rfl rfl ?_
  obtain ⟨g10, v12, h9, e11, E⟩ := cI_some E
  refine z_invS (y := y_Mo_object) (Mc := M_Mo_object) (av := [.int x1]) (rest := [.ref x0]) ⟨zt_795, zt_796, zt_52⟩ zk_Mo_object zy_Mo_object (by decide) (Nat.le_of_ble_eq_true rfl) z00 rfl (Nat.le_of_ble_eq_true rfl) d_Mo_lastNode_11 (m_Mo_object e11) ?_
  show Z X M_Mo_lastNode 0 0 h9 14 [(2, .int v8), (0, .ref x0), (1, .int x1)] [.int v12, .ref x0]
  obtain ⟨g14, v16, h13, e15, E⟩ := cI_some E
  refine z_invV (ci := 4) (y := y_Mo_indexOf) (Mc := M_Mo_indexOf) (av := [.int v12]) (rest := []) rfl rfl ⟨zt_826, zt_828, zt_37, zt_52⟩ zk_Mo_indexOf zy_Mo_indexOf (by decide) (Nat.le_of_ble_eq_true rfl) z00 rfl (Nat.le_of_ble_eq_true rfl) d_Mo_lastNode_14 g14 (m_Mo_indexOf e15) ?_
  show Z X M_Mo_lastNode 0 0 h13 17 [(2, .int v8), (0, .ref x0), (1, .int x1)] [.int v16]
  refine z_istore_n (lv2 := [(3, .int v16), (2, .int v8), (0, .ref x0), (1, .int x1)]) d_Mo_lastNode_17 rfl (Nat.le_of_ble_eq_true rfl) rfl ?_
  refine z_iload_n 1 d_Mo_lastNode_18 rfl rfl ?_
  refine z_iload_n 0 d_Mo_lastNode_19 rfl rfl ?_
  refine z_ic_le (tgt := 27) d_Mo_lastNode_20 (by decide) E (fun E => ?_) (fun E => ?_)
  · refine z_iload_n 0 d_Mo_lastNode_27 rfl rfl ?_
    refine z_lv [] rfl ?_
    exact (w_Mo_lastNode_b28 hQ) v16 h13 E
  · refine z_iload_n 1 d_Mo_lastNode_23 rfl rfl ?_
    refine z_goto (tgt := 28) d_Mo_lastNode_24 (by decide) ?_
    refine z_lv [] rfl ?_
    exact (w_Mo_lastNode_b28 hQ) v8 h13 E
theorem m_Mo_lastNode {l : Launch} {G : Nat} {x0 : Nat} {x1 : Int32} {h : pH} {r : pR} (E : f_Mo_lastNode G x0 x1 h = some r) : zMet l y_Mo_lastNode M_Mo_lastNode 0 0 [.ref x0, .int x1] h r :=
  zMet_of (by decide) rfl (Nat.le_of_ble_eq_true rfl) (fun p e s m args below meth c D0 cT => w_Mo_lastNode_b0 (X := (p, l, e, s, m, args, below, meth, c, D0, cT, h, _, 0, 0)) rfl x0 x1 h E)
def f_Mo_areThere_b55 (G : Nat) (k60 : Nat → Int32 → Int32 → Int32 → Int32 → Int32 → pH → Option pR) (x0 : Nat) (x1 : Int32) (x2 : Int32) (x3 : Int32) (x5 : Int32) (h : pH) : Option pR := k60 x0 x1 x2 x3 x5 (1 : Int32) h
theorem f_Mo_areThere_b55_eq (G : Nat) (k60 : Nat → Int32 → Int32 → Int32 → Int32 → Int32 → pH → Option pR) (x0 : Nat) (x1 : Int32) (x2 : Int32) (x3 : Int32) (x5 : Int32) (h : pH) : f_Mo_areThere_b55 G k60 x0 x1 x2 x3 x5 h = (k60 x0 x1 x2 x3 x5 (1 : Int32) h) := rfl
def f_Mo_areThere_b60 (G : Nat) (k6 : Nat → Int32 → Int32 → Int32 → Int32 → Int32 → pH → Option pR) (x0 : Nat) (x1 : Int32) (x2 : Int32) (x3 : Int32) (x5 : Int32) (s0 : Int32) (h : pH) : Option pR := k6 x0 x1 x2 x3 s0 (x5 + 1) h
theorem f_Mo_areThere_b60_eq (G : Nat) (k6 : Nat → Int32 → Int32 → Int32 → Int32 → Int32 → pH → Option pR) (x0 : Nat) (x1 : Int32) (x2 : Int32) (x3 : Int32) (x5 : Int32) (s0 : Int32) (h : pH) : f_Mo_areThere_b60 G k6 x0 x1 x2 x3 x5 s0 h = (k6 x0 x1 x2 x3 s0 (x5 + 1) h) := rfl
def f_Mo_areThere_b68 (G : Nat) (x4 : Int32) (h : pH) : Option pR := (if isZ x4 = true then some (some (.int x4), h) else none)
theorem f_Mo_areThere_b68_eq (G : Nat) (x4 : Int32) (h : pH) : f_Mo_areThere_b68 G x4 h = ((if isZ x4 = true then some (some (.int x4), h) else none)) := rfl
def f_Mo_areThere_b6 (G : Nat) : Nat → Nat → Int32 → Int32 → Int32 → Int32 → Int32 → pH → Option pR
  | 0 => fun _ _ _ _ _ _ _ => none
  | F + 1 => fun x0 x1 x2 x3 x4 x5 h => (gR h x0 4 2).bind fun v1 => (aI h v1 x1).bind fun v2 => if v2 ≤ x5 then ((f_Mo_areThere_b68 G) x4 h) else (if x4 = 0 then ((f_Mo_areThere_b68 G) x4 h) else (cI (oC h x0 4) (f_Mo_numberOf G x0 x1 x5 h) fun v6 h3 => cI (oC h3 x0 4) (f_Mo_lastNode G x0 v6 h3) fun v10 h7 => if v10 = x2 then (cI (oC h7 x0 4) (f_Mo_imageOf G x0 v6 h7) fun v14 h11 => cI (oC h11 x0 4) (f_Mo_has G x0 x3 v14 h11) fun v18 h15 => if v18 = 0 then ((f_Mo_areThere_b60 G (f_Mo_areThere_b6 G F)) x0 x1 x2 x3 x5 (0 : Int32) h15) else ((f_Mo_areThere_b55 G (f_Mo_areThere_b60 G (f_Mo_areThere_b6 G F))) x0 x1 x2 x3 x5 h15)) else ((f_Mo_areThere_b55 G (f_Mo_areThere_b60 G (f_Mo_areThere_b6 G F))) x0 x1 x2 x3 x5 h7)))
theorem f_Mo_areThere_b6_eq (G : Nat) (F : Nat) (x0 : Nat) (x1 : Int32) (x2 : Int32) (x3 : Int32) (x4 : Int32) (x5 : Int32) (h : pH) : f_Mo_areThere_b6 G (F + 1) x0 x1 x2 x3 x4 x5 h = ((gR h x0 4 2).bind fun v1 => (aI h v1 x1).bind fun v2 => if v2 ≤ x5 then ((f_Mo_areThere_b68 G) x4 h) else (if x4 = 0 then ((f_Mo_areThere_b68 G) x4 h) else (cI (oC h x0 4) (f_Mo_numberOf G x0 x1 x5 h) fun v6 h3 => cI (oC h3 x0 4) (f_Mo_lastNode G x0 v6 h3) fun v10 h7 => if v10 = x2 then (cI (oC h7 x0 4) (f_Mo_imageOf G x0 v6 h7) fun v14 h11 => cI (oC h11 x0 4) (f_Mo_has G x0 x3 v14 h11) fun v18 h15 => if v18 = 0 then ((f_Mo_areThere_b60 G (f_Mo_areThere_b6 G F)) x0 x1 x2 x3 x5 (0 : Int32) h15) else ((f_Mo_areThere_b55 G (f_Mo_areThere_b60 G (f_Mo_areThere_b6 G F))) x0 x1 x2 x3 x5 h15)) else ((f_Mo_areThere_b55 G (f_Mo_areThere_b60 G (f_Mo_areThere_b6 G F))) x0 x1 x2 x3 x5 h7)))) := rfl
def f_Mo_areThere (G : Nat) (x0 : Nat) (x1 : Int32) (x2 : Int32) (x3 : Int32) (h : pH) : Option pR := (f_Mo_areThere_b6 G G) x0 x1 x2 x3 (1 : Int32) (0 : Int32) h
theorem f_Mo_areThere_eq (G : Nat) (x0 : Nat) (x1 : Int32) (x2 : Int32) (x3 : Int32) (h : pH) : f_Mo_areThere G x0 x1 x2 x3 h = ((f_Mo_areThere_b6 G G) x0 x1 x2 x3 (1 : Int32) (0 : Int32) h) := rfl
set_option maxRecDepth 100000 in
set_option maxHeartbeats 4000000 in
theorem w_Mo_areThere_b55 {X : zX} {r : pR} {G : Nat} {k60 : Nat → Int32 → Int32 → Int32 → Int32 → Int32 → pH → Option pR} (hQ : zQ X r) (hk60 : ∀ (x0 : Nat) (x1 : Int32) (x2 : Int32) (x3 : Int32) (x5 : Int32) (s0 : Int32) (h : pH), k60 x0 x1 x2 x3 x5 s0 h = some r → Z X M_Mo_areThere 0 0 h 60 [(0, .ref x0), (1, .int x1), (2, .int x2), (3, .int x3), (5, .int x5)] [.int s0]) : ∀ (x0 : Nat) (x1 : Int32) (x2 : Int32) (x3 : Int32) (x5 : Int32) (h : pH), f_Mo_areThere_b55 G k60 x0 x1 x2 x3 x5 h = some r → Z X M_Mo_areThere 0 0 h 55 [(0, .ref x0), (1, .int x1), (2, .int x2), (3, .int x3), (5, .int x5)] [] := by
  intro x0 x1 x2 x3 x5 h E
  rw [f_Mo_areThere_b55_eq] at E
  refine z_iconst (v := (1 : Int32)) d_Mo_areThere_55 (by decide) ?_
  refine z_goto (tgt := 60) d_Mo_areThere_56 (by decide) ?_
  exact hk60 x0 x1 x2 x3 x5 (1 : Int32) h E
set_option maxRecDepth 100000 in
set_option maxHeartbeats 4000000 in
theorem w_Mo_areThere_b60 {X : zX} {r : pR} {G : Nat} {k6 : Nat → Int32 → Int32 → Int32 → Int32 → Int32 → pH → Option pR} (hQ : zQ X r) (hk6 : ∀ (x0 : Nat) (x1 : Int32) (x2 : Int32) (x3 : Int32) (x4 : Int32) (x5 : Int32) (h : pH), k6 x0 x1 x2 x3 x4 x5 h = some r → Z X M_Mo_areThere 0 0 h 6 [(0, .ref x0), (1, .int x1), (2, .int x2), (3, .int x3), (4, .int x4), (5, .int x5)] []) : ∀ (x0 : Nat) (x1 : Int32) (x2 : Int32) (x3 : Int32) (x5 : Int32) (s0 : Int32) (h : pH), f_Mo_areThere_b60 G k6 x0 x1 x2 x3 x5 s0 h = some r → Z X M_Mo_areThere 0 0 h 60 [(0, .ref x0), (1, .int x1), (2, .int x2), (3, .int x3), (5, .int x5)] [.int s0] := by
  intro x0 x1 x2 x3 x5 s0 h E
  rw [f_Mo_areThere_b60_eq] at E
  refine z_istore (lv2 := [(4, .int s0), (0, .ref x0), (1, .int x1), (2, .int x2), (3, .int x3), (5, .int x5)]) d_Mo_areThere_60 (Nat.le_of_ble_eq_true rfl) rfl ?_
  refine z_iinc (v := (x5 + 1)) (lv2 := [(5, .int (x5 + 1)), (4, .int s0), (0, .ref x0), (1, .int x1), (2, .int x2), (3, .int x3)]) 5 d_Mo_areThere_62 rfl rfl (Nat.le_of_ble_eq_true rfl) rfl ?_
  refine z_goto (tgt := 6) d_Mo_areThere_65 (by decide) ?_
  refine z_lv [2, 3, 4, 5, 1, 0] rfl ?_
  exact hk6 x0 x1 x2 x3 s0 (x5 + 1) h E
set_option maxRecDepth 100000 in
set_option maxHeartbeats 4000000 in
theorem w_Mo_areThere_b68 {X : zX} {r : pR} {G : Nat} (hQ : zQ X r) : ∀ (x4 : Int32) (h : pH), f_Mo_areThere_b68 G x4 h = some r → Z X M_Mo_areThere 0 0 h 68 [(4, .int x4)] [] := by
  intro x4 h E
  rw [f_Mo_areThere_b68_eq] at E
  refine z_iload 0 d_Mo_areThere_68 rfl ?_
  exact z_zreturn hQ rfl z00 d_Mo_areThere_70 E
set_option maxRecDepth 100000 in
set_option maxHeartbeats 4000000 in
theorem w_Mo_areThere_b6 {X : zX} {r : pR} {G : Nat} (hQ : zQ X r) : ∀ (F : Nat) (x0 : Nat) (x1 : Int32) (x2 : Int32) (x3 : Int32) (x4 : Int32) (x5 : Int32) (h : pH), f_Mo_areThere_b6 G F x0 x1 x2 x3 x4 x5 h = some r → Z X M_Mo_areThere 0 0 h 6 [(0, .ref x0), (1, .int x1), (2, .int x2), (3, .int x3), (4, .int x4), (5, .int x5)] [] := by
  intro F
  induction F with
  | zero => intro x0 x1 x2 x3 x4 x5 h E; exact nomatch (show (none : Option pR) = some _ from E)
  | succ F ih =>
    intro x0 x1 x2 x3 x4 x5 h E
    rw [f_Mo_areThere_b6_eq] at E
    refine z_iload 5 d_Mo_areThere_6 rfl ?_
    refine z_aload_n 0 d_Mo_areThere_8 rfl rfl ?_
    refine z_getR (ci := 4) (j := 2) rfl (by decide) zf_Mo_13 d_Mo_areThere_9 E (fun v1 _ E => ?_)
    refine z_iload_n 1 d_Mo_areThere_12 rfl rfl ?_
    refine z_iaload d_Mo_areThere_13 E (fun v2 _ E => ?_)
    refine z_ic_ge (tgt := 68) d_Mo_areThere_14 (by decide) E (fun E => ?_) (fun E => ?_)
    · refine z_lv [4] rfl ?_
      exact (w_Mo_areThere_b68 hQ) x4 h E
    · refine z_iload 4 d_Mo_areThere_17 rfl ?_
      refine z_if_eq (y := 0) (tgt := 68) d_Mo_areThere_19 (by decide) E (fun E => ?_) (fun E => ?_)
      · refine z_lv [4] rfl ?_
        exact (w_Mo_areThere_b68 hQ) x4 h E
      · refine z_aload_n 0 d_Mo_areThere_22 rfl rfl ?_
        refine z_iload_n 1 d_Mo_areThere_23 rfl rfl ?_
        refine z_iload 5 d_Mo_areThere_24 rfl ?_
        obtain ⟨g4, v6, h3, e5, E⟩ := cI_some E
        refine z_invV (ci := 4) (y := y_Mo_numberOf) (Mc := M_Mo_numberOf) (av := [.int x1, .int x5]) (rest := []) rfl rfl ⟨zt_760, zt_762, zt_27, zt_52⟩ zk_Mo_numberOf zy_Mo_numberOf (by decide) (Nat.le_of_ble_eq_true rfl) z00 rfl (Nat.le_of_ble_eq_true rfl) d_Mo_areThere_26 g4 (m_Mo_numberOf e5) ?_
        show Z X M_Mo_areThere 0 0 h3 29 [(0, .ref x0), (1, .int x1), (2, .int x2), (3, .int x3), (4, .int x4), (5, .int x5)] [.int v6]
        refine z_istore (lv2 := [(6, .int v6), (0, .ref x0), (1, .int x1), (2, .int x2), (3, .int x3), (4, .int x4), (5, .int x5)]) d_Mo_areThere_29 (Nat.le_of_ble_eq_true rfl) rfl ?_
        refine z_aload_n 1 d_Mo_areThere_31 rfl rfl ?_
        refine z_iload 0 d_Mo_areThere_32 rfl ?_
        obtain ⟨g8, v10, h7, e9, E⟩ := cI_some E
        refine z_invV (ci := 4) (y := y_Mo_lastNode) (Mc := M_Mo_lastNode) (av := [.int v6]) (rest := []) rfl rfl ⟨zt_822, zt_824, zt_36, zt_52⟩ zk_Mo_lastNode zy_Mo_lastNode (by decide) (Nat.le_of_ble_eq_true rfl) z00 rfl (Nat.le_of_ble_eq_true rfl) d_Mo_areThere_34 g8 (m_Mo_lastNode e9) ?_
        show Z X M_Mo_areThere 0 0 h7 37 [(6, .int v6), (0, .ref x0), (1, .int x1), (2, .int x2), (3, .int x3), (4, .int x4), (5, .int x5)] [.int v10]
        refine z_iload_n 3 d_Mo_areThere_37 rfl rfl ?_
        refine z_ic_ne (tgt := 55) d_Mo_areThere_38 (by decide) E (fun E => ?_) (fun E => ?_)
        · refine z_lv [1, 2, 3, 4, 6] rfl ?_
          exact (w_Mo_areThere_b55 hQ (w_Mo_areThere_b60 hQ ih)) x0 x1 x2 x3 x5 h7 E
        · refine z_aload_n 1 d_Mo_areThere_41 rfl rfl ?_
          refine z_iload_n 4 d_Mo_areThere_42 rfl rfl ?_
          refine z_aload_n 1 d_Mo_areThere_43 rfl rfl ?_
          refine z_iload 0 d_Mo_areThere_44 rfl ?_
          obtain ⟨g12, v14, h11, e13, E⟩ := cI_some E
          refine z_invV (ci := 4) (y := y_Mo_imageOf) (Mc := M_Mo_imageOf) (av := [.int v6]) (rest := [.int x3, .ref x0]) rfl rfl ⟨zt_830, zt_832, zt_38, zt_52⟩ zk_Mo_imageOf zy_Mo_imageOf (by decide) (Nat.le_of_ble_eq_true rfl) z00 rfl (Nat.le_of_ble_eq_true rfl) d_Mo_areThere_46 g12 (m_Mo_imageOf e13) ?_
          show Z X M_Mo_areThere 0 0 h11 49 [(6, .int v6), (0, .ref x0), (1, .int x1), (2, .int x2), (3, .int x3), (4, .int x4), (5, .int x5)] [.int v14, .int x3, .ref x0]
          obtain ⟨g16, v18, h15, e17, E⟩ := cI_some E
          refine z_invV (ci := 4) (y := y_Mo_has) (Mc := M_Mo_has) (av := [.int x3, .int v14]) (rest := []) rfl rfl ⟨zt_756, zt_758, zt_26, zt_52⟩ zk_Mo_has zy_Mo_has (by decide) (Nat.le_of_ble_eq_true rfl) z00 rfl (Nat.le_of_ble_eq_true rfl) d_Mo_areThere_49 g16 (m_Mo_has e17) ?_
          show Z X M_Mo_areThere 0 0 h15 52 [(6, .int v6), (0, .ref x0), (1, .int x1), (2, .int x2), (3, .int x3), (4, .int x4), (5, .int x5)] [.int v18]
          refine z_if_eq (y := 0) (tgt := 59) d_Mo_areThere_52 (by decide) E (fun E => ?_) (fun E => ?_)
          · refine z_iconst (v := (0 : Int32)) d_Mo_areThere_59 (by decide) ?_
            refine z_lv [1, 2, 3, 4, 6] rfl ?_
            exact (w_Mo_areThere_b60 hQ ih) x0 x1 x2 x3 x5 (0 : Int32) h15 E
          · refine z_lv [1, 2, 3, 4, 6] rfl ?_
            exact (w_Mo_areThere_b55 hQ (w_Mo_areThere_b60 hQ ih)) x0 x1 x2 x3 x5 h15 E
set_option maxRecDepth 100000 in
set_option maxHeartbeats 4000000 in
theorem w_Mo_areThere_b0 {X : zX} {r : pR} {G : Nat} (hQ : zQ X r) : ∀ (x0 : Nat) (x1 : Int32) (x2 : Int32) (x3 : Int32) (h : pH), f_Mo_areThere G x0 x1 x2 x3 h = some r → Z X M_Mo_areThere 0 0 h 0 [(0, .ref x0), (1, .int x1), (2, .int x2), (3, .int x3)] [] := by
  intro x0 x1 x2 x3 h E
  rw [f_Mo_areThere_eq] at E
  refine z_iconst (v := (1 : Int32)) d_Mo_areThere_0 (by decide) ?_
  refine z_istore (lv2 := [(4, .int (1 : Int32)), (0, .ref x0), (1, .int x1), (2, .int x2), (3, .int x3)]) d_Mo_areThere_1 (Nat.le_of_ble_eq_true rfl) rfl ?_
  refine z_iconst (v := (0 : Int32)) d_Mo_areThere_3 (by decide) ?_
  refine z_istore (lv2 := [(5, .int (0 : Int32)), (4, .int (1 : Int32)), (0, .ref x0), (1, .int x1), (2, .int x2), (3, .int x3)]) d_Mo_areThere_4 (Nat.le_of_ble_eq_true rfl) rfl ?_
  refine z_lv [2, 3, 4, 5, 1, 0] rfl ?_
  exact (w_Mo_areThere_b6 hQ G) x0 x1 x2 x3 (1 : Int32) (0 : Int32) h E
theorem m_Mo_areThere {l : Launch} {G : Nat} {x0 : Nat} {x1 : Int32} {x2 : Int32} {x3 : Int32} {h : pH} {r : pR} (E : f_Mo_areThere G x0 x1 x2 x3 h = some r) : zMet l y_Mo_areThere M_Mo_areThere 0 0 [.ref x0, .int x1, .int x2, .int x3] h r :=
  zMet_of (by decide) rfl (Nat.le_of_ble_eq_true rfl) (fun p e s m args below meth c D0 cT => w_Mo_areThere_b0 (X := (p, l, e, s, m, args, below, meth, c, D0, cT, h, _, 0, 0)) rfl x0 x1 x2 x3 h E)
def f_Mo_isNew_b32 (G : Nat) (k33 : Nat → Int32 → Int32 → Int32 → pH → Option pR) (x0 : Nat) (x1 : Int32) (x3 : Int32) (h : pH) : Option pR := k33 x0 x1 x3 (0 : Int32) h
theorem f_Mo_isNew_b32_eq (G : Nat) (k33 : Nat → Int32 → Int32 → Int32 → pH → Option pR) (x0 : Nat) (x1 : Int32) (x3 : Int32) (h : pH) : f_Mo_isNew_b32 G k33 x0 x1 x3 h = (k33 x0 x1 x3 (0 : Int32) h) := rfl
def f_Mo_isNew_b33 (G : Nat) (k4 : Nat → Int32 → Int32 → Int32 → pH → Option pR) (x0 : Nat) (x1 : Int32) (x3 : Int32) (s0 : Int32) (h : pH) : Option pR := k4 x0 x1 s0 (x3 + 1) h
theorem f_Mo_isNew_b33_eq (G : Nat) (k4 : Nat → Int32 → Int32 → Int32 → pH → Option pR) (x0 : Nat) (x1 : Int32) (x3 : Int32) (s0 : Int32) (h : pH) : f_Mo_isNew_b33 G k4 x0 x1 x3 s0 h = (k4 x0 x1 s0 (x3 + 1) h) := rfl
def f_Mo_isNew_b4 (G : Nat) : Nat → Nat → Int32 → Int32 → Int32 → pH → Option pR
  | 0 => fun _ _ _ _ _ => none
  | F + 1 => fun x0 x1 x2 x3 h => if x1 ≤ x3 then ((if isZ x2 = true then some (some (.int x2), h) else none)) else (if x2 = 0 then ((f_Mo_isNew_b32 G (f_Mo_isNew_b33 G (f_Mo_isNew_b4 G F))) x0 x1 x3 h) else ((gR h x0 4 11).bind fun v1 => (aI h v1 x3).bind fun v2 => (gR h x0 4 11).bind fun v3 => (aI h v3 x1).bind fun v4 => if v2 = v4 then ((f_Mo_isNew_b32 G (f_Mo_isNew_b33 G (f_Mo_isNew_b4 G F))) x0 x1 x3 h) else ((f_Mo_isNew_b33 G (f_Mo_isNew_b4 G F)) x0 x1 x3 (1 : Int32) h)))
theorem f_Mo_isNew_b4_eq (G : Nat) (F : Nat) (x0 : Nat) (x1 : Int32) (x2 : Int32) (x3 : Int32) (h : pH) : f_Mo_isNew_b4 G (F + 1) x0 x1 x2 x3 h = (if x1 ≤ x3 then ((if isZ x2 = true then some (some (.int x2), h) else none)) else (if x2 = 0 then ((f_Mo_isNew_b32 G (f_Mo_isNew_b33 G (f_Mo_isNew_b4 G F))) x0 x1 x3 h) else ((gR h x0 4 11).bind fun v1 => (aI h v1 x3).bind fun v2 => (gR h x0 4 11).bind fun v3 => (aI h v3 x1).bind fun v4 => if v2 = v4 then ((f_Mo_isNew_b32 G (f_Mo_isNew_b33 G (f_Mo_isNew_b4 G F))) x0 x1 x3 h) else ((f_Mo_isNew_b33 G (f_Mo_isNew_b4 G F)) x0 x1 x3 (1 : Int32) h)))) := rfl
def f_Mo_isNew (G : Nat) (x0 : Nat) (x1 : Int32) (h : pH) : Option pR := (f_Mo_isNew_b4 G G) x0 x1 (1 : Int32) (0 : Int32) h
theorem f_Mo_isNew_eq (G : Nat) (x0 : Nat) (x1 : Int32) (h : pH) : f_Mo_isNew G x0 x1 h = ((f_Mo_isNew_b4 G G) x0 x1 (1 : Int32) (0 : Int32) h) := rfl
set_option maxRecDepth 100000 in
set_option maxHeartbeats 4000000 in
theorem w_Mo_isNew_b32 {X : zX} {r : pR} {G : Nat} {k33 : Nat → Int32 → Int32 → Int32 → pH → Option pR} (hQ : zQ X r) (hk33 : ∀ (x0 : Nat) (x1 : Int32) (x3 : Int32) (s0 : Int32) (h : pH), k33 x0 x1 x3 s0 h = some r → Z X M_Mo_isNew 0 0 h 33 [(0, .ref x0), (1, .int x1), (3, .int x3)] [.int s0]) : ∀ (x0 : Nat) (x1 : Int32) (x3 : Int32) (h : pH), f_Mo_isNew_b32 G k33 x0 x1 x3 h = some r → Z X M_Mo_isNew 0 0 h 32 [(0, .ref x0), (1, .int x1), (3, .int x3)] [] := by
  intro x0 x1 x3 h E
  rw [f_Mo_isNew_b32_eq] at E
  refine z_iconst (v := (0 : Int32)) d_Mo_isNew_32 (by decide) ?_
  exact hk33 x0 x1 x3 (0 : Int32) h E
set_option maxRecDepth 100000 in
set_option maxHeartbeats 4000000 in
theorem w_Mo_isNew_b33 {X : zX} {r : pR} {G : Nat} {k4 : Nat → Int32 → Int32 → Int32 → pH → Option pR} (hQ : zQ X r) (hk4 : ∀ (x0 : Nat) (x1 : Int32) (x2 : Int32) (x3 : Int32) (h : pH), k4 x0 x1 x2 x3 h = some r → Z X M_Mo_isNew 0 0 h 4 [(0, .ref x0), (1, .int x1), (2, .int x2), (3, .int x3)] []) : ∀ (x0 : Nat) (x1 : Int32) (x3 : Int32) (s0 : Int32) (h : pH), f_Mo_isNew_b33 G k4 x0 x1 x3 s0 h = some r → Z X M_Mo_isNew 0 0 h 33 [(0, .ref x0), (1, .int x1), (3, .int x3)] [.int s0] := by
  intro x0 x1 x3 s0 h E
  rw [f_Mo_isNew_b33_eq] at E
  refine z_istore_n (lv2 := [(2, .int s0), (0, .ref x0), (1, .int x1), (3, .int x3)]) d_Mo_isNew_33 rfl (Nat.le_of_ble_eq_true rfl) rfl ?_
  refine z_iinc (v := (x3 + 1)) (lv2 := [(3, .int (x3 + 1)), (2, .int s0), (0, .ref x0), (1, .int x1)]) 3 d_Mo_isNew_34 rfl rfl (Nat.le_of_ble_eq_true rfl) rfl ?_
  refine z_goto (tgt := 4) d_Mo_isNew_37 (by decide) ?_
  refine z_lv [2, 3, 1, 0] rfl ?_
  exact hk4 x0 x1 s0 (x3 + 1) h E
set_option maxRecDepth 100000 in
set_option maxHeartbeats 4000000 in
theorem w_Mo_isNew_b4 {X : zX} {r : pR} {G : Nat} (hQ : zQ X r) : ∀ (F : Nat) (x0 : Nat) (x1 : Int32) (x2 : Int32) (x3 : Int32) (h : pH), f_Mo_isNew_b4 G F x0 x1 x2 x3 h = some r → Z X M_Mo_isNew 0 0 h 4 [(0, .ref x0), (1, .int x1), (2, .int x2), (3, .int x3)] [] := by
  intro F
  induction F with
  | zero => intro x0 x1 x2 x3 h E; exact nomatch (show (none : Option pR) = some _ from E)
  | succ F ih =>
    intro x0 x1 x2 x3 h E
    rw [f_Mo_isNew_b4_eq] at E
    refine z_iload_n 3 d_Mo_isNew_4 rfl rfl ?_
    refine z_iload_n 1 d_Mo_isNew_5 rfl rfl ?_
    refine z_ic_ge (tgt := 40) d_Mo_isNew_6 (by decide) E (fun E => ?_) (fun E => ?_)
    · refine z_iload_n 2 d_Mo_isNew_40 rfl rfl ?_
      exact z_zreturn hQ rfl z00 d_Mo_isNew_41 E
    · refine z_iload_n 2 d_Mo_isNew_9 rfl rfl ?_
      refine z_if_eq (y := 0) (tgt := 32) d_Mo_isNew_10 (by decide) E (fun E => ?_) (fun E => ?_)
      · refine z_lv [0, 1, 3] rfl ?_
        exact (w_Mo_isNew_b32 hQ (w_Mo_isNew_b33 hQ ih)) x0 x1 x3 h E
      · refine z_aload_n 0 d_Mo_isNew_13 rfl rfl ?_
        refine z_getR (ci := 4) (j := 11) rfl (by decide) zf_Mo_31 d_Mo_isNew_14 E (fun v1 _ E => ?_)
        refine z_iload_n 3 d_Mo_isNew_17 rfl rfl ?_
        refine z_iaload d_Mo_isNew_18 E (fun v2 _ E => ?_)
        refine z_aload_n 0 d_Mo_isNew_19 rfl rfl ?_
        refine z_getR (ci := 4) (j := 11) rfl (by decide) zf_Mo_31 d_Mo_isNew_20 E (fun v3 _ E => ?_)
        refine z_iload_n 1 d_Mo_isNew_23 rfl rfl ?_
        refine z_iaload d_Mo_isNew_24 E (fun v4 _ E => ?_)
        refine z_ic_eq (tgt := 32) d_Mo_isNew_25 (by decide) E (fun E => ?_) (fun E => ?_)
        · refine z_lv [0, 1, 3] rfl ?_
          exact (w_Mo_isNew_b32 hQ (w_Mo_isNew_b33 hQ ih)) x0 x1 x3 h E
        · refine z_iconst (v := (1 : Int32)) d_Mo_isNew_28 (by decide) ?_
          refine z_goto (tgt := 33) d_Mo_isNew_29 (by decide) ?_
          refine z_lv [0, 1, 3] rfl ?_
          exact (w_Mo_isNew_b33 hQ ih) x0 x1 x3 (1 : Int32) h E
set_option maxRecDepth 100000 in
set_option maxHeartbeats 4000000 in
theorem w_Mo_isNew_b0 {X : zX} {r : pR} {G : Nat} (hQ : zQ X r) : ∀ (x0 : Nat) (x1 : Int32) (h : pH), f_Mo_isNew G x0 x1 h = some r → Z X M_Mo_isNew 0 0 h 0 [(0, .ref x0), (1, .int x1)] [] := by
  intro x0 x1 h E
  rw [f_Mo_isNew_eq] at E
  refine z_iconst (v := (1 : Int32)) d_Mo_isNew_0 (by decide) ?_
  refine z_istore_n (lv2 := [(2, .int (1 : Int32)), (0, .ref x0), (1, .int x1)]) d_Mo_isNew_1 rfl (Nat.le_of_ble_eq_true rfl) rfl ?_
  refine z_iconst (v := (0 : Int32)) d_Mo_isNew_2 (by decide) ?_
  refine z_istore_n (lv2 := [(3, .int (0 : Int32)), (2, .int (1 : Int32)), (0, .ref x0), (1, .int x1)]) d_Mo_isNew_3 rfl (Nat.le_of_ble_eq_true rfl) rfl ?_
  refine z_lv [2, 3, 1, 0] rfl ?_
  exact (w_Mo_isNew_b4 hQ G) x0 x1 (1 : Int32) (0 : Int32) h E
theorem m_Mo_isNew {l : Launch} {G : Nat} {x0 : Nat} {x1 : Int32} {h : pH} {r : pR} (E : f_Mo_isNew G x0 x1 h = some r) : zMet l y_Mo_isNew M_Mo_isNew 0 0 [.ref x0, .int x1] h r :=
  zMet_of (by decide) rfl (Nat.le_of_ble_eq_true rfl) (fun p e s m args below meth c D0 cT => w_Mo_isNew_b0 (X := (p, l, e, s, m, args, below, meth, c, D0, cT, h, _, 0, 0)) rfl x0 x1 h E)
def f_Mo_imageSize_b7 (G : Nat) : Nat → Nat → Int32 → Int32 → pH → Option pR
  | 0 => fun _ _ _ _ => none
  | F + 1 => fun x0 x1 x2 h => (gR h x0 4 2).bind fun v2 => (aI h v2 x1).bind fun v3 => if v3 ≤ x2 then ((gI h x0 4 4).bind fun v4 => some (some (.int v4), h)) else (cI (oC h x0 4) (f_Mo_numberOf G x0 x1 x2 h) fun v8 h5 => cI (oC h5 x0 4) (f_Mo_imageOf G x0 v8 h5) fun v12 h9 => cV (oC h9 x0 4) (f_Mo_add G x0 v12 h9) fun h13 => (f_Mo_imageSize_b7 G F) x0 x1 (x2 + 1) h13)
theorem f_Mo_imageSize_b7_eq (G : Nat) (F : Nat) (x0 : Nat) (x1 : Int32) (x2 : Int32) (h : pH) : f_Mo_imageSize_b7 G (F + 1) x0 x1 x2 h = ((gR h x0 4 2).bind fun v2 => (aI h v2 x1).bind fun v3 => if v3 ≤ x2 then ((gI h x0 4 4).bind fun v4 => some (some (.int v4), h)) else (cI (oC h x0 4) (f_Mo_numberOf G x0 x1 x2 h) fun v8 h5 => cI (oC h5 x0 4) (f_Mo_imageOf G x0 v8 h5) fun v12 h9 => cV (oC h9 x0 4) (f_Mo_add G x0 v12 h9) fun h13 => (f_Mo_imageSize_b7 G F) x0 x1 (x2 + 1) h13)) := rfl
def f_Mo_imageSize (G : Nat) (x0 : Nat) (x1 : Int32) (h : pH) : Option pR := (oP h x0 4 4 (.int (0 : Int32))).bind fun h1 => (f_Mo_imageSize_b7 G G) x0 x1 (0 : Int32) h1
theorem f_Mo_imageSize_eq (G : Nat) (x0 : Nat) (x1 : Int32) (h : pH) : f_Mo_imageSize G x0 x1 h = ((oP h x0 4 4 (.int (0 : Int32))).bind fun h1 => (f_Mo_imageSize_b7 G G) x0 x1 (0 : Int32) h1) := rfl
set_option maxRecDepth 100000 in
set_option maxHeartbeats 4000000 in
theorem w_Mo_imageSize_b7 {X : zX} {r : pR} {G : Nat} (hQ : zQ X r) : ∀ (F : Nat) (x0 : Nat) (x1 : Int32) (x2 : Int32) (h : pH), f_Mo_imageSize_b7 G F x0 x1 x2 h = some r → Z X M_Mo_imageSize 0 0 h 7 [(0, .ref x0), (1, .int x1), (2, .int x2)] [] := by
  intro F
  induction F with
  | zero => intro x0 x1 x2 h E; exact nomatch (show (none : Option pR) = some _ from E)
  | succ F ih =>
    intro x0 x1 x2 h E
    rw [f_Mo_imageSize_b7_eq] at E
    refine z_iload_n 2 d_Mo_imageSize_7 rfl rfl ?_
    refine z_aload_n 0 d_Mo_imageSize_8 rfl rfl ?_
    refine z_getR (ci := 4) (j := 2) rfl (by decide) zf_Mo_13 d_Mo_imageSize_9 E (fun v2 _ E => ?_)
    refine z_iload_n 1 d_Mo_imageSize_12 rfl rfl ?_
    refine z_iaload d_Mo_imageSize_13 E (fun v3 _ E => ?_)
    refine z_ic_ge (tgt := 37) d_Mo_imageSize_14 (by decide) E (fun E => ?_) (fun E => ?_)
    · refine z_aload_n 0 d_Mo_imageSize_37 rfl rfl ?_
      refine z_getI (ci := 4) (j := 4) rfl (by decide) zf_Mo_54 d_Mo_imageSize_38 E (fun v4 _ E => ?_)
      exact z_ireturn hQ rfl z00 d_Mo_imageSize_41 E
    · refine z_aload_n 0 d_Mo_imageSize_17 rfl rfl ?_
      refine z_aload_n 0 d_Mo_imageSize_18 rfl rfl ?_
      refine z_aload_n 0 d_Mo_imageSize_19 rfl rfl ?_
      refine z_iload_n 1 d_Mo_imageSize_20 rfl rfl ?_
      refine z_iload_n 2 d_Mo_imageSize_21 rfl rfl ?_
      obtain ⟨g6, v8, h5, e7, E⟩ := cI_some E
      refine z_invV (ci := 4) (y := y_Mo_numberOf) (Mc := M_Mo_numberOf) (av := [.int x1, .int x2]) (rest := [.ref x0, .ref x0]) rfl rfl ⟨zt_760, zt_762, zt_27, zt_52⟩ zk_Mo_numberOf zy_Mo_numberOf (by decide) (Nat.le_of_ble_eq_true rfl) z00 rfl (Nat.le_of_ble_eq_true rfl) d_Mo_imageSize_22 g6 (m_Mo_numberOf e7) ?_
      show Z X M_Mo_imageSize 0 0 h5 25 [(0, .ref x0), (1, .int x1), (2, .int x2)] [.int v8, .ref x0, .ref x0]
      obtain ⟨g10, v12, h9, e11, E⟩ := cI_some E
      refine z_invV (ci := 4) (y := y_Mo_imageOf) (Mc := M_Mo_imageOf) (av := [.int v8]) (rest := [.ref x0]) rfl rfl ⟨zt_830, zt_832, zt_38, zt_52⟩ zk_Mo_imageOf zy_Mo_imageOf (by decide) (Nat.le_of_ble_eq_true rfl) z00 rfl (Nat.le_of_ble_eq_true rfl) d_Mo_imageSize_25 g10 (m_Mo_imageOf e11) ?_
      show Z X M_Mo_imageSize 0 0 h9 28 [(0, .ref x0), (1, .int x1), (2, .int x2)] [.int v12, .ref x0]
      obtain ⟨g14, h13, e15, E⟩ := cV_some E
      refine z_invV (ci := 4) (y := y_Mo_add) (Mc := M_Mo_add) (av := [.int v12]) (rest := []) rfl rfl ⟨zt_764, zt_766, zt_28, zt_52⟩ zk_Mo_add zy_Mo_add (by decide) (Nat.le_of_ble_eq_true rfl) z00 rfl (Nat.le_of_ble_eq_true rfl) d_Mo_imageSize_28 g14 (m_Mo_add e15) ?_
      show Z X M_Mo_imageSize 0 0 h13 31 [(0, .ref x0), (1, .int x1), (2, .int x2)] []
      refine z_iinc (v := (x2 + 1)) (lv2 := [(2, .int (x2 + 1)), (0, .ref x0), (1, .int x1)]) 2 d_Mo_imageSize_31 rfl rfl (Nat.le_of_ble_eq_true rfl) rfl ?_
      refine z_goto (tgt := 7) d_Mo_imageSize_34 (by decide) ?_
      refine z_lv [1, 2, 0] rfl ?_
      exact ih x0 x1 (x2 + 1) h13 E
set_option maxRecDepth 100000 in
set_option maxHeartbeats 4000000 in
theorem w_Mo_imageSize_b0 {X : zX} {r : pR} {G : Nat} (hQ : zQ X r) : ∀ (x0 : Nat) (x1 : Int32) (h : pH), f_Mo_imageSize G x0 x1 h = some r → Z X M_Mo_imageSize 0 0 h 0 [(0, .ref x0), (1, .int x1)] [] := by
  intro x0 x1 h E
  rw [f_Mo_imageSize_eq] at E
  refine z_aload_n 0 d_Mo_imageSize_0 rfl rfl ?_
  refine z_iconst (v := (0 : Int32)) d_Mo_imageSize_1 (by decide) ?_
  refine z_putI (ci := 4) (j := 4) rfl (by decide) zf_Mo_54 rfl rfl d_Mo_imageSize_2 E (fun h1 _ E => ?_)
  refine z_iconst (v := (0 : Int32)) d_Mo_imageSize_5 (by decide) ?_
  refine z_istore_n (lv2 := [(2, .int (0 : Int32)), (0, .ref x0), (1, .int x1)]) d_Mo_imageSize_6 rfl (Nat.le_of_ble_eq_true rfl) rfl ?_
  refine z_lv [1, 2, 0] rfl ?_
  exact (w_Mo_imageSize_b7 hQ G) x0 x1 (0 : Int32) h1 E
theorem m_Mo_imageSize {l : Launch} {G : Nat} {x0 : Nat} {x1 : Int32} {h : pH} {r : pR} (E : f_Mo_imageSize G x0 x1 h = some r) : zMet l y_Mo_imageSize M_Mo_imageSize 0 0 [.ref x0, .int x1] h r :=
  zMet_of (by decide) rfl (Nat.le_of_ble_eq_true rfl) (fun p e s m args below meth c D0 cT => w_Mo_imageSize_b0 (X := (p, l, e, s, m, args, below, meth, c, D0, cT, h, _, 0, 0)) rfl x0 x1 h E)
def f_Mo_prepare_b110 (G : Nat) (k71 : Nat → Int32 → Int32 → pH → Option pR) (x0 : Nat) (x2 : Int32) (x4 : Int32) (h : pH) : Option pR := k71 x0 x2 (x4 + 1) h
theorem f_Mo_prepare_b110_eq (G : Nat) (k71 : Nat → Int32 → Int32 → pH → Option pR) (x0 : Nat) (x2 : Int32) (x4 : Int32) (h : pH) : f_Mo_prepare_b110 G k71 x0 x2 x4 h = (k71 x0 x2 (x4 + 1) h) := rfl
def f_Mo_prepare_b71 (G : Nat) : Nat → Nat → Int32 → Int32 → pH → Option pR
  | 0 => fun _ _ _ _ => none
  | F + 1 => fun x0 x2 x4 h => if (46 : Int32) ≤ x4 then (some (none, h)) else (cI (oC h x0 4) (f_Mo_stands G x0 x2 x4 (2 : Int32) h) fun v15 h12 => if v15 = 0 then ((f_Mo_prepare_b110 G (f_Mo_prepare_b71 G F)) x0 x2 x4 h12) else ((gR h12 x0 4 8).bind fun v16 => (gI h12 x0 4 9).bind fun v17 => (sI h12 v16 v17 x4).bind fun h18 => (gI h18 x0 4 9).bind fun v19 => (oP h18 x0 4 9 (.int (v19 + (1 : Int32)))).bind fun h20 => (f_Mo_prepare_b110 G (f_Mo_prepare_b71 G F)) x0 x2 x4 h20))
theorem f_Mo_prepare_b71_eq (G : Nat) (F : Nat) (x0 : Nat) (x2 : Int32) (x4 : Int32) (h : pH) : f_Mo_prepare_b71 G (F + 1) x0 x2 x4 h = (if (46 : Int32) ≤ x4 then (some (none, h)) else (cI (oC h x0 4) (f_Mo_stands G x0 x2 x4 (2 : Int32) h) fun v15 h12 => if v15 = 0 then ((f_Mo_prepare_b110 G (f_Mo_prepare_b71 G F)) x0 x2 x4 h12) else ((gR h12 x0 4 8).bind fun v16 => (gI h12 x0 4 9).bind fun v17 => (sI h12 v16 v17 x4).bind fun h18 => (gI h18 x0 4 9).bind fun v19 => (oP h18 x0 4 9 (.int (v19 + (1 : Int32)))).bind fun h20 => (f_Mo_prepare_b110 G (f_Mo_prepare_b71 G F)) x0 x2 x4 h20))) := rfl
def f_Mo_prepare_b48 (G : Nat) (k9 : Nat → Int32 → Int32 → Int32 → Int32 → pH → Option pR) (x0 : Nat) (x1 : Int32) (x2 : Int32) (x3 : Int32) (x4 : Int32) (h : pH) : Option pR := k9 x0 x1 x2 x3 (x4 + 1) h
theorem f_Mo_prepare_b48_eq (G : Nat) (k9 : Nat → Int32 → Int32 → Int32 → Int32 → pH → Option pR) (x0 : Nat) (x1 : Int32) (x2 : Int32) (x3 : Int32) (x4 : Int32) (h : pH) : f_Mo_prepare_b48 G k9 x0 x1 x2 x3 x4 h = (k9 x0 x1 x2 x3 (x4 + 1) h) := rfl
def f_Mo_prepare_b69 (G : Nat) (x0 : Nat) (x2 : Int32) (s0 : Int32) (h : pH) : Option pR := (f_Mo_prepare_b71 G G) x0 x2 s0 h
theorem f_Mo_prepare_b69_eq (G : Nat) (x0 : Nat) (x2 : Int32) (s0 : Int32) (h : pH) : f_Mo_prepare_b69 G x0 x2 s0 h = ((f_Mo_prepare_b71 G G) x0 x2 s0 h) := rfl
def f_Mo_prepare_b9 (G : Nat) : Nat → Nat → Int32 → Int32 → Int32 → Int32 → pH → Option pR
  | 0 => fun _ _ _ _ _ _ => none
  | F + 1 => fun x0 x1 x2 x3 x4 h => if (46 : Int32) ≤ x4 then ((oP h x0 4 9 (.int (0 : Int32))).bind fun h2 => if x3 = 0 then ((f_Mo_prepare_b69 G) x0 x2 (40 : Int32) h2) else ((f_Mo_prepare_b69 G) x0 x2 (0 : Int32) h2)) else (cI (oC h x0 4) (f_Mo_stands G x0 x1 x4 (2 : Int32) h) fun v6 h3 => if v6 = 0 then ((f_Mo_prepare_b48 G (f_Mo_prepare_b9 G F)) x0 x1 x2 x3 x4 h3) else ((gR h3 x0 4 6).bind fun v7 => (gI h3 x0 4 7).bind fun v8 => (sI h3 v7 v8 x4).bind fun h9 => (gI h9 x0 4 7).bind fun v10 => (oP h9 x0 4 7 (.int (v10 + (1 : Int32)))).bind fun h11 => (f_Mo_prepare_b48 G (f_Mo_prepare_b9 G F)) x0 x1 x2 x3 x4 h11))
theorem f_Mo_prepare_b9_eq (G : Nat) (F : Nat) (x0 : Nat) (x1 : Int32) (x2 : Int32) (x3 : Int32) (x4 : Int32) (h : pH) : f_Mo_prepare_b9 G (F + 1) x0 x1 x2 x3 x4 h = (if (46 : Int32) ≤ x4 then ((oP h x0 4 9 (.int (0 : Int32))).bind fun h2 => if x3 = 0 then ((f_Mo_prepare_b69 G) x0 x2 (40 : Int32) h2) else ((f_Mo_prepare_b69 G) x0 x2 (0 : Int32) h2)) else (cI (oC h x0 4) (f_Mo_stands G x0 x1 x4 (2 : Int32) h) fun v6 h3 => if v6 = 0 then ((f_Mo_prepare_b48 G (f_Mo_prepare_b9 G F)) x0 x1 x2 x3 x4 h3) else ((gR h3 x0 4 6).bind fun v7 => (gI h3 x0 4 7).bind fun v8 => (sI h3 v7 v8 x4).bind fun h9 => (gI h9 x0 4 7).bind fun v10 => (oP h9 x0 4 7 (.int (v10 + (1 : Int32)))).bind fun h11 => (f_Mo_prepare_b48 G (f_Mo_prepare_b9 G F)) x0 x1 x2 x3 x4 h11))) := rfl
def f_Mo_prepare (G : Nat) (x0 : Nat) (x1 : Int32) (x2 : Int32) (x3 : Int32) (h : pH) : Option pR := (oP h x0 4 7 (.int (0 : Int32))).bind fun h1 => (f_Mo_prepare_b9 G G) x0 x1 x2 x3 (40 : Int32) h1
theorem f_Mo_prepare_eq (G : Nat) (x0 : Nat) (x1 : Int32) (x2 : Int32) (x3 : Int32) (h : pH) : f_Mo_prepare G x0 x1 x2 x3 h = ((oP h x0 4 7 (.int (0 : Int32))).bind fun h1 => (f_Mo_prepare_b9 G G) x0 x1 x2 x3 (40 : Int32) h1) := rfl
set_option maxRecDepth 100000 in
set_option maxHeartbeats 4000000 in
theorem w_Mo_prepare_b110 {X : zX} {r : pR} {G : Nat} {k71 : Nat → Int32 → Int32 → pH → Option pR} (hQ : zQ X r) (hk71 : ∀ (x0 : Nat) (x2 : Int32) (x4 : Int32) (h : pH), k71 x0 x2 x4 h = some r → Z X M_Mo_prepare 0 0 h 71 [(0, .ref x0), (2, .int x2), (4, .int x4)] []) : ∀ (x0 : Nat) (x2 : Int32) (x4 : Int32) (h : pH), f_Mo_prepare_b110 G k71 x0 x2 x4 h = some r → Z X M_Mo_prepare 0 0 h 110 [(0, .ref x0), (2, .int x2), (4, .int x4)] [] := by
  intro x0 x2 x4 h E
  rw [f_Mo_prepare_b110_eq] at E
  refine z_iinc (v := (x4 + 1)) (lv2 := [(4, .int (x4 + 1)), (0, .ref x0), (2, .int x2)]) 2 d_Mo_prepare_110 rfl rfl (Nat.le_of_ble_eq_true rfl) rfl ?_
  refine z_goto (tgt := 71) d_Mo_prepare_113 (by decide) ?_
  refine z_lv [1, 2, 0] rfl ?_
  exact hk71 x0 x2 (x4 + 1) h E
set_option maxRecDepth 100000 in
set_option maxHeartbeats 4000000 in
theorem w_Mo_prepare_b71 {X : zX} {r : pR} {G : Nat} (hQ : zQ X r) : ∀ (F : Nat) (x0 : Nat) (x2 : Int32) (x4 : Int32) (h : pH), f_Mo_prepare_b71 G F x0 x2 x4 h = some r → Z X M_Mo_prepare 0 0 h 71 [(0, .ref x0), (2, .int x2), (4, .int x4)] [] := by
  intro F
  induction F with
  | zero => intro x0 x2 x4 h E; exact nomatch (show (none : Option pR) = some _ from E)
  | succ F ih =>
    intro x0 x2 x4 h E
    rw [f_Mo_prepare_b71_eq] at E
    refine z_iload 2 d_Mo_prepare_71 rfl ?_
    refine z_bipush (v := (46 : Int32)) d_Mo_prepare_73 (by decide) ?_
    refine z_ic_ge (tgt := 116) d_Mo_prepare_75 (by decide) E (fun E => ?_) (fun E => ?_)
    · exact z_return hQ rfl z00 d_Mo_prepare_116 E
    · refine z_aload_n 0 d_Mo_prepare_78 rfl rfl ?_
      refine z_iload_n 1 d_Mo_prepare_79 rfl rfl ?_
      refine z_iload 2 d_Mo_prepare_80 rfl ?_
      refine z_iconst (v := (2 : Int32)) d_Mo_prepare_82 (by decide) ?_
      obtain ⟨g13, v15, h12, e14, E⟩ := cI_some E
      refine z_invV (ci := 4) (y := y_Mo_stands) (Mc := M_Mo_stands) (av := [.int x2, .int x4, .int (2 : Int32)]) (rest := []) rfl rfl ⟨zt_788, zt_790, zt_31, zt_52⟩ zk_Mo_stands zy_Mo_stands (by decide) (Nat.le_of_ble_eq_true rfl) z00 rfl (Nat.le_of_ble_eq_true rfl) d_Mo_prepare_83 g13 (m_Mo_stands e14) ?_
      show Z X M_Mo_prepare 0 0 h12 86 [(0, .ref x0), (2, .int x2), (4, .int x4)] [.int v15]
      refine z_if_eq (y := 0) (tgt := 110) d_Mo_prepare_86 (by decide) E (fun E => ?_) (fun E => ?_)
      · exact (w_Mo_prepare_b110 hQ ih) x0 x2 x4 h12 E
      · refine z_aload_n 0 d_Mo_prepare_89 rfl rfl ?_
        refine z_getR (ci := 4) (j := 8) rfl (by decide) zf_Mo_25 d_Mo_prepare_90 E (fun v16 _ E => ?_)
        refine z_aload_n 0 d_Mo_prepare_93 rfl rfl ?_
        refine z_getI (ci := 4) (j := 9) rfl (by decide) zf_Mo_113 d_Mo_prepare_94 E (fun v17 _ E => ?_)
        refine z_iload 2 d_Mo_prepare_97 rfl ?_
        refine z_iastore d_Mo_prepare_99 E (fun h18 _ E => ?_)
        refine z_aload_n 0 d_Mo_prepare_100 rfl rfl ?_
        refine z_dup d_Mo_prepare_101 rfl ?_
        refine z_getI (ci := 4) (j := 9) rfl (by decide) zf_Mo_113 d_Mo_prepare_102 E (fun v19 _ E => ?_)
        refine z_iconst (v := (1 : Int32)) d_Mo_prepare_105 (by decide) ?_
        refine z_iadd d_Mo_prepare_106 ?_
        refine z_putI (ci := 4) (j := 9) rfl (by decide) zf_Mo_113 rfl rfl d_Mo_prepare_107 E (fun h20 _ E => ?_)
        exact (w_Mo_prepare_b110 hQ ih) x0 x2 x4 h20 E
set_option maxRecDepth 100000 in
set_option maxHeartbeats 4000000 in
theorem w_Mo_prepare_b48 {X : zX} {r : pR} {G : Nat} {k9 : Nat → Int32 → Int32 → Int32 → Int32 → pH → Option pR} (hQ : zQ X r) (hk9 : ∀ (x0 : Nat) (x1 : Int32) (x2 : Int32) (x3 : Int32) (x4 : Int32) (h : pH), k9 x0 x1 x2 x3 x4 h = some r → Z X M_Mo_prepare 0 0 h 9 [(0, .ref x0), (1, .int x1), (2, .int x2), (3, .int x3), (4, .int x4)] []) : ∀ (x0 : Nat) (x1 : Int32) (x2 : Int32) (x3 : Int32) (x4 : Int32) (h : pH), f_Mo_prepare_b48 G k9 x0 x1 x2 x3 x4 h = some r → Z X M_Mo_prepare 0 0 h 48 [(0, .ref x0), (1, .int x1), (2, .int x2), (3, .int x3), (4, .int x4)] [] := by
  intro x0 x1 x2 x3 x4 h E
  rw [f_Mo_prepare_b48_eq] at E
  refine z_iinc (v := (x4 + 1)) (lv2 := [(4, .int (x4 + 1)), (0, .ref x0), (1, .int x1), (2, .int x2), (3, .int x3)]) 4 d_Mo_prepare_48 rfl rfl (Nat.le_of_ble_eq_true rfl) rfl ?_
  refine z_goto (tgt := 9) d_Mo_prepare_51 (by decide) ?_
  refine z_lv [1, 2, 3, 4, 0] rfl ?_
  exact hk9 x0 x1 x2 x3 (x4 + 1) h E
set_option maxRecDepth 100000 in
set_option maxHeartbeats 4000000 in
theorem w_Mo_prepare_b69 {X : zX} {r : pR} {G : Nat} (hQ : zQ X r) : ∀ (x0 : Nat) (x2 : Int32) (s0 : Int32) (h : pH), f_Mo_prepare_b69 G x0 x2 s0 h = some r → Z X M_Mo_prepare 0 0 h 69 [(0, .ref x0), (2, .int x2)] [.int s0] := by
  intro x0 x2 s0 h E
  rw [f_Mo_prepare_b69_eq] at E
  refine z_istore (lv2 := [(4, .int s0), (0, .ref x0), (2, .int x2)]) d_Mo_prepare_69 (Nat.le_of_ble_eq_true rfl) rfl ?_
  refine z_lv [1, 2, 0] rfl ?_
  exact (w_Mo_prepare_b71 hQ G) x0 x2 s0 h E
set_option maxRecDepth 100000 in
set_option maxHeartbeats 4000000 in
theorem w_Mo_prepare_b9 {X : zX} {r : pR} {G : Nat} (hQ : zQ X r) : ∀ (F : Nat) (x0 : Nat) (x1 : Int32) (x2 : Int32) (x3 : Int32) (x4 : Int32) (h : pH), f_Mo_prepare_b9 G F x0 x1 x2 x3 x4 h = some r → Z X M_Mo_prepare 0 0 h 9 [(0, .ref x0), (1, .int x1), (2, .int x2), (3, .int x3), (4, .int x4)] [] := by
  intro F
  induction F with
  | zero => intro x0 x1 x2 x3 x4 h E; exact nomatch (show (none : Option pR) = some _ from E)
  | succ F ih =>
    intro x0 x1 x2 x3 x4 h E
    rw [f_Mo_prepare_b9_eq] at E
    refine z_iload 4 d_Mo_prepare_9 rfl ?_
    refine z_bipush (v := (46 : Int32)) d_Mo_prepare_11 (by decide) ?_
    refine z_ic_ge (tgt := 54) d_Mo_prepare_13 (by decide) E (fun E => ?_) (fun E => ?_)
    · refine z_aload_n 0 d_Mo_prepare_54 rfl rfl ?_
      refine z_iconst (v := (0 : Int32)) d_Mo_prepare_55 (by decide) ?_
      refine z_putI (ci := 4) (j := 9) rfl (by decide) zf_Mo_113 rfl rfl d_Mo_prepare_56 E (fun h2 _ E => ?_)
      refine z_iload_n 3 d_Mo_prepare_59 rfl rfl ?_
      refine z_if_ne (y := 0) (tgt := 68) d_Mo_prepare_60 (by decide) E (fun E => ?_) (fun E => ?_)
      · refine z_iconst (v := (0 : Int32)) d_Mo_prepare_68 (by decide) ?_
        refine z_lv [0, 2] rfl ?_
        exact (w_Mo_prepare_b69 hQ) x0 x2 (0 : Int32) h2 E
      · refine z_bipush (v := (40 : Int32)) d_Mo_prepare_63 (by decide) ?_
        refine z_goto (tgt := 69) d_Mo_prepare_65 (by decide) ?_
        refine z_lv [0, 2] rfl ?_
        exact (w_Mo_prepare_b69 hQ) x0 x2 (40 : Int32) h2 E
    · refine z_aload_n 0 d_Mo_prepare_16 rfl rfl ?_
      refine z_iload_n 1 d_Mo_prepare_17 rfl rfl ?_
      refine z_iload 4 d_Mo_prepare_18 rfl ?_
      refine z_iconst (v := (2 : Int32)) d_Mo_prepare_20 (by decide) ?_
      obtain ⟨g4, v6, h3, e5, E⟩ := cI_some E
      refine z_invV (ci := 4) (y := y_Mo_stands) (Mc := M_Mo_stands) (av := [.int x1, .int x4, .int (2 : Int32)]) (rest := []) rfl rfl ⟨zt_788, zt_790, zt_31, zt_52⟩ zk_Mo_stands zy_Mo_stands (by decide) (Nat.le_of_ble_eq_true rfl) z00 rfl (Nat.le_of_ble_eq_true rfl) d_Mo_prepare_21 g4 (m_Mo_stands e5) ?_
      show Z X M_Mo_prepare 0 0 h3 24 [(0, .ref x0), (1, .int x1), (2, .int x2), (3, .int x3), (4, .int x4)] [.int v6]
      refine z_if_eq (y := 0) (tgt := 48) d_Mo_prepare_24 (by decide) E (fun E => ?_) (fun E => ?_)
      · exact (w_Mo_prepare_b48 hQ ih) x0 x1 x2 x3 x4 h3 E
      · refine z_aload_n 0 d_Mo_prepare_27 rfl rfl ?_
        refine z_getR (ci := 4) (j := 6) rfl (by decide) zf_Mo_22 d_Mo_prepare_28 E (fun v7 _ E => ?_)
        refine z_aload_n 0 d_Mo_prepare_31 rfl rfl ?_
        refine z_getI (ci := 4) (j := 7) rfl (by decide) zf_Mo_98 d_Mo_prepare_32 E (fun v8 _ E => ?_)
        refine z_iload 4 d_Mo_prepare_35 rfl ?_
        refine z_iastore d_Mo_prepare_37 E (fun h9 _ E => ?_)
        refine z_aload_n 0 d_Mo_prepare_38 rfl rfl ?_
        refine z_dup d_Mo_prepare_39 rfl ?_
        refine z_getI (ci := 4) (j := 7) rfl (by decide) zf_Mo_98 d_Mo_prepare_40 E (fun v10 _ E => ?_)
        refine z_iconst (v := (1 : Int32)) d_Mo_prepare_43 (by decide) ?_
        refine z_iadd d_Mo_prepare_44 ?_
        refine z_putI (ci := 4) (j := 7) rfl (by decide) zf_Mo_98 rfl rfl d_Mo_prepare_45 E (fun h11 _ E => ?_)
        exact (w_Mo_prepare_b48 hQ ih) x0 x1 x2 x3 x4 h11 E
set_option maxRecDepth 100000 in
set_option maxHeartbeats 4000000 in
theorem w_Mo_prepare_b0 {X : zX} {r : pR} {G : Nat} (hQ : zQ X r) : ∀ (x0 : Nat) (x1 : Int32) (x2 : Int32) (x3 : Int32) (h : pH), f_Mo_prepare G x0 x1 x2 x3 h = some r → Z X M_Mo_prepare 0 0 h 0 [(0, .ref x0), (1, .int x1), (2, .int x2), (3, .int x3)] [] := by
  intro x0 x1 x2 x3 h E
  rw [f_Mo_prepare_eq] at E
  refine z_aload_n 0 d_Mo_prepare_0 rfl rfl ?_
  refine z_iconst (v := (0 : Int32)) d_Mo_prepare_1 (by decide) ?_
  refine z_putI (ci := 4) (j := 7) rfl (by decide) zf_Mo_98 rfl rfl d_Mo_prepare_2 E (fun h1 _ E => ?_)
  refine z_bipush (v := (40 : Int32)) d_Mo_prepare_5 (by decide) ?_
  refine z_istore (lv2 := [(4, .int (40 : Int32)), (0, .ref x0), (1, .int x1), (2, .int x2), (3, .int x3)]) d_Mo_prepare_7 (Nat.le_of_ble_eq_true rfl) rfl ?_
  refine z_lv [1, 2, 3, 4, 0] rfl ?_
  exact (w_Mo_prepare_b9 hQ G) x0 x1 x2 x3 (40 : Int32) h1 E
theorem m_Mo_prepare {l : Launch} {G : Nat} {x0 : Nat} {x1 : Int32} {x2 : Int32} {x3 : Int32} {h : pH} {r : pR} (E : f_Mo_prepare G x0 x1 x2 x3 h = some r) : zMet l y_Mo_prepare M_Mo_prepare 0 0 [.ref x0, .int x1, .int x2, .int x3] h r :=
  zMet_of (by decide) rfl (Nat.le_of_ble_eq_true rfl) (fun p e s m args below meth c D0 cT => w_Mo_prepare_b0 (X := (p, l, e, s, m, args, below, meth, c, D0, cT, h, _, 0, 0)) rfl x0 x1 x2 x3 h E)

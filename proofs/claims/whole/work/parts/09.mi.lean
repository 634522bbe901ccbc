def y_Mg_findImage : MethodName := ⟨"MergeGraphs", "findImage", "(LMergeGraphs$Graph;LMergeGraphs$Graph;)Z"⟩
abbrev M_Mg_findImage : zM := (nR3, prog_1_method_33_code, 3, (some .boolean), 14)
set_option maxRecDepth 100000 in
theorem zk_Mg_findImage : Cond.code y_Mg_findImage (M_Mg_findImage).2.1 (M_Mg_findImage).2.2.1 (M_Mg_findImage).2.2.2.1 ∈ zTg := zmem 366 rfl rfl
theorem zy_Mg_findImage : (y_Mg_findImage).cls ≠ "java/lang/invoke/MethodHandle" ∧ (y_Mg_findImage).cls ≠ "java/lang/invoke/VarHandle" ∧ (parseMethodDescriptor (y_Mg_findImage).desc).map (fun d => d.parameters.length) = some 2 := by decide +kernel
theorem d_Mg_findImage_0 : decode prog_1_method_33_code 0 = .ok (.aload_n 1, 1) := by decide +kernel
theorem d_Mg_findImage_1 : decode prog_1_method_33_code 1 = .ok (.invokevirtual 70, 3) := by decide +kernel
theorem d_Mg_findImage_4 : decode prog_1_method_33_code 4 = .ok (.aload_n 2, 1) := by decide +kernel
theorem d_Mg_findImage_5 : decode prog_1_method_33_code 5 = .ok (.invokevirtual 70, 3) := by decide +kernel
theorem d_Mg_findImage_8 : decode prog_1_method_33_code 8 = .ok (.if_icmp .ne 41, 3) := by decide +kernel
theorem d_Mg_findImage_11 : decode prog_1_method_33_code 11 = .ok (.aload_n 1, 1) := by decide +kernel
theorem d_Mg_findImage_12 : decode prog_1_method_33_code 12 = .ok (.invokevirtual 74, 3) := by decide +kernel
theorem d_Mg_findImage_15 : decode prog_1_method_33_code 15 = .ok (.invokestatic 78, 3) := by decide +kernel
theorem d_Mg_findImage_18 : decode prog_1_method_33_code 18 = .ok (.aload_n 2, 1) := by decide +kernel
theorem d_Mg_findImage_19 : decode prog_1_method_33_code 19 = .ok (.invokevirtual 74, 3) := by decide +kernel
theorem d_Mg_findImage_22 : decode prog_1_method_33_code 22 = .ok (.invokestatic 78, 3) := by decide +kernel
theorem d_Mg_findImage_25 : decode prog_1_method_33_code 25 = .ok (.if_icmp .ne 24, 3) := by decide +kernel
theorem d_Mg_findImage_28 : decode prog_1_method_33_code 28 = .ok (.aload_n 0, 1) := by decide +kernel
theorem d_Mg_findImage_29 : decode prog_1_method_33_code 29 = .ok (.getfield 40, 3) := by decide +kernel
theorem d_Mg_findImage_32 : decode prog_1_method_33_code 32 = .ok (.aload_n 1, 1) := by decide +kernel
theorem d_Mg_findImage_33 : decode prog_1_method_33_code 33 = .ok (.aload_n 2, 1) := by decide +kernel
theorem d_Mg_findImage_34 : decode prog_1_method_33_code 34 = .ok (.aload_n 2, 1) := by decide +kernel
theorem d_Mg_findImage_35 : decode prog_1_method_33_code 35 = .ok (.invokevirtual 74, 3) := by decide +kernel
theorem d_Mg_findImage_38 : decode prog_1_method_33_code 38 = .ok (.iconst 1, 1) := by decide +kernel
theorem d_Mg_findImage_39 : decode prog_1_method_33_code 39 = .ok (.invokevirtual 112, 3) := by decide +kernel
theorem d_Mg_findImage_42 : decode prog_1_method_33_code 42 = .ok (.ifCond .eq 7, 3) := by decide +kernel
theorem d_Mg_findImage_45 : decode prog_1_method_33_code 45 = .ok (.iconst 1, 1) := by decide +kernel
theorem d_Mg_findImage_46 : decode prog_1_method_33_code 46 = .ok (.goto 4, 3) := by decide +kernel
theorem d_Mg_findImage_49 : decode prog_1_method_33_code 49 = .ok (.iconst 0, 1) := by decide +kernel
theorem d_Mg_findImage_50 : decode prog_1_method_33_code 50 = .ok (.ireturn, 1) := by decide +kernel
theorem zf_Mg_40 : Cond.fieldLink nR3 40 (nT3 7).1 (nT3 7).2.1 (nT3 7).2.2.1 ∈ zTg := zmem 152 (by decide +kernel) (by decide +kernel)
theorem zt_310 : (Cond.methodLink "MergeGraphs" (70 : Nat) (⟨"MergeGraphs$Graph", "count", "()I"⟩ : MethodName)) ∈ zTg := zmem 310 (by decide +kernel) (by decide +kernel)
theorem zt_321 : (Cond.methodLink "MergeGraphs" (74 : Nat) (⟨"MergeGraphs$Graph", "nodes", "()J"⟩ : MethodName)) ∈ zTg := zmem 321 (by decide +kernel) (by decide +kernel)
theorem zt_367 : (Cond.methodLink "MergeGraphs" (112 : Nat) (⟨"MergeGraphs$Search", "find", "(LMergeGraphs$Graph;LMergeGraphs$Graph;JZ)Z"⟩ : MethodName)) ∈ zTg := zmem 367 (by decide +kernel) (by decide +kernel)
theorem zt_368 : (Cond.instanceMethod (⟨"MergeGraphs$Search", "find", "(LMergeGraphs$Graph;LMergeGraphs$Graph;JZ)Z"⟩ : MethodName)) ∈ zTg := zmem 368 (by decide +kernel) (by decide +kernel)
theorem zt_369 : (Cond.selects "MergeGraphs$Search" (⟨"MergeGraphs$Search", "find", "(LMergeGraphs$Graph;LMergeGraphs$Graph;JZ)Z"⟩ : MethodName) (⟨"MergeGraphs$Search", "find", "(LMergeGraphs$Graph;LMergeGraphs$Graph;JZ)Z"⟩ : MethodName)) ∈ zTg := zmem 369 (by decide +kernel) (by decide +kernel)
def y_Mg_findShrinkingRow : MethodName := ⟨"MergeGraphs", "findShrinkingRow", "(LMergeGraphs$Graph;Z)Z"⟩
abbrev M_Mg_findShrinkingRow : zM := (nR3, prog_1_method_34_code, 7, (some .boolean), 14)
set_option maxRecDepth 100000 in
theorem zk_Mg_findShrinkingRow : Cond.code y_Mg_findShrinkingRow (M_Mg_findShrinkingRow).2.1 (M_Mg_findShrinkingRow).2.2.1 (M_Mg_findShrinkingRow).2.2.2.1 ∈ zTg := zmem 549 rfl rfl
theorem zy_Mg_findShrinkingRow : (y_Mg_findShrinkingRow).cls ≠ "java/lang/invoke/MethodHandle" ∧ (y_Mg_findShrinkingRow).cls ≠ "java/lang/invoke/VarHandle" ∧ (parseMethodDescriptor (y_Mg_findShrinkingRow).desc).map (fun d => d.parameters.length) = some 2 := by decide +kernel
theorem d_Mg_findShrinkingRow_0 : decode prog_1_method_34_code 0 = .ok (.iconst 0, 1) := by decide +kernel
theorem d_Mg_findShrinkingRow_1 : decode prog_1_method_34_code 1 = .ok (.istore_n 3, 1) := by decide +kernel
theorem d_Mg_findShrinkingRow_2 : decode prog_1_method_34_code 2 = .ok (.bipush 40, 2) := by decide +kernel
theorem d_Mg_findShrinkingRow_4 : decode prog_1_method_34_code 4 = .ok (.istore 4, 2) := by decide +kernel
theorem d_Mg_findShrinkingRow_6 : decode prog_1_method_34_code 6 = .ok (.iload 4, 2) := by decide +kernel
theorem d_Mg_findShrinkingRow_8 : decode prog_1_method_34_code 8 = .ok (.bipush 46, 2) := by decide +kernel
theorem d_Mg_findShrinkingRow_10 : decode prog_1_method_34_code 10 = .ok (.if_icmp .ge 90, 3) := by decide +kernel
theorem d_Mg_findShrinkingRow_13 : decode prog_1_method_34_code 13 = .ok (.iload_n 3, 1) := by decide +kernel
theorem d_Mg_findShrinkingRow_14 : decode prog_1_method_34_code 14 = .ok (.ifCond .eq 7, 3) := by decide +kernel
theorem d_Mg_findShrinkingRow_17 : decode prog_1_method_34_code 17 = .ok (.iload_n 2, 1) := by decide +kernel
theorem d_Mg_findShrinkingRow_18 : decode prog_1_method_34_code 18 = .ok (.ifCond .ne 82, 3) := by decide +kernel
theorem d_Mg_findShrinkingRow_21 : decode prog_1_method_34_code 21 = .ok (.aload_n 1, 1) := by decide +kernel
theorem d_Mg_findShrinkingRow_22 : decode prog_1_method_34_code 22 = .ok (.invokevirtual 84, 3) := by decide +kernel
theorem d_Mg_findShrinkingRow_25 : decode prog_1_method_34_code 25 = .ok (.lconst 1, 1) := by decide +kernel
theorem d_Mg_findShrinkingRow_26 : decode prog_1_method_34_code 26 = .ok (.iload 4, 2) := by decide +kernel
theorem d_Mg_findShrinkingRow_28 : decode prog_1_method_34_code 28 = .ok (.lshl, 1) := by decide +kernel
theorem d_Mg_findShrinkingRow_29 : decode prog_1_method_34_code 29 = .ok (.ldc2_w 189, 3) := by decide +kernel
theorem d_Mg_findShrinkingRow_32 : decode prog_1_method_34_code 32 = .ok (.lxor, 1) := by decide +kernel
theorem d_Mg_findShrinkingRow_33 : decode prog_1_method_34_code 33 = .ok (.land, 1) := by decide +kernel
theorem d_Mg_findShrinkingRow_34 : decode prog_1_method_34_code 34 = .ok (.lstore 5, 2) := by decide +kernel
theorem d_Mg_findShrinkingRow_36 : decode prog_1_method_34_code 36 = .ok (.aload_n 1, 1) := by decide +kernel
theorem d_Mg_findShrinkingRow_37 : decode prog_1_method_34_code 37 = .ok (.invokevirtual 74, 3) := by decide +kernel
theorem d_Mg_findShrinkingRow_40 : decode prog_1_method_34_code 40 = .ok (.iload 4, 2) := by decide +kernel
theorem d_Mg_findShrinkingRow_42 : decode prog_1_method_34_code 42 = .ok (.invokestatic 191, 3) := by decide +kernel
theorem d_Mg_findShrinkingRow_45 : decode prog_1_method_34_code 45 = .ok (.ifCond .eq 49, 3) := by decide +kernel
theorem d_Mg_findShrinkingRow_48 : decode prog_1_method_34_code 48 = .ok (.aload_n 0, 1) := by decide +kernel
theorem d_Mg_findShrinkingRow_49 : decode prog_1_method_34_code 49 = .ok (.getfield 40, 3) := by decide +kernel
theorem d_Mg_findShrinkingRow_52 : decode prog_1_method_34_code 52 = .ok (.aload_n 1, 1) := by decide +kernel
theorem d_Mg_findShrinkingRow_53 : decode prog_1_method_34_code 53 = .ok (.aload_n 1, 1) := by decide +kernel
theorem d_Mg_findShrinkingRow_54 : decode prog_1_method_34_code 54 = .ok (.lload 5, 2) := by decide +kernel
theorem d_Mg_findShrinkingRow_56 : decode prog_1_method_34_code 56 = .ok (.iconst 0, 1) := by decide +kernel
theorem d_Mg_findShrinkingRow_57 : decode prog_1_method_34_code 57 = .ok (.invokevirtual 112, 3) := by decide +kernel
theorem d_Mg_findShrinkingRow_60 : decode prog_1_method_34_code 60 = .ok (.ifCond .eq 34, 3) := by decide +kernel
theorem d_Mg_findShrinkingRow_63 : decode prog_1_method_34_code 63 = .ok (.iload_n 3, 1) := by decide +kernel
theorem d_Mg_findShrinkingRow_64 : decode prog_1_method_34_code 64 = .ok (.ifCond .eq 17, 3) := by decide +kernel
theorem d_Mg_findShrinkingRow_67 : decode prog_1_method_34_code 67 = .ok (.aload_n 0, 1) := by decide +kernel
theorem d_Mg_findShrinkingRow_68 : decode prog_1_method_34_code 68 = .ok (.getfield 40, 3) := by decide +kernel
theorem d_Mg_findShrinkingRow_71 : decode prog_1_method_34_code 71 = .ok (.aload_n 0, 1) := by decide +kernel
theorem d_Mg_findShrinkingRow_72 : decode prog_1_method_34_code 72 = .ok (.getfield 34, 3) := by decide +kernel
theorem d_Mg_findShrinkingRow_75 : decode prog_1_method_34_code 75 = .ok (.invokevirtual 195, 3) := by decide +kernel
theorem d_Mg_findShrinkingRow_78 : decode prog_1_method_34_code 78 = .ok (.ifCond .eq 16, 3) := by decide +kernel
theorem d_Mg_findShrinkingRow_81 : decode prog_1_method_34_code 81 = .ok (.aload_n 0, 1) := by decide +kernel
theorem d_Mg_findShrinkingRow_82 : decode prog_1_method_34_code 82 = .ok (.getfield 40, 3) := by decide +kernel
theorem d_Mg_findShrinkingRow_85 : decode prog_1_method_34_code 85 = .ok (.aload_n 0, 1) := by decide +kernel
theorem d_Mg_findShrinkingRow_86 : decode prog_1_method_34_code 86 = .ok (.getfield 34, 3) := by decide +kernel
theorem d_Mg_findShrinkingRow_89 : decode prog_1_method_34_code 89 = .ok (.invokevirtual 199, 3) := by decide +kernel
theorem d_Mg_findShrinkingRow_92 : decode prog_1_method_34_code 92 = .ok (.iconst 1, 1) := by decide +kernel
theorem d_Mg_findShrinkingRow_93 : decode prog_1_method_34_code 93 = .ok (.istore_n 3, 1) := by decide +kernel
theorem d_Mg_findShrinkingRow_94 : decode prog_1_method_34_code 94 = .ok (.iinc 4 1, 3) := by decide +kernel
theorem d_Mg_findShrinkingRow_97 : decode prog_1_method_34_code 97 = .ok (.goto (-91), 3) := by decide +kernel
theorem d_Mg_findShrinkingRow_100 : decode prog_1_method_34_code 100 = .ok (.iload_n 3, 1) := by decide +kernel
theorem d_Mg_findShrinkingRow_101 : decode prog_1_method_34_code 101 = .ok (.ireturn, 1) := by decide +kernel
theorem zf_Mg_34 : Cond.fieldLink nR3 34 (nT3 6).1 (nT3 6).2.1 (nT3 6).2.2.1 ∈ zTg := zmem 151 (by decide +kernel) (by decide +kernel)
theorem zt_342 : (Cond.methodLink "MergeGraphs" (84 : Nat) (⟨"MergeGraphs$Graph", "terms", "()J"⟩ : MethodName)) ∈ zTg := zmem 342 (by decide +kernel) (by decide +kernel)
theorem zt_550 : (Cond.constantLong "MergeGraphs" (189 : Nat) (-1 : Int64)) ∈ zTg := zmem 550 (by decide +kernel) (by decide +kernel)
theorem zt_551 : (Cond.methodLink "MergeGraphs" (191 : Nat) (⟨"MergeGraphs", "isIn", "(JI)Z"⟩ : MethodName)) ∈ zTg := zmem 551 (by decide +kernel) (by decide +kernel)
theorem zt_552 : (Cond.methodLink "MergeGraphs" (195 : Nat) (⟨"MergeGraphs$Search", "rowIsBefore", "([I)Z"⟩ : MethodName)) ∈ zTg := zmem 552 (by decide +kernel) (by decide +kernel)
theorem zt_553 : (Cond.instanceMethod (⟨"MergeGraphs$Search", "rowIsBefore", "([I)Z"⟩ : MethodName)) ∈ zTg := zmem 553 (by decide +kernel) (by decide +kernel)
theorem zt_554 : (Cond.selects "MergeGraphs$Search" (⟨"MergeGraphs$Search", "rowIsBefore", "([I)Z"⟩ : MethodName) (⟨"MergeGraphs$Search", "rowIsBefore", "([I)Z"⟩ : MethodName)) ∈ zTg := zmem 554 (by decide +kernel) (by decide +kernel)
theorem zt_557 : (Cond.methodLink "MergeGraphs" (199 : Nat) (⟨"MergeGraphs$Search", "giveRow", "([I)V"⟩ : MethodName)) ∈ zTg := zmem 557 (by decide +kernel) (by decide +kernel)
theorem zt_558 : (Cond.instanceMethod (⟨"MergeGraphs$Search", "giveRow", "([I)V"⟩ : MethodName)) ∈ zTg := zmem 558 (by decide +kernel) (by decide +kernel)
theorem zt_559 : (Cond.selects "MergeGraphs$Search" (⟨"MergeGraphs$Search", "giveRow", "([I)V"⟩ : MethodName) (⟨"MergeGraphs$Search", "giveRow", "([I)V"⟩ : MethodName)) ∈ zTg := zmem 559 (by decide +kernel) (by decide +kernel)
def y_Mg_chooseOtherNodes : MethodName := ⟨"MergeGraphs", "chooseOtherNodes", "(JJ)Z"⟩
abbrev M_Mg_chooseOtherNodes : zM := (nR3, prog_1_method_35_code, 8, (some .boolean), 2)
set_option maxRecDepth 100000 in
theorem zk_Mg_chooseOtherNodes : Cond.code y_Mg_chooseOtherNodes (M_Mg_chooseOtherNodes).2.1 (M_Mg_chooseOtherNodes).2.2.1 (M_Mg_chooseOtherNodes).2.2.2.1 ∈ zTg := zmem 588 rfl rfl
theorem zy_Mg_chooseOtherNodes : (y_Mg_chooseOtherNodes).cls ≠ "java/lang/invoke/MethodHandle" ∧ (y_Mg_chooseOtherNodes).cls ≠ "java/lang/invoke/VarHandle" ∧ (parseMethodDescriptor (y_Mg_chooseOtherNodes).desc).map (fun d => d.parameters.length) = some 2 := by decide +kernel
theorem d_Mg_chooseOtherNodes_0 : decode prog_1_method_35_code 0 = .ok (.ldc2_w 203, 3) := by decide +kernel
theorem d_Mg_chooseOtherNodes_3 : decode prog_1_method_35_code 3 = .ok (.lload_n 1, 1) := by decide +kernel
theorem d_Mg_chooseOtherNodes_4 : decode prog_1_method_35_code 4 = .ok (.ldc2_w 189, 3) := by decide +kernel
theorem d_Mg_chooseOtherNodes_7 : decode prog_1_method_35_code 7 = .ok (.lxor, 1) := by decide +kernel
theorem d_Mg_chooseOtherNodes_8 : decode prog_1_method_35_code 8 = .ok (.land, 1) := by decide +kernel
theorem d_Mg_chooseOtherNodes_9 : decode prog_1_method_35_code 9 = .ok (.lstore 5, 2) := by decide +kernel
theorem d_Mg_chooseOtherNodes_11 : decode prog_1_method_35_code 11 = .ok (.iconst 0, 1) := by decide +kernel
theorem d_Mg_chooseOtherNodes_12 : decode prog_1_method_35_code 12 = .ok (.istore 7, 2) := by decide +kernel
theorem d_Mg_chooseOtherNodes_14 : decode prog_1_method_35_code 14 = .ok (.iload 7, 2) := by decide +kernel
theorem d_Mg_chooseOtherNodes_16 : decode prog_1_method_35_code 16 = .ok (.bipush 6, 2) := by decide +kernel
theorem d_Mg_chooseOtherNodes_18 : decode prog_1_method_35_code 18 = .ok (.if_icmp .ge 59, 3) := by decide +kernel
theorem d_Mg_chooseOtherNodes_21 : decode prog_1_method_35_code 21 = .ok (.aload_n 0, 1) := by decide +kernel
theorem d_Mg_chooseOtherNodes_22 : decode prog_1_method_35_code 22 = .ok (.getfield 34, 3) := by decide +kernel
theorem d_Mg_chooseOtherNodes_25 : decode prog_1_method_35_code 25 = .ok (.iload 7, 2) := by decide +kernel
theorem d_Mg_chooseOtherNodes_27 : decode prog_1_method_35_code 27 = .ok (.iconst (-1), 1) := by decide +kernel
theorem d_Mg_chooseOtherNodes_28 : decode prog_1_method_35_code 28 = .ok (.iastore, 1) := by decide +kernel
theorem d_Mg_chooseOtherNodes_29 : decode prog_1_method_35_code 29 = .ok (.lload_n 3, 1) := by decide +kernel
theorem d_Mg_chooseOtherNodes_30 : decode prog_1_method_35_code 30 = .ok (.bipush 40, 2) := by decide +kernel
theorem d_Mg_chooseOtherNodes_32 : decode prog_1_method_35_code 32 = .ok (.iload 7, 2) := by decide +kernel
theorem d_Mg_chooseOtherNodes_34 : decode prog_1_method_35_code 34 = .ok (.iadd, 1) := by decide +kernel
theorem d_Mg_chooseOtherNodes_35 : decode prog_1_method_35_code 35 = .ok (.invokestatic 191, 3) := by decide +kernel
theorem d_Mg_chooseOtherNodes_38 : decode prog_1_method_35_code 38 = .ok (.ifCond .eq 33, 3) := by decide +kernel
theorem d_Mg_chooseOtherNodes_41 : decode prog_1_method_35_code 41 = .ok (.lload 5, 2) := by decide +kernel
theorem d_Mg_chooseOtherNodes_43 : decode prog_1_method_35_code 43 = .ok (.lconst 0, 1) := by decide +kernel
theorem d_Mg_chooseOtherNodes_44 : decode prog_1_method_35_code 44 = .ok (.lcmp, 1) := by decide +kernel
theorem d_Mg_chooseOtherNodes_45 : decode prog_1_method_35_code 45 = .ok (.ifCond .ne 5, 3) := by decide +kernel
theorem d_Mg_chooseOtherNodes_48 : decode prog_1_method_35_code 48 = .ok (.iconst 0, 1) := by decide +kernel
theorem d_Mg_chooseOtherNodes_49 : decode prog_1_method_35_code 49 = .ok (.ireturn, 1) := by decide +kernel
theorem d_Mg_chooseOtherNodes_50 : decode prog_1_method_35_code 50 = .ok (.aload_n 0, 1) := by decide +kernel
theorem d_Mg_chooseOtherNodes_51 : decode prog_1_method_35_code 51 = .ok (.getfield 34, 3) := by decide +kernel
theorem d_Mg_chooseOtherNodes_54 : decode prog_1_method_35_code 54 = .ok (.iload 7, 2) := by decide +kernel
theorem d_Mg_chooseOtherNodes_56 : decode prog_1_method_35_code 56 = .ok (.lload 5, 2) := by decide +kernel
theorem d_Mg_chooseOtherNodes_58 : decode prog_1_method_35_code 58 = .ok (.invokestatic 205, 3) := by decide +kernel
theorem d_Mg_chooseOtherNodes_61 : decode prog_1_method_35_code 61 = .ok (.iastore, 1) := by decide +kernel
theorem d_Mg_chooseOtherNodes_62 : decode prog_1_method_35_code 62 = .ok (.lload 5, 2) := by decide +kernel
theorem d_Mg_chooseOtherNodes_64 : decode prog_1_method_35_code 64 = .ok (.lload 5, 2) := by decide +kernel
theorem d_Mg_chooseOtherNodes_66 : decode prog_1_method_35_code 66 = .ok (.lconst 1, 1) := by decide +kernel
theorem d_Mg_chooseOtherNodes_67 : decode prog_1_method_35_code 67 = .ok (.lsub, 1) := by decide +kernel
theorem d_Mg_chooseOtherNodes_68 : decode prog_1_method_35_code 68 = .ok (.land, 1) := by decide +kernel
theorem d_Mg_chooseOtherNodes_69 : decode prog_1_method_35_code 69 = .ok (.lstore 5, 2) := by decide +kernel
theorem d_Mg_chooseOtherNodes_71 : decode prog_1_method_35_code 71 = .ok (.iinc 7 1, 3) := by decide +kernel
theorem d_Mg_chooseOtherNodes_74 : decode prog_1_method_35_code 74 = .ok (.goto (-60), 3) := by decide +kernel
theorem d_Mg_chooseOtherNodes_77 : decode prog_1_method_35_code 77 = .ok (.iconst 1, 1) := by decide +kernel
theorem d_Mg_chooseOtherNodes_78 : decode prog_1_method_35_code 78 = .ok (.ireturn, 1) := by decide +kernel
theorem zt_589 : (Cond.constantLong "MergeGraphs" (203 : Nat) (69269232549888 : Int64)) ∈ zTg := zmem 589 (by decide +kernel) (by decide +kernel)
theorem zt_590 : (Cond.methodLink "MergeGraphs" (205 : Nat) (⟨"MergeGraphs", "lowestOf", "(J)I"⟩ : MethodName)) ∈ zTg := zmem 590 (by decide +kernel) (by decide +kernel)
def y_Mg_draftMerged : MethodName := ⟨"MergeGraphs", "draftMerged", "(LMergeGraphs$Graph;LMergeGraphs$Graph;LMergeGraphs$Graph;)Z"⟩
abbrev M_Mg_draftMerged : zM := (nR3, prog_1_method_37_code, 4, (some .boolean), 3)
set_option maxRecDepth 100000 in
theorem zk_Mg_draftMerged : Cond.code y_Mg_draftMerged (M_Mg_draftMerged).2.1 (M_Mg_draftMerged).2.2.1 (M_Mg_draftMerged).2.2.2.1 ∈ zTg := zmem 601 rfl rfl
theorem zy_Mg_draftMerged : (y_Mg_draftMerged).cls ≠ "java/lang/invoke/MethodHandle" ∧ (y_Mg_draftMerged).cls ≠ "java/lang/invoke/VarHandle" ∧ (parseMethodDescriptor (y_Mg_draftMerged).desc).map (fun d => d.parameters.length) = some 3 := by decide +kernel
theorem d_Mg_draftMerged_0 : decode prog_1_method_37_code 0 = .ok (.aload_n 0, 1) := by decide +kernel
theorem d_Mg_draftMerged_1 : decode prog_1_method_37_code 1 = .ok (.getfield 16, 3) := by decide +kernel
theorem d_Mg_draftMerged_4 : decode prog_1_method_37_code 4 = .ok (.invokevirtual 120, 3) := by decide +kernel
theorem d_Mg_draftMerged_7 : decode prog_1_method_37_code 7 = .ok (.aload_n 0, 1) := by decide +kernel
theorem d_Mg_draftMerged_8 : decode prog_1_method_37_code 8 = .ok (.getfield 16, 3) := by decide +kernel
theorem d_Mg_draftMerged_11 : decode prog_1_method_37_code 11 = .ok (.aload_n 1, 1) := by decide +kernel
theorem d_Mg_draftMerged_12 : decode prog_1_method_37_code 12 = .ok (.aload_n 2, 1) := by decide +kernel
theorem d_Mg_draftMerged_13 : decode prog_1_method_37_code 13 = .ok (.aload_n 3, 1) := by decide +kernel
theorem d_Mg_draftMerged_14 : decode prog_1_method_37_code 14 = .ok (.invokevirtual 208, 3) := by decide +kernel
theorem d_Mg_draftMerged_17 : decode prog_1_method_37_code 17 = .ok (.aload_n 0, 1) := by decide +kernel
theorem d_Mg_draftMerged_18 : decode prog_1_method_37_code 18 = .ok (.getfield 16, 3) := by decide +kernel
theorem d_Mg_draftMerged_21 : decode prog_1_method_37_code 21 = .ok (.aload_n 2, 1) := by decide +kernel
theorem d_Mg_draftMerged_22 : decode prog_1_method_37_code 22 = .ok (.aload_n 1, 1) := by decide +kernel
theorem d_Mg_draftMerged_23 : decode prog_1_method_37_code 23 = .ok (.invokevirtual 149, 3) := by decide +kernel
theorem d_Mg_draftMerged_26 : decode prog_1_method_37_code 26 = .ok (.ifCond .eq 19, 3) := by decide +kernel
theorem d_Mg_draftMerged_29 : decode prog_1_method_37_code 29 = .ok (.aload_n 0, 1) := by decide +kernel
theorem d_Mg_draftMerged_30 : decode prog_1_method_37_code 30 = .ok (.getfield 16, 3) := by decide +kernel
theorem d_Mg_draftMerged_33 : decode prog_1_method_37_code 33 = .ok (.aload_n 3, 1) := by decide +kernel
theorem d_Mg_draftMerged_34 : decode prog_1_method_37_code 34 = .ok (.aload_n 1, 1) := by decide +kernel
theorem d_Mg_draftMerged_35 : decode prog_1_method_37_code 35 = .ok (.invokevirtual 149, 3) := by decide +kernel
theorem d_Mg_draftMerged_38 : decode prog_1_method_37_code 38 = .ok (.ifCond .eq 7, 3) := by decide +kernel
theorem d_Mg_draftMerged_41 : decode prog_1_method_37_code 41 = .ok (.iconst 1, 1) := by decide +kernel
theorem d_Mg_draftMerged_42 : decode prog_1_method_37_code 42 = .ok (.goto 4, 3) := by decide +kernel
theorem d_Mg_draftMerged_45 : decode prog_1_method_37_code 45 = .ok (.iconst 0, 1) := by decide +kernel
theorem d_Mg_draftMerged_46 : decode prog_1_method_37_code 46 = .ok (.ireturn, 1) := by decide +kernel
theorem zf_Mg_16 : Cond.fieldLink nR3 16 (nT3 1).1 (nT3 1).2.1 (nT3 1).2.2.1 ∈ zTg := zmem 146 (by decide +kernel) (by decide +kernel)
theorem zt_568 : (Cond.methodLink "MergeGraphs" (120 : Nat) (⟨"MergeGraphs$Graph", "clear", "()V"⟩ : MethodName)) ∈ zTg := zmem 568 (by decide +kernel) (by decide +kernel)
theorem zt_569 : (Cond.instanceMethod (⟨"MergeGraphs$Graph", "clear", "()V"⟩ : MethodName)) ∈ zTg := zmem 569 (by decide +kernel) (by decide +kernel)
theorem zt_570 : (Cond.selects "MergeGraphs$Graph" (⟨"MergeGraphs$Graph", "clear", "()V"⟩ : MethodName) (⟨"MergeGraphs$Graph", "clear", "()V"⟩ : MethodName)) ∈ zTg := zmem 570 (by decide +kernel) (by decide +kernel)
theorem zt_602 : (Cond.methodLink "MergeGraphs" (208 : Nat) (⟨"MergeGraphs$Graph", "insertKept", "(LMergeGraphs$Graph;LMergeGraphs$Graph;LMergeGraphs$Graph;)V"⟩ : MethodName)) ∈ zTg := zmem 602 (by decide +kernel) (by decide +kernel)
theorem zt_603 : (Cond.instanceMethod (⟨"MergeGraphs$Graph", "insertKept", "(LMergeGraphs$Graph;LMergeGraphs$Graph;LMergeGraphs$Graph;)V"⟩ : MethodName)) ∈ zTg := zmem 603 (by decide +kernel) (by decide +kernel)
theorem zt_604 : (Cond.selects "MergeGraphs$Graph" (⟨"MergeGraphs$Graph", "insertKept", "(LMergeGraphs$Graph;LMergeGraphs$Graph;LMergeGraphs$Graph;)V"⟩ : MethodName) (⟨"MergeGraphs$Graph", "insertKept", "(LMergeGraphs$Graph;LMergeGraphs$Graph;LMergeGraphs$Graph;)V"⟩ : MethodName)) ∈ zTg := zmem 604 (by decide +kernel) (by decide +kernel)
theorem zt_610 : (Cond.methodLink "MergeGraphs" (149 : Nat) (⟨"MergeGraphs$Graph", "insertMissing", "(LMergeGraphs$Graph;LMergeGraphs$Graph;)Z"⟩ : MethodName)) ∈ zTg := zmem 610 (by decide +kernel) (by decide +kernel)
theorem zt_611 : (Cond.instanceMethod (⟨"MergeGraphs$Graph", "insertMissing", "(LMergeGraphs$Graph;LMergeGraphs$Graph;)Z"⟩ : MethodName)) ∈ zTg := zmem 611 (by decide +kernel) (by decide +kernel)
theorem zt_612 : (Cond.selects "MergeGraphs$Graph" (⟨"MergeGraphs$Graph", "insertMissing", "(LMergeGraphs$Graph;LMergeGraphs$Graph;)Z"⟩ : MethodName) (⟨"MergeGraphs$Graph", "insertMissing", "(LMergeGraphs$Graph;LMergeGraphs$Graph;)Z"⟩ : MethodName)) ∈ zTg := zmem 612 (by decide +kernel) (by decide +kernel)
def y_Mg_clashTerms : MethodName := ⟨"MergeGraphs", "clashTerms", "(LMergeGraphs$Graph;LMergeGraphs$Graph;LMergeGraphs$Graph;)J"⟩
abbrev M_Mg_clashTerms : zM := (nR3, prog_1_method_38_code, 3, (some .long), 3)
set_option maxRecDepth 100000 in
theorem zk_Mg_clashTerms : Cond.code y_Mg_clashTerms (M_Mg_clashTerms).2.1 (M_Mg_clashTerms).2.2.1 (M_Mg_clashTerms).2.2.2.1 ∈ zTg := zmem 616 rfl rfl
theorem zy_Mg_clashTerms : (y_Mg_clashTerms).cls ≠ "java/lang/invoke/MethodHandle" ∧ (y_Mg_clashTerms).cls ≠ "java/lang/invoke/VarHandle" ∧ (parseMethodDescriptor (y_Mg_clashTerms).desc).map (fun d => d.parameters.length) = some 3 := by decide +kernel
theorem d_Mg_clashTerms_0 : decode prog_1_method_38_code 0 = .ok (.aload_n 0, 1) := by decide +kernel
theorem d_Mg_clashTerms_1 : decode prog_1_method_38_code 1 = .ok (.invokevirtual 212, 3) := by decide +kernel
theorem d_Mg_clashTerms_4 : decode prog_1_method_38_code 4 = .ok (.aload_n 1, 1) := by decide +kernel
theorem d_Mg_clashTerms_5 : decode prog_1_method_38_code 5 = .ok (.invokevirtual 212, 3) := by decide +kernel
theorem d_Mg_clashTerms_8 : decode prog_1_method_38_code 8 = .ok (.ldc2_w 189, 3) := by decide +kernel
theorem d_Mg_clashTerms_11 : decode prog_1_method_38_code 11 = .ok (.lxor, 1) := by decide +kernel
theorem d_Mg_clashTerms_12 : decode prog_1_method_38_code 12 = .ok (.land, 1) := by decide +kernel
theorem d_Mg_clashTerms_13 : decode prog_1_method_38_code 13 = .ok (.aload_n 2, 1) := by decide +kernel
theorem d_Mg_clashTerms_14 : decode prog_1_method_38_code 14 = .ok (.aload_n 0, 1) := by decide +kernel
theorem d_Mg_clashTerms_15 : decode prog_1_method_38_code 15 = .ok (.invokevirtual 215, 3) := by decide +kernel
theorem d_Mg_clashTerms_18 : decode prog_1_method_38_code 18 = .ok (.land, 1) := by decide +kernel
theorem d_Mg_clashTerms_19 : decode prog_1_method_38_code 19 = .ok (.lreturn, 1) := by decide +kernel
theorem zt_617 : (Cond.methodLink "MergeGraphs" (212 : Nat) (⟨"MergeGraphs$Graph", "subjects", "()J"⟩ : MethodName)) ∈ zTg := zmem 617 (by decide +kernel) (by decide +kernel)
theorem zt_618 : (Cond.instanceMethod (⟨"MergeGraphs$Graph", "subjects", "()J"⟩ : MethodName)) ∈ zTg := zmem 618 (by decide +kernel) (by decide +kernel)
theorem zt_619 : (Cond.selects "MergeGraphs$Graph" (⟨"MergeGraphs$Graph", "subjects", "()J"⟩ : MethodName) (⟨"MergeGraphs$Graph", "subjects", "()J"⟩ : MethodName)) ∈ zTg := zmem 619 (by decide +kernel) (by decide +kernel)
theorem zt_621 : (Cond.methodLink "MergeGraphs" (215 : Nat) (⟨"MergeGraphs$Graph", "termsMissing", "(LMergeGraphs$Graph;)J"⟩ : MethodName)) ∈ zTg := zmem 621 (by decide +kernel) (by decide +kernel)
theorem zt_622 : (Cond.instanceMethod (⟨"MergeGraphs$Graph", "termsMissing", "(LMergeGraphs$Graph;)J"⟩ : MethodName)) ∈ zTg := zmem 622 (by decide +kernel) (by decide +kernel)
theorem zt_623 : (Cond.selects "MergeGraphs$Graph" (⟨"MergeGraphs$Graph", "termsMissing", "(LMergeGraphs$Graph;)J"⟩ : MethodName) (⟨"MergeGraphs$Graph", "termsMissing", "(LMergeGraphs$Graph;)J"⟩ : MethodName)) ∈ zTg := zmem 623 (by decide +kernel) (by decide +kernel)
def y_Mg_noteClashes : MethodName := ⟨"MergeGraphs", "noteClashes", "(JJ)V"⟩
abbrev M_Mg_noteClashes : zM := (nR3, prog_1_method_39_code, 8, none, 1)
set_option maxRecDepth 100000 in
theorem zk_Mg_noteClashes : Cond.code y_Mg_noteClashes (M_Mg_noteClashes).2.1 (M_Mg_noteClashes).2.2.1 (M_Mg_noteClashes).2.2.2.1 ∈ zTg := zmem 628 rfl rfl
theorem zy_Mg_noteClashes : (y_Mg_noteClashes).cls ≠ "java/lang/invoke/MethodHandle" ∧ (y_Mg_noteClashes).cls ≠ "java/lang/invoke/VarHandle" ∧ (parseMethodDescriptor (y_Mg_noteClashes).desc).map (fun d => d.parameters.length) = some 2 := by decide +kernel
theorem d_Mg_noteClashes_0 : decode prog_1_method_39_code 0 = .ok (.aload_n 0, 1) := by decide +kernel
theorem d_Mg_noteClashes_1 : decode prog_1_method_39_code 1 = .ok (.iconst 0, 1) := by decide +kernel
theorem d_Mg_noteClashes_2 : decode prog_1_method_39_code 2 = .ok (.putfield 30, 3) := by decide +kernel
theorem d_Mg_noteClashes_5 : decode prog_1_method_39_code 5 = .ok (.iconst 0, 1) := by decide +kernel
theorem d_Mg_noteClashes_6 : decode prog_1_method_39_code 6 = .ok (.istore 5, 2) := by decide +kernel
theorem d_Mg_noteClashes_8 : decode prog_1_method_39_code 8 = .ok (.iload 5, 2) := by decide +kernel
theorem d_Mg_noteClashes_10 : decode prog_1_method_39_code 10 = .ok (.bipush 92, 2) := by decide +kernel
theorem d_Mg_noteClashes_12 : decode prog_1_method_39_code 12 = .ok (.if_icmp .ge 68, 3) := by decide +kernel
theorem d_Mg_noteClashes_15 : decode prog_1_method_39_code 15 = .ok (.iload 5, 2) := by decide +kernel
theorem d_Mg_noteClashes_17 : decode prog_1_method_39_code 17 = .ok (.iconst 1, 1) := by decide +kernel
theorem d_Mg_noteClashes_18 : decode prog_1_method_39_code 18 = .ok (.iand, 1) := by decide +kernel
theorem d_Mg_noteClashes_19 : decode prog_1_method_39_code 19 = .ok (.ifCond .ne 7, 3) := by decide +kernel
theorem d_Mg_noteClashes_22 : decode prog_1_method_39_code 22 = .ok (.lload_n 1, 1) := by decide +kernel
theorem d_Mg_noteClashes_23 : decode prog_1_method_39_code 23 = .ok (.goto 4, 3) := by decide +kernel
theorem d_Mg_noteClashes_26 : decode prog_1_method_39_code 26 = .ok (.lload_n 3, 1) := by decide +kernel
theorem d_Mg_noteClashes_27 : decode prog_1_method_39_code 27 = .ok (.lstore 6, 2) := by decide +kernel
theorem d_Mg_noteClashes_29 : decode prog_1_method_39_code 29 = .ok (.lload 6, 2) := by decide +kernel
theorem d_Mg_noteClashes_31 : decode prog_1_method_39_code 31 = .ok (.iload 5, 2) := by decide +kernel
theorem d_Mg_noteClashes_33 : decode prog_1_method_39_code 33 = .ok (.iconst 1, 1) := by decide +kernel
theorem d_Mg_noteClashes_34 : decode prog_1_method_39_code 34 = .ok (.ishr, 1) := by decide +kernel
theorem d_Mg_noteClashes_35 : decode prog_1_method_39_code 35 = .ok (.invokestatic 191, 3) := by decide +kernel
theorem d_Mg_noteClashes_38 : decode prog_1_method_39_code 38 = .ok (.ifCond .eq 36, 3) := by decide +kernel
theorem d_Mg_noteClashes_41 : decode prog_1_method_39_code 41 = .ok (.aload_n 0, 1) := by decide +kernel
theorem d_Mg_noteClashes_42 : decode prog_1_method_39_code 42 = .ok (.getfield 30, 3) := by decide +kernel
theorem d_Mg_noteClashes_45 : decode prog_1_method_39_code 45 = .ok (.aload_n 0, 1) := by decide +kernel
theorem d_Mg_noteClashes_46 : decode prog_1_method_39_code 46 = .ok (.getfield 26, 3) := by decide +kernel
theorem d_Mg_noteClashes_49 : decode prog_1_method_39_code 49 = .ok (.arraylength, 1) := by decide +kernel
theorem d_Mg_noteClashes_50 : decode prog_1_method_39_code 50 = .ok (.if_icmp .ge 24, 3) := by decide +kernel
theorem d_Mg_noteClashes_53 : decode prog_1_method_39_code 53 = .ok (.aload_n 0, 1) := by decide +kernel
theorem d_Mg_noteClashes_54 : decode prog_1_method_39_code 54 = .ok (.getfield 26, 3) := by decide +kernel
theorem d_Mg_noteClashes_57 : decode prog_1_method_39_code 57 = .ok (.aload_n 0, 1) := by decide +kernel
theorem d_Mg_noteClashes_58 : decode prog_1_method_39_code 58 = .ok (.getfield 30, 3) := by decide +kernel
theorem d_Mg_noteClashes_61 : decode prog_1_method_39_code 61 = .ok (.iload 5, 2) := by decide +kernel
theorem d_Mg_noteClashes_63 : decode prog_1_method_39_code 63 = .ok (.iastore, 1) := by decide +kernel
theorem d_Mg_noteClashes_64 : decode prog_1_method_39_code 64 = .ok (.aload_n 0, 1) := by decide +kernel
theorem d_Mg_noteClashes_65 : decode prog_1_method_39_code 65 = .ok (.dup, 1) := by decide +kernel
theorem d_Mg_noteClashes_66 : decode prog_1_method_39_code 66 = .ok (.getfield 30, 3) := by decide +kernel
theorem d_Mg_noteClashes_69 : decode prog_1_method_39_code 69 = .ok (.iconst 1, 1) := by decide +kernel
theorem d_Mg_noteClashes_70 : decode prog_1_method_39_code 70 = .ok (.iadd, 1) := by decide +kernel
theorem d_Mg_noteClashes_71 : decode prog_1_method_39_code 71 = .ok (.putfield 30, 3) := by decide +kernel
theorem d_Mg_noteClashes_74 : decode prog_1_method_39_code 74 = .ok (.iinc 5 1, 3) := by decide +kernel
theorem d_Mg_noteClashes_77 : decode prog_1_method_39_code 77 = .ok (.goto (-69), 3) := by decide +kernel
theorem d_Mg_noteClashes_80 : decode prog_1_method_39_code 80 = .ok (.return_, 1) := by decide +kernel
theorem zf_Mg_26 : Cond.fieldLink nR3 26 (nT3 4).1 (nT3 4).2.1 (nT3 4).2.2.1 ∈ zTg := zmem 149 (by decide +kernel) (by decide +kernel)
theorem zf_Mg_30 : Cond.fieldLink nR3 30 (nT3 5).1 (nT3 5).2.1 (nT3 5).2.2.1 ∈ zTg := zmem 150 (by decide +kernel) (by decide +kernel)
def f_Mg_findImage_b49 (G : Nat) (k50 : Int32 → pH → Option pR) (h : pH) : Option pR := k50 (0 : Int32) h
theorem f_Mg_findImage_b49_eq (G : Nat) (k50 : Int32 → pH → Option pR) (h : pH) : f_Mg_findImage_b49 G k50 h = (k50 (0 : Int32) h) := rfl
def f_Mg_findImage_b50 (G : Nat) (s0 : Int32) (h : pH) : Option pR := (if isZ s0 = true then some (some (.int s0), h) else none)
theorem f_Mg_findImage_b50_eq (G : Nat) (s0 : Int32) (h : pH) : f_Mg_findImage_b50 G s0 h = ((if isZ s0 = true then some (some (.int s0), h) else none)) := rfl
def f_Mg_findImage (G : Nat) (x0 : Nat) (x1 : Nat) (x2 : Nat) (h : pH) : Option pR := cI (oC h x1 0) (f_Gr_count G x1 h) fun v4 h1 => cI (oC h1 x2 0) (f_Gr_count G x2 h1) fun v8 h5 => if v4 = v8 then (cJ (oC h5 x1 0) (f_Gr_nodes G x1 h5) fun v12 h9 => cI true (f_Lo_bitCount G v12 h9) fun v16 h13 => cJ (oC h13 x2 0) (f_Gr_nodes G x2 h13) fun v20 h17 => cI true (f_Lo_bitCount G v20 h17) fun v24 h21 => if v16 = v24 then ((gR h21 x0 3 7).bind fun v25 => cJ (oC h21 x2 0) (f_Gr_nodes G x2 h21) fun v29 h26 => cI (oC h26 v25 1) (f_Se_find G v25 x1 x2 v29 (1 : Int32) h26) fun v33 h30 => if v33 = 0 then ((f_Mg_findImage_b49 G (f_Mg_findImage_b50 G)) h30) else ((f_Mg_findImage_b50 G) (1 : Int32) h30)) else ((f_Mg_findImage_b49 G (f_Mg_findImage_b50 G)) h21)) else ((f_Mg_findImage_b49 G (f_Mg_findImage_b50 G)) h5)
theorem f_Mg_findImage_eq (G : Nat) (x0 : Nat) (x1 : Nat) (x2 : Nat) (h : pH) : f_Mg_findImage G x0 x1 x2 h = (cI (oC h x1 0) (f_Gr_count G x1 h) fun v4 h1 => cI (oC h1 x2 0) (f_Gr_count G x2 h1) fun v8 h5 => if v4 = v8 then (cJ (oC h5 x1 0) (f_Gr_nodes G x1 h5) fun v12 h9 => cI true (f_Lo_bitCount G v12 h9) fun v16 h13 => cJ (oC h13 x2 0) (f_Gr_nodes G x2 h13) fun v20 h17 => cI true (f_Lo_bitCount G v20 h17) fun v24 h21 => if v16 = v24 then ((gR h21 x0 3 7).bind fun v25 => cJ (oC h21 x2 0) (f_Gr_nodes G x2 h21) fun v29 h26 => cI (oC h26 v25 1) (f_Se_find G v25 x1 x2 v29 (1 : Int32) h26) fun v33 h30 => if v33 = 0 then ((f_Mg_findImage_b49 G (f_Mg_findImage_b50 G)) h30) else ((f_Mg_findImage_b50 G) (1 : Int32) h30)) else ((f_Mg_findImage_b49 G (f_Mg_findImage_b50 G)) h21)) else ((f_Mg_findImage_b49 G (f_Mg_findImage_b50 G)) h5)) := rfl
set_option maxRecDepth 100000 in
set_option maxHeartbeats 4000000 in
theorem w_Mg_findImage_b49 {X : zX} {r : pR} {G : Nat} {k50 : Int32 → pH → Option pR} (hQ : zQ X r) (hk50 : ∀ (s0 : Int32) (h : pH), k50 s0 h = some r → Z X M_Mg_findImage 0 0 h 50 [] [.int s0]) : ∀ (h : pH), f_Mg_findImage_b49 G k50 h = some r → Z X M_Mg_findImage 0 0 h 49 [] [] := by
  intro h E
  rw [f_Mg_findImage_b49_eq] at E
  refine z_iconst (v := (0 : Int32)) d_Mg_findImage_49 (by decide) ?_
  exact hk50 (0 : Int32) h E
set_option maxRecDepth 100000 in
set_option maxHeartbeats 4000000 in
theorem w_Mg_findImage_b50 {X : zX} {r : pR} {G : Nat} (hQ : zQ X r) : ∀ (s0 : Int32) (h : pH), f_Mg_findImage_b50 G s0 h = some r → Z X M_Mg_findImage 0 0 h 50 [] [.int s0] := by
  intro s0 h E
  rw [f_Mg_findImage_b50_eq] at E
  exact z_zreturn hQ rfl z00 d_Mg_findImage_50 E
set_option maxRecDepth 100000 in
set_option maxHeartbeats 4000000 in
theorem w_Mg_findImage_b0 {X : zX} {r : pR} {G : Nat} (hQ : zQ X r) : ∀ (x0 : Nat) (x1 : Nat) (x2 : Nat) (h : pH), f_Mg_findImage G x0 x1 x2 h = some r → Z X M_Mg_findImage 0 0 h 0 [(0, .ref x0), (1, .ref x1), (2, .ref x2)] [] := by
  intro x0 x1 x2 h E
  rw [f_Mg_findImage_eq] at E
  refine z_aload_n 1 d_Mg_findImage_0 rfl rfl ?_
  obtain ⟨g2, v4, h1, e3, E⟩ := cI_some E
  refine z_invV (ci := 0) (y := y_Gr_count) (Mc := M_Gr_count) (av := []) (rest := []) rfl rfl ⟨zt_310, zt_311, zt_312, zt_49⟩ zk_Gr_count zy_Gr_count (by decide) (Nat.le_of_ble_eq_true rfl) z00 rfl (Nat.le_of_ble_eq_true rfl) d_Mg_findImage_1 g2 (m_Gr_count e3) ?_
  show Z X M_Mg_findImage 0 0 h1 4 [(0, .ref x0), (1, .ref x1), (2, .ref x2)] [.int v4]
  refine z_aload_n 2 d_Mg_findImage_4 rfl rfl ?_
  obtain ⟨g6, v8, h5, e7, E⟩ := cI_some E
  refine z_invV (ci := 0) (y := y_Gr_count) (Mc := M_Gr_count) (av := []) (rest := [.int v4]) rfl rfl ⟨zt_310, zt_311, zt_312, zt_49⟩ zk_Gr_count zy_Gr_count (by decide) (Nat.le_of_ble_eq_true rfl) z00 rfl (Nat.le_of_ble_eq_true rfl) d_Mg_findImage_5 g6 (m_Gr_count e7) ?_
  show Z X M_Mg_findImage 0 0 h5 8 [(0, .ref x0), (1, .ref x1), (2, .ref x2)] [.int v8, .int v4]
  refine z_ic_ne (tgt := 49) d_Mg_findImage_8 (by decide) E (fun E => ?_) (fun E => ?_)
  · refine z_lv [] rfl ?_
    exact (w_Mg_findImage_b49 hQ (w_Mg_findImage_b50 hQ)) h5 E
  · refine z_aload_n 1 d_Mg_findImage_11 rfl rfl ?_
    obtain ⟨g10, v12, h9, e11, E⟩ := cJ_some E
    refine z_invV (ci := 0) (y := y_Gr_nodes) (Mc := M_Gr_nodes) (av := []) (rest := []) rfl rfl ⟨zt_321, zt_322, zt_323, zt_49⟩ zk_Gr_nodes zy_Gr_nodes (by decide) (Nat.le_of_ble_eq_true rfl) z00 rfl (Nat.le_of_ble_eq_true rfl) d_Mg_findImage_12 g10 (m_Gr_nodes e11) ?_
    show Z X M_Mg_findImage 0 0 h9 15 [(0, .ref x0), (1, .ref x1), (2, .ref x2)] [.long v12]
    obtain ⟨g14, v16, h13, e15, E⟩ := cI_some E
    refine z_invS (y := y_Lo_bitCount) (Mc := M_Lo_bitCount) (av := [.long v12]) (rest := []) ⟨zt_336, zt_337, zt_58⟩ zk_Lo_bitCount zy_Lo_bitCount (by decide) (Nat.le_of_ble_eq_true rfl) z00 rfl (Nat.le_of_ble_eq_true rfl) d_Mg_findImage_15 (m_Lo_bitCount e15) ?_
    show Z X M_Mg_findImage 0 0 h13 18 [(0, .ref x0), (1, .ref x1), (2, .ref x2)] [.int v16]
    refine z_aload_n 2 d_Mg_findImage_18 rfl rfl ?_
    obtain ⟨g18, v20, h17, e19, E⟩ := cJ_some E
    refine z_invV (ci := 0) (y := y_Gr_nodes) (Mc := M_Gr_nodes) (av := []) (rest := [.int v16]) rfl rfl ⟨zt_321, zt_322, zt_323, zt_49⟩ zk_Gr_nodes zy_Gr_nodes (by decide) (Nat.le_of_ble_eq_true rfl) z00 rfl (Nat.le_of_ble_eq_true rfl) d_Mg_findImage_19 g18 (m_Gr_nodes e19) ?_
    show Z X M_Mg_findImage 0 0 h17 22 [(0, .ref x0), (1, .ref x1), (2, .ref x2)] [.long v20, .int v16]
    obtain ⟨g22, v24, h21, e23, E⟩ := cI_some E
    refine z_invS (y := y_Lo_bitCount) (Mc := M_Lo_bitCount) (av := [.long v20]) (rest := [.int v16]) ⟨zt_336, zt_337, zt_58⟩ zk_Lo_bitCount zy_Lo_bitCount (by decide) (Nat.le_of_ble_eq_true rfl) z00 rfl (Nat.le_of_ble_eq_true rfl) d_Mg_findImage_22 (m_Lo_bitCount e23) ?_
    show Z X M_Mg_findImage 0 0 h21 25 [(0, .ref x0), (1, .ref x1), (2, .ref x2)] [.int v24, .int v16]
    refine z_ic_ne (tgt := 49) d_Mg_findImage_25 (by decide) E (fun E => ?_) (fun E => ?_)
    · refine z_lv [] rfl ?_
      exact (w_Mg_findImage_b49 hQ (w_Mg_findImage_b50 hQ)) h21 E
    · refine z_aload_n 0 d_Mg_findImage_28 rfl rfl ?_
      refine z_getR (ci := 3) (j := 7) rfl (by decide) zf_Mg_40 d_Mg_findImage_29 E (fun v25 _ E => ?_)
      refine z_aload_n 1 d_Mg_findImage_32 rfl rfl ?_
      refine z_aload_n 2 d_Mg_findImage_33 rfl rfl ?_
      refine z_aload_n 2 d_Mg_findImage_34 rfl rfl ?_
      obtain ⟨g27, v29, h26, e28, E⟩ := cJ_some E
      refine z_invV (ci := 0) (y := y_Gr_nodes) (Mc := M_Gr_nodes) (av := []) (rest := [.ref x2, .ref x1, .ref v25]) rfl rfl ⟨zt_321, zt_322, zt_323, zt_49⟩ zk_Gr_nodes zy_Gr_nodes (by decide) (Nat.le_of_ble_eq_true rfl) z00 rfl (Nat.le_of_ble_eq_true rfl) d_Mg_findImage_35 g27 (m_Gr_nodes e28) ?_
      show Z X M_Mg_findImage 0 0 h26 38 [(0, .ref x0), (1, .ref x1), (2, .ref x2)] [.long v29, .ref x2, .ref x1, .ref v25]
      refine z_iconst (v := (1 : Int32)) d_Mg_findImage_38 (by decide) ?_
      obtain ⟨g31, v33, h30, e32, E⟩ := cI_some E
      refine z_invV (ci := 1) (y := y_Se_find) (Mc := M_Se_find) (av := [.ref x1, .ref x2, .long v29, .int (1 : Int32)]) (rest := []) rfl rfl ⟨zt_367, zt_368, zt_369, zt_50⟩ zk_Se_find zy_Se_find (by decide) (Nat.le_of_ble_eq_true rfl) z00 rfl (Nat.le_of_ble_eq_true rfl) d_Mg_findImage_39 g31 (m_Se_find e32) ?_
      show Z X M_Mg_findImage 0 0 h30 42 [(0, .ref x0), (1, .ref x1), (2, .ref x2)] [.int v33]
      refine z_if_eq (y := 0) (tgt := 49) d_Mg_findImage_42 (by decide) E (fun E => ?_) (fun E => ?_)
      · refine z_lv [] rfl ?_
        exact (w_Mg_findImage_b49 hQ (w_Mg_findImage_b50 hQ)) h30 E
      · refine z_iconst (v := (1 : Int32)) d_Mg_findImage_45 (by decide) ?_
        refine z_goto (tgt := 50) d_Mg_findImage_46 (by decide) ?_
        refine z_lv [] rfl ?_
        exact (w_Mg_findImage_b50 hQ) (1 : Int32) h30 E
theorem m_Mg_findImage {l : Launch} {G : Nat} {x0 : Nat} {x1 : Nat} {x2 : Nat} {h : pH} {r : pR} (E : f_Mg_findImage G x0 x1 x2 h = some r) : zMet l y_Mg_findImage M_Mg_findImage 0 0 [.ref x0, .ref x1, .ref x2] h r :=
  zMet_of (by decide) rfl (Nat.le_of_ble_eq_true rfl) (fun p e s m args below meth c D0 cT => w_Mg_findImage_b0 (X := (p, l, e, s, m, args, below, meth, c, D0, cT, h, _, 0, 0)) rfl x0 x1 x2 h E)
def f_Mg_findShrinkingRow_b81 (G : Nat) (k94 : Nat → Nat → Int32 → Int32 → Int32 → pH → Option pR) (x0 : Nat) (x1 : Nat) (x2 : Int32) (x4 : Int32) (h : pH) : Option pR := (gR h x0 3 7).bind fun v24 => (gR h x0 3 6).bind fun v25 => cV (oC h v24 1) (f_Se_giveRow G v24 v25 h) fun h26 => k94 x0 x1 x2 (1 : Int32) x4 h26
theorem f_Mg_findShrinkingRow_b81_eq (G : Nat) (k94 : Nat → Nat → Int32 → Int32 → Int32 → pH → Option pR) (x0 : Nat) (x1 : Nat) (x2 : Int32) (x4 : Int32) (h : pH) : f_Mg_findShrinkingRow_b81 G k94 x0 x1 x2 x4 h = ((gR h x0 3 7).bind fun v24 => (gR h x0 3 6).bind fun v25 => cV (oC h v24 1) (f_Se_giveRow G v24 v25 h) fun h26 => k94 x0 x1 x2 (1 : Int32) x4 h26) := rfl
def f_Mg_findShrinkingRow_b94 (G : Nat) (k6 : Nat → Nat → Int32 → Int32 → Int32 → pH → Option pR) (x0 : Nat) (x1 : Nat) (x2 : Int32) (x3 : Int32) (x4 : Int32) (h : pH) : Option pR := k6 x0 x1 x2 x3 (x4 + 1) h
theorem f_Mg_findShrinkingRow_b94_eq (G : Nat) (k6 : Nat → Nat → Int32 → Int32 → Int32 → pH → Option pR) (x0 : Nat) (x1 : Nat) (x2 : Int32) (x3 : Int32) (x4 : Int32) (h : pH) : f_Mg_findShrinkingRow_b94 G k6 x0 x1 x2 x3 x4 h = (k6 x0 x1 x2 x3 (x4 + 1) h) := rfl
def f_Mg_findShrinkingRow_b21 (G : Nat) (k6 : Nat → Nat → Int32 → Int32 → Int32 → pH → Option pR) (x0 : Nat) (x1 : Nat) (x2 : Int32) (x3 : Int32) (x4 : Int32) (h : pH) : Option pR := cJ (oC h x1 0) (f_Gr_terms G x1 h) fun v4 h1 => cJ (oC h1 x1 0) (f_Gr_nodes G x1 h1) fun v8 h5 => cI true (f_Mg_isIn G v8 x4 h5) fun v12 h9 => if v12 = 0 then ((f_Mg_findShrinkingRow_b94 G k6) x0 x1 x2 x3 x4 h9) else ((gR h9 x0 3 7).bind fun v13 => cI (oC h9 v13 1) (f_Se_find G v13 x1 x1 (v4 &&& (((1 : Int64) <<< ((x4).toInt64 &&& 63)) ^^^ (-1 : Int64))) (0 : Int32) h9) fun v17 h14 => if v17 = 0 then ((f_Mg_findShrinkingRow_b94 G k6) x0 x1 x2 x3 x4 h14) else (if x3 = 0 then ((f_Mg_findShrinkingRow_b81 G (f_Mg_findShrinkingRow_b94 G k6)) x0 x1 x2 x4 h14) else ((gR h14 x0 3 7).bind fun v18 => (gR h14 x0 3 6).bind fun v19 => cI (oC h14 v18 1) (f_Se_rowIsBefore G v18 v19 h14) fun v23 h20 => if v23 = 0 then ((f_Mg_findShrinkingRow_b94 G k6) x0 x1 x2 x3 x4 h20) else ((f_Mg_findShrinkingRow_b81 G (f_Mg_findShrinkingRow_b94 G k6)) x0 x1 x2 x4 h20))))
theorem f_Mg_findShrinkingRow_b21_eq (G : Nat) (k6 : Nat → Nat → Int32 → Int32 → Int32 → pH → Option pR) (x0 : Nat) (x1 : Nat) (x2 : Int32) (x3 : Int32) (x4 : Int32) (h : pH) : f_Mg_findShrinkingRow_b21 G k6 x0 x1 x2 x3 x4 h = (cJ (oC h x1 0) (f_Gr_terms G x1 h) fun v4 h1 => cJ (oC h1 x1 0) (f_Gr_nodes G x1 h1) fun v8 h5 => cI true (f_Mg_isIn G v8 x4 h5) fun v12 h9 => if v12 = 0 then ((f_Mg_findShrinkingRow_b94 G k6) x0 x1 x2 x3 x4 h9) else ((gR h9 x0 3 7).bind fun v13 => cI (oC h9 v13 1) (f_Se_find G v13 x1 x1 (v4 &&& (((1 : Int64) <<< ((x4).toInt64 &&& 63)) ^^^ (-1 : Int64))) (0 : Int32) h9) fun v17 h14 => if v17 = 0 then ((f_Mg_findShrinkingRow_b94 G k6) x0 x1 x2 x3 x4 h14) else (if x3 = 0 then ((f_Mg_findShrinkingRow_b81 G (f_Mg_findShrinkingRow_b94 G k6)) x0 x1 x2 x4 h14) else ((gR h14 x0 3 7).bind fun v18 => (gR h14 x0 3 6).bind fun v19 => cI (oC h14 v18 1) (f_Se_rowIsBefore G v18 v19 h14) fun v23 h20 => if v23 = 0 then ((f_Mg_findShrinkingRow_b94 G k6) x0 x1 x2 x3 x4 h20) else ((f_Mg_findShrinkingRow_b81 G (f_Mg_findShrinkingRow_b94 G k6)) x0 x1 x2 x4 h20))))) := rfl
def f_Mg_findShrinkingRow_b100 (G : Nat) (x3 : Int32) (h : pH) : Option pR := (if isZ x3 = true then some (some (.int x3), h) else none)
theorem f_Mg_findShrinkingRow_b100_eq (G : Nat) (x3 : Int32) (h : pH) : f_Mg_findShrinkingRow_b100 G x3 h = ((if isZ x3 = true then some (some (.int x3), h) else none)) := rfl
def f_Mg_findShrinkingRow_b6 (G : Nat) : Nat → Nat → Nat → Int32 → Int32 → Int32 → pH → Option pR
  | 0 => fun _ _ _ _ _ _ => none
  | F + 1 => fun x0 x1 x2 x3 x4 h => if (46 : Int32) ≤ x4 then ((f_Mg_findShrinkingRow_b100 G) x3 h) else (if x3 = 0 then ((f_Mg_findShrinkingRow_b21 G (f_Mg_findShrinkingRow_b6 G F)) x0 x1 x2 x3 x4 h) else (if x2 = 0 then ((f_Mg_findShrinkingRow_b21 G (f_Mg_findShrinkingRow_b6 G F)) x0 x1 x2 x3 x4 h) else ((f_Mg_findShrinkingRow_b100 G) x3 h)))
theorem f_Mg_findShrinkingRow_b6_eq (G : Nat) (F : Nat) (x0 : Nat) (x1 : Nat) (x2 : Int32) (x3 : Int32) (x4 : Int32) (h : pH) : f_Mg_findShrinkingRow_b6 G (F + 1) x0 x1 x2 x3 x4 h = (if (46 : Int32) ≤ x4 then ((f_Mg_findShrinkingRow_b100 G) x3 h) else (if x3 = 0 then ((f_Mg_findShrinkingRow_b21 G (f_Mg_findShrinkingRow_b6 G F)) x0 x1 x2 x3 x4 h) else (if x2 = 0 then ((f_Mg_findShrinkingRow_b21 G (f_Mg_findShrinkingRow_b6 G F)) x0 x1 x2 x3 x4 h) else ((f_Mg_findShrinkingRow_b100 G) x3 h)))) := rfl
def f_Mg_findShrinkingRow (G : Nat) (x0 : Nat) (x1 : Nat) (x2 : Int32) (h : pH) : Option pR := (f_Mg_findShrinkingRow_b6 G G) x0 x1 x2 (0 : Int32) (40 : Int32) h
theorem f_Mg_findShrinkingRow_eq (G : Nat) (x0 : Nat) (x1 : Nat) (x2 : Int32) (h : pH) : f_Mg_findShrinkingRow G x0 x1 x2 h = ((f_Mg_findShrinkingRow_b6 G G) x0 x1 x2 (0 : Int32) (40 : Int32) h) := rfl
set_option maxRecDepth 100000 in
set_option maxHeartbeats 4000000 in
theorem w_Mg_findShrinkingRow_b81 {X : zX} {r : pR} {G : Nat} {k94 : Nat → Nat → Int32 → Int32 → Int32 → pH → Option pR} (hQ : zQ X r) (hk94 : ∀ (x0 : Nat) (x1 : Nat) (x2 : Int32) (x3 : Int32) (x4 : Int32) (h : pH), k94 x0 x1 x2 x3 x4 h = some r → Z X M_Mg_findShrinkingRow 0 0 h 94 [(0, .ref x0), (1, .ref x1), (2, .int x2), (3, .int x3), (4, .int x4)] []) : ∀ (x0 : Nat) (x1 : Nat) (x2 : Int32) (x4 : Int32) (h : pH), f_Mg_findShrinkingRow_b81 G k94 x0 x1 x2 x4 h = some r → Z X M_Mg_findShrinkingRow 0 0 h 81 [(0, .ref x0), (1, .ref x1), (2, .int x2), (4, .int x4)] [] := by
  intro x0 x1 x2 x4 h E
  rw [f_Mg_findShrinkingRow_b81_eq] at E
  refine z_aload_n 0 d_Mg_findShrinkingRow_81 rfl rfl ?_
  refine z_getR (ci := 3) (j := 7) rfl (by decide) zf_Mg_40 d_Mg_findShrinkingRow_82 E (fun v24 _ E => ?_)
  refine z_aload_n 0 d_Mg_findShrinkingRow_85 rfl rfl ?_
  refine z_getR (ci := 3) (j := 6) rfl (by decide) zf_Mg_34 d_Mg_findShrinkingRow_86 E (fun v25 _ E => ?_)
  obtain ⟨g27, h26, e28, E⟩ := cV_some E
  refine z_invV (ci := 1) (y := y_Se_giveRow) (Mc := M_Se_giveRow) (av := [.ref v25]) (rest := []) rfl rfl ⟨zt_557, zt_558, zt_559, zt_50⟩ zk_Se_giveRow zy_Se_giveRow (by decide) (Nat.le_of_ble_eq_true rfl) z00 rfl (Nat.le_of_ble_eq_true rfl) d_Mg_findShrinkingRow_89 g27 (m_Se_giveRow e28) ?_
  show Z X M_Mg_findShrinkingRow 0 0 h26 92 [(0, .ref x0), (1, .ref x1), (2, .int x2), (4, .int x4)] []
  refine z_iconst (v := (1 : Int32)) d_Mg_findShrinkingRow_92 (by decide) ?_
  refine z_istore_n (lv2 := [(3, .int (1 : Int32)), (0, .ref x0), (1, .ref x1), (2, .int x2), (4, .int x4)]) d_Mg_findShrinkingRow_93 rfl (Nat.le_of_ble_eq_true rfl) rfl ?_
  refine z_lv [1, 2, 3, 0, 4] rfl ?_
  exact hk94 x0 x1 x2 (1 : Int32) x4 h26 E
set_option maxRecDepth 100000 in
set_option maxHeartbeats 4000000 in
theorem w_Mg_findShrinkingRow_b94 {X : zX} {r : pR} {G : Nat} {k6 : Nat → Nat → Int32 → Int32 → Int32 → pH → Option pR} (hQ : zQ X r) (hk6 : ∀ (x0 : Nat) (x1 : Nat) (x2 : Int32) (x3 : Int32) (x4 : Int32) (h : pH), k6 x0 x1 x2 x3 x4 h = some r → Z X M_Mg_findShrinkingRow 0 0 h 6 [(0, .ref x0), (1, .ref x1), (2, .int x2), (3, .int x3), (4, .int x4)] []) : ∀ (x0 : Nat) (x1 : Nat) (x2 : Int32) (x3 : Int32) (x4 : Int32) (h : pH), f_Mg_findShrinkingRow_b94 G k6 x0 x1 x2 x3 x4 h = some r → Z X M_Mg_findShrinkingRow 0 0 h 94 [(0, .ref x0), (1, .ref x1), (2, .int x2), (3, .int x3), (4, .int x4)] [] := by
  intro x0 x1 x2 x3 x4 h E
  rw [f_Mg_findShrinkingRow_b94_eq] at E
  refine z_iinc (v := (x4 + 1)) (lv2 := [(4, .int (x4 + 1)), (0, .ref x0), (1, .ref x1), (2, .int x2), (3, .int x3)]) 4 d_Mg_findShrinkingRow_94 rfl rfl (Nat.le_of_ble_eq_true rfl) rfl ?_
  refine z_goto (tgt := 6) d_Mg_findShrinkingRow_97 (by decide) ?_
  refine z_lv [1, 2, 3, 4, 0] rfl ?_
  exact hk6 x0 x1 x2 x3 (x4 + 1) h E
set_option maxRecDepth 100000 in
set_option maxHeartbeats 4000000 in
theorem w_Mg_findShrinkingRow_b21 {X : zX} {r : pR} {G : Nat} {k6 : Nat → Nat → Int32 → Int32 → Int32 → pH → Option pR} (hQ : zQ X r) (hk6 : ∀ (x0 : Nat) (x1 : Nat) (x2 : Int32) (x3 : Int32) (x4 : Int32) (h : pH), k6 x0 x1 x2 x3 x4 h = some r → Z X M_Mg_findShrinkingRow 0 0 h 6 [(0, .ref x0), (1, .ref x1), (2, .int x2), (3, .int x3), (4, .int x4)] []) : ∀ (x0 : Nat) (x1 : Nat) (x2 : Int32) (x3 : Int32) (x4 : Int32) (h : pH), f_Mg_findShrinkingRow_b21 G k6 x0 x1 x2 x3 x4 h = some r → Z X M_Mg_findShrinkingRow 0 0 h 21 [(0, .ref x0), (1, .ref x1), (2, .int x2), (3, .int x3), (4, .int x4)] [] := by
  intro x0 x1 x2 x3 x4 h E
  rw [f_Mg_findShrinkingRow_b21_eq] at E
  refine z_aload_n 1 d_Mg_findShrinkingRow_21 rfl rfl ?_
  obtain ⟨g2, v4, h1, e3, E⟩ := cJ_some E
  refine z_invV (ci := 0) (y := y_Gr_terms) (Mc := M_Gr_terms) (av := []) (rest := []) rfl rfl ⟨zt_342, zt_326, zt_327, zt_49⟩ zk_Gr_terms zy_Gr_terms (by decide) (Nat.le_of_ble_eq_true rfl) z00 rfl (Nat.le_of_ble_eq_true rfl) d_Mg_findShrinkingRow_22 g2 (m_Gr_terms e3) ?_
  show Z X M_Mg_findShrinkingRow 0 0 h1 25 [(0, .ref x0), (1, .ref x1), (2, .int x2), (3, .int x3), (4, .int x4)] [.long v4]
  refine z_lconst (v := (1 : Int64)) d_Mg_findShrinkingRow_25 (by decide) ?_
  refine z_iload 4 d_Mg_findShrinkingRow_26 rfl ?_
  refine z_lshl d_Mg_findShrinkingRow_28 ?_
  refine z_ldc2 (v := (-1 : Int64)) d_Mg_findShrinkingRow_29 zt_550 ?_
  refine z_lxor d_Mg_findShrinkingRow_32 ?_
  refine z_land d_Mg_findShrinkingRow_33 ?_
  refine z_lstore (lv2 := [(5, .long (v4 &&& (((1 : Int64) <<< ((x4).toInt64 &&& 63)) ^^^ (-1 : Int64)))), (0, .ref x0), (1, .ref x1), (2, .int x2), (3, .int x3), (4, .int x4)]) d_Mg_findShrinkingRow_34 (Nat.le_of_ble_eq_true rfl) rfl ?_
  refine z_aload_n 2 d_Mg_findShrinkingRow_36 rfl rfl ?_
  obtain ⟨g6, v8, h5, e7, E⟩ := cJ_some E
  refine z_invV (ci := 0) (y := y_Gr_nodes) (Mc := M_Gr_nodes) (av := []) (rest := []) rfl rfl ⟨zt_321, zt_322, zt_323, zt_49⟩ zk_Gr_nodes zy_Gr_nodes (by decide) (Nat.le_of_ble_eq_true rfl) z00 rfl (Nat.le_of_ble_eq_true rfl) d_Mg_findShrinkingRow_37 g6 (m_Gr_nodes e7) ?_
  show Z X M_Mg_findShrinkingRow 0 0 h5 40 [(5, .long (v4 &&& (((1 : Int64) <<< ((x4).toInt64 &&& 63)) ^^^ (-1 : Int64)))), (0, .ref x0), (1, .ref x1), (2, .int x2), (3, .int x3), (4, .int x4)] [.long v8]
  refine z_iload 5 d_Mg_findShrinkingRow_40 rfl ?_
  obtain ⟨g10, v12, h9, e11, E⟩ := cI_some E
  refine z_invS (y := y_Mg_isIn) (Mc := M_Mg_isIn) (av := [.long v8, .int x4]) (rest := []) ⟨zt_551, zt_395, zt_48⟩ zk_Mg_isIn zy_Mg_isIn (by decide) (Nat.le_of_ble_eq_true rfl) z00 rfl (Nat.le_of_ble_eq_true rfl) d_Mg_findShrinkingRow_42 (m_Mg_isIn e11) ?_
  show Z X M_Mg_findShrinkingRow 0 0 h9 45 [(5, .long (v4 &&& (((1 : Int64) <<< ((x4).toInt64 &&& 63)) ^^^ (-1 : Int64)))), (0, .ref x0), (1, .ref x1), (2, .int x2), (3, .int x3), (4, .int x4)] [.int v12]
  refine z_if_eq (y := 0) (tgt := 94) d_Mg_findShrinkingRow_45 (by decide) E (fun E => ?_) (fun E => ?_)
  · refine z_lv [1, 2, 3, 4, 5] rfl ?_
    exact (w_Mg_findShrinkingRow_b94 hQ hk6) x0 x1 x2 x3 x4 h9 E
  · refine z_aload_n 1 d_Mg_findShrinkingRow_48 rfl rfl ?_
    refine z_getR (ci := 3) (j := 7) rfl (by decide) zf_Mg_40 d_Mg_findShrinkingRow_49 E (fun v13 _ E => ?_)
    refine z_aload_n 2 d_Mg_findShrinkingRow_52 rfl rfl ?_
    refine z_aload_n 2 d_Mg_findShrinkingRow_53 rfl rfl ?_
    refine z_lload 0 d_Mg_findShrinkingRow_54 rfl ?_
    refine z_iconst (v := (0 : Int32)) d_Mg_findShrinkingRow_56 (by decide) ?_
    obtain ⟨g15, v17, h14, e16, E⟩ := cI_some E
    refine z_invV (ci := 1) (y := y_Se_find) (Mc := M_Se_find) (av := [.ref x1, .ref x1, .long (v4 &&& (((1 : Int64) <<< ((x4).toInt64 &&& 63)) ^^^ (-1 : Int64))), .int (0 : Int32)]) (rest := []) rfl rfl ⟨zt_367, zt_368, zt_369, zt_50⟩ zk_Se_find zy_Se_find (by decide) (Nat.le_of_ble_eq_true rfl) z00 rfl (Nat.le_of_ble_eq_true rfl) d_Mg_findShrinkingRow_57 g15 (m_Se_find e16) ?_
    show Z X M_Mg_findShrinkingRow 0 0 h14 60 [(5, .long (v4 &&& (((1 : Int64) <<< ((x4).toInt64 &&& 63)) ^^^ (-1 : Int64)))), (0, .ref x0), (1, .ref x1), (2, .int x2), (3, .int x3), (4, .int x4)] [.int v17]
    refine z_if_eq (y := 0) (tgt := 94) d_Mg_findShrinkingRow_60 (by decide) E (fun E => ?_) (fun E => ?_)
    · refine z_lv [1, 2, 3, 4, 5] rfl ?_
      exact (w_Mg_findShrinkingRow_b94 hQ hk6) x0 x1 x2 x3 x4 h14 E
    · refine z_iload_n 4 d_Mg_findShrinkingRow_63 rfl rfl ?_
      refine z_if_eq (y := 0) (tgt := 81) d_Mg_findShrinkingRow_64 (by decide) E (fun E => ?_) (fun E => ?_)
      · refine z_lv [1, 2, 3, 5] rfl ?_
        exact (w_Mg_findShrinkingRow_b81 hQ (w_Mg_findShrinkingRow_b94 hQ hk6)) x0 x1 x2 x4 h14 E
      · refine z_aload_n 1 d_Mg_findShrinkingRow_67 rfl rfl ?_
        refine z_getR (ci := 3) (j := 7) rfl (by decide) zf_Mg_40 d_Mg_findShrinkingRow_68 E (fun v18 _ E => ?_)
        refine z_aload_n 1 d_Mg_findShrinkingRow_71 rfl rfl ?_
        refine z_getR (ci := 3) (j := 6) rfl (by decide) zf_Mg_34 d_Mg_findShrinkingRow_72 E (fun v19 _ E => ?_)
        obtain ⟨g21, v23, h20, e22, E⟩ := cI_some E
        refine z_invV (ci := 1) (y := y_Se_rowIsBefore) (Mc := M_Se_rowIsBefore) (av := [.ref v19]) (rest := []) rfl rfl ⟨zt_552, zt_553, zt_554, zt_50⟩ zk_Se_rowIsBefore zy_Se_rowIsBefore (by decide) (Nat.le_of_ble_eq_true rfl) z00 rfl (Nat.le_of_ble_eq_true rfl) d_Mg_findShrinkingRow_75 g21 (m_Se_rowIsBefore e22) ?_
        show Z X M_Mg_findShrinkingRow 0 0 h20 78 [(5, .long (v4 &&& (((1 : Int64) <<< ((x4).toInt64 &&& 63)) ^^^ (-1 : Int64)))), (0, .ref x0), (1, .ref x1), (2, .int x2), (3, .int x3), (4, .int x4)] [.int v23]
        refine z_if_eq (y := 0) (tgt := 94) d_Mg_findShrinkingRow_78 (by decide) E (fun E => ?_) (fun E => ?_)
        · refine z_lv [1, 2, 3, 4, 5] rfl ?_
          exact (w_Mg_findShrinkingRow_b94 hQ hk6) x0 x1 x2 x3 x4 h20 E
        · refine z_lv [1, 2, 3, 5] rfl ?_
          exact (w_Mg_findShrinkingRow_b81 hQ (w_Mg_findShrinkingRow_b94 hQ hk6)) x0 x1 x2 x4 h20 E
set_option maxRecDepth 100000 in
set_option maxHeartbeats 4000000 in
theorem w_Mg_findShrinkingRow_b100 {X : zX} {r : pR} {G : Nat} (hQ : zQ X r) : ∀ (x3 : Int32) (h : pH), f_Mg_findShrinkingRow_b100 G x3 h = some r → Z X M_Mg_findShrinkingRow 0 0 h 100 [(3, .int x3)] [] := by
  intro x3 h E
  rw [f_Mg_findShrinkingRow_b100_eq] at E
  refine z_iload_n 0 d_Mg_findShrinkingRow_100 rfl rfl ?_
  exact z_zreturn hQ rfl z00 d_Mg_findShrinkingRow_101 E
set_option maxRecDepth 100000 in
set_option maxHeartbeats 4000000 in
theorem w_Mg_findShrinkingRow_b6 {X : zX} {r : pR} {G : Nat} (hQ : zQ X r) : ∀ (F : Nat) (x0 : Nat) (x1 : Nat) (x2 : Int32) (x3 : Int32) (x4 : Int32) (h : pH), f_Mg_findShrinkingRow_b6 G F x0 x1 x2 x3 x4 h = some r → Z X M_Mg_findShrinkingRow 0 0 h 6 [(0, .ref x0), (1, .ref x1), (2, .int x2), (3, .int x3), (4, .int x4)] [] := by
  intro F
  induction F with
  | zero => intro x0 x1 x2 x3 x4 h E; exact nomatch (show (none : Option pR) = some _ from E)
  | succ F ih =>
    intro x0 x1 x2 x3 x4 h E
    rw [f_Mg_findShrinkingRow_b6_eq] at E
    refine z_iload 4 d_Mg_findShrinkingRow_6 rfl ?_
    refine z_bipush (v := (46 : Int32)) d_Mg_findShrinkingRow_8 (by decide) ?_
    refine z_ic_ge (tgt := 100) d_Mg_findShrinkingRow_10 (by decide) E (fun E => ?_) (fun E => ?_)
    · refine z_lv [3] rfl ?_
      exact (w_Mg_findShrinkingRow_b100 hQ) x3 h E
    · refine z_iload_n 3 d_Mg_findShrinkingRow_13 rfl rfl ?_
      refine z_if_eq (y := 0) (tgt := 21) d_Mg_findShrinkingRow_14 (by decide) E (fun E => ?_) (fun E => ?_)
      · exact (w_Mg_findShrinkingRow_b21 hQ ih) x0 x1 x2 x3 x4 h E
      · refine z_iload_n 2 d_Mg_findShrinkingRow_17 rfl rfl ?_
        refine z_if_ne (y := 0) (tgt := 100) d_Mg_findShrinkingRow_18 (by decide) E (fun E => ?_) (fun E => ?_)
        · refine z_lv [3] rfl ?_
          exact (w_Mg_findShrinkingRow_b100 hQ) x3 h E
        · exact (w_Mg_findShrinkingRow_b21 hQ ih) x0 x1 x2 x3 x4 h E
set_option maxRecDepth 100000 in
set_option maxHeartbeats 4000000 in
theorem w_Mg_findShrinkingRow_b0 {X : zX} {r : pR} {G : Nat} (hQ : zQ X r) : ∀ (x0 : Nat) (x1 : Nat) (x2 : Int32) (h : pH), f_Mg_findShrinkingRow G x0 x1 x2 h = some r → Z X M_Mg_findShrinkingRow 0 0 h 0 [(0, .ref x0), (1, .ref x1), (2, .int x2)] [] := by
  intro x0 x1 x2 h E
  rw [f_Mg_findShrinkingRow_eq] at E
  refine z_iconst (v := (0 : Int32)) d_Mg_findShrinkingRow_0 (by decide) ?_
  refine z_istore_n (lv2 := [(3, .int (0 : Int32)), (0, .ref x0), (1, .ref x1), (2, .int x2)]) d_Mg_findShrinkingRow_1 rfl (Nat.le_of_ble_eq_true rfl) rfl ?_
  refine z_bipush (v := (40 : Int32)) d_Mg_findShrinkingRow_2 (by decide) ?_
  refine z_istore (lv2 := [(4, .int (40 : Int32)), (3, .int (0 : Int32)), (0, .ref x0), (1, .ref x1), (2, .int x2)]) d_Mg_findShrinkingRow_4 (Nat.le_of_ble_eq_true rfl) rfl ?_
  refine z_lv [2, 3, 4, 1, 0] rfl ?_
  exact (w_Mg_findShrinkingRow_b6 hQ G) x0 x1 x2 (0 : Int32) (40 : Int32) h E
theorem m_Mg_findShrinkingRow {l : Launch} {G : Nat} {x0 : Nat} {x1 : Nat} {x2 : Int32} {h : pH} {r : pR} (E : f_Mg_findShrinkingRow G x0 x1 x2 h = some r) : zMet l y_Mg_findShrinkingRow M_Mg_findShrinkingRow 0 0 [.ref x0, .ref x1, .int x2] h r :=
  zMet_of (by decide) rfl (Nat.le_of_ble_eq_true rfl) (fun p e s m args below meth c D0 cT => w_Mg_findShrinkingRow_b0 (X := (p, l, e, s, m, args, below, meth, c, D0, cT, h, _, 0, 0)) rfl x0 x1 x2 h E)
def f_Mg_chooseOtherNodes_b71 (G : Nat) (k14 : Nat → Int64 → Int64 → Int32 → pH → Option pR) (x0 : Nat) (x3 : Int64) (x5 : Int64) (x7 : Int32) (h : pH) : Option pR := k14 x0 x3 x5 (x7 + 1) h
theorem f_Mg_chooseOtherNodes_b71_eq (G : Nat) (k14 : Nat → Int64 → Int64 → Int32 → pH → Option pR) (x0 : Nat) (x3 : Int64) (x5 : Int64) (x7 : Int32) (h : pH) : f_Mg_chooseOtherNodes_b71 G k14 x0 x3 x5 x7 h = (k14 x0 x3 x5 (x7 + 1) h) := rfl
def f_Mg_chooseOtherNodes_b14 (G : Nat) : Nat → Nat → Int64 → Int64 → Int32 → pH → Option pR
  | 0 => fun _ _ _ _ _ => none
  | F + 1 => fun x0 x3 x5 x7 h => if (6 : Int32) ≤ x7 then ((if isZ (1 : Int32) = true then some (some (.int (1 : Int32)), h) else none)) else ((gR h x0 3 6).bind fun v1 => (sI h v1 x7 (-1 : Int32)).bind fun h2 => cI true (f_Mg_isIn G x3 ((40 : Int32) + x7) h2) fun v6 h3 => if v6 = 0 then ((f_Mg_chooseOtherNodes_b71 G (f_Mg_chooseOtherNodes_b14 G F)) x0 x3 x5 x7 h3) else (if (lg_cmp x5 (0 : Int64)) = 0 then ((if isZ (0 : Int32) = true then some (some (.int (0 : Int32)), h3) else none)) else ((gR h3 x0 3 6).bind fun v7 => cI true (f_Mg_lowestOf G x5 h3) fun v11 h8 => (sI h8 v7 x7 v11).bind fun h12 => (f_Mg_chooseOtherNodes_b71 G (f_Mg_chooseOtherNodes_b14 G F)) x0 x3 (x5 &&& (x5 - (1 : Int64))) x7 h12)))
theorem f_Mg_chooseOtherNodes_b14_eq (G : Nat) (F : Nat) (x0 : Nat) (x3 : Int64) (x5 : Int64) (x7 : Int32) (h : pH) : f_Mg_chooseOtherNodes_b14 G (F + 1) x0 x3 x5 x7 h = (if (6 : Int32) ≤ x7 then ((if isZ (1 : Int32) = true then some (some (.int (1 : Int32)), h) else none)) else ((gR h x0 3 6).bind fun v1 => (sI h v1 x7 (-1 : Int32)).bind fun h2 => cI true (f_Mg_isIn G x3 ((40 : Int32) + x7) h2) fun v6 h3 => if v6 = 0 then ((f_Mg_chooseOtherNodes_b71 G (f_Mg_chooseOtherNodes_b14 G F)) x0 x3 x5 x7 h3) else (if (lg_cmp x5 (0 : Int64)) = 0 then ((if isZ (0 : Int32) = true then some (some (.int (0 : Int32)), h3) else none)) else ((gR h3 x0 3 6).bind fun v7 => cI true (f_Mg_lowestOf G x5 h3) fun v11 h8 => (sI h8 v7 x7 v11).bind fun h12 => (f_Mg_chooseOtherNodes_b71 G (f_Mg_chooseOtherNodes_b14 G F)) x0 x3 (x5 &&& (x5 - (1 : Int64))) x7 h12)))) := rfl
def f_Mg_chooseOtherNodes (G : Nat) (x0 : Nat) (x1 : Int64) (x3 : Int64) (h : pH) : Option pR := (f_Mg_chooseOtherNodes_b14 G G) x0 x3 ((69269232549888 : Int64) &&& (x1 ^^^ (-1 : Int64))) (0 : Int32) h
theorem f_Mg_chooseOtherNodes_eq (G : Nat) (x0 : Nat) (x1 : Int64) (x3 : Int64) (h : pH) : f_Mg_chooseOtherNodes G x0 x1 x3 h = ((f_Mg_chooseOtherNodes_b14 G G) x0 x3 ((69269232549888 : Int64) &&& (x1 ^^^ (-1 : Int64))) (0 : Int32) h) := rfl
set_option maxRecDepth 100000 in
set_option maxHeartbeats 4000000 in
theorem w_Mg_chooseOtherNodes_b71 {X : zX} {r : pR} {G : Nat} {k14 : Nat → Int64 → Int64 → Int32 → pH → Option pR} (hQ : zQ X r) (hk14 : ∀ (x0 : Nat) (x3 : Int64) (x5 : Int64) (x7 : Int32) (h : pH), k14 x0 x3 x5 x7 h = some r → Z X M_Mg_chooseOtherNodes 0 0 h 14 [(0, .ref x0), (3, .long x3), (5, .long x5), (7, .int x7)] []) : ∀ (x0 : Nat) (x3 : Int64) (x5 : Int64) (x7 : Int32) (h : pH), f_Mg_chooseOtherNodes_b71 G k14 x0 x3 x5 x7 h = some r → Z X M_Mg_chooseOtherNodes 0 0 h 71 [(0, .ref x0), (3, .long x3), (5, .long x5), (7, .int x7)] [] := by
  intro x0 x3 x5 x7 h E
  rw [f_Mg_chooseOtherNodes_b71_eq] at E
  refine z_iinc (v := (x7 + 1)) (lv2 := [(7, .int (x7 + 1)), (0, .ref x0), (3, .long x3), (5, .long x5)]) 3 d_Mg_chooseOtherNodes_71 rfl rfl (Nat.le_of_ble_eq_true rfl) rfl ?_
  refine z_goto (tgt := 14) d_Mg_chooseOtherNodes_74 (by decide) ?_
  refine z_lv [1, 2, 3, 0] rfl ?_
  exact hk14 x0 x3 x5 (x7 + 1) h E
set_option maxRecDepth 100000 in
set_option maxHeartbeats 4000000 in
theorem w_Mg_chooseOtherNodes_b14 {X : zX} {r : pR} {G : Nat} (hQ : zQ X r) : ∀ (F : Nat) (x0 : Nat) (x3 : Int64) (x5 : Int64) (x7 : Int32) (h : pH), f_Mg_chooseOtherNodes_b14 G F x0 x3 x5 x7 h = some r → Z X M_Mg_chooseOtherNodes 0 0 h 14 [(0, .ref x0), (3, .long x3), (5, .long x5), (7, .int x7)] [] := by
  intro F
  induction F with
  | zero => intro x0 x3 x5 x7 h E; exact nomatch (show (none : Option pR) = some _ from E)
  | succ F ih =>
    intro x0 x3 x5 x7 h E
    rw [f_Mg_chooseOtherNodes_b14_eq] at E
    refine z_iload 3 d_Mg_chooseOtherNodes_14 rfl ?_
    refine z_bipush (v := (6 : Int32)) d_Mg_chooseOtherNodes_16 (by decide) ?_
    refine z_ic_ge (tgt := 77) d_Mg_chooseOtherNodes_18 (by decide) E (fun E => ?_) (fun E => ?_)
    · refine z_iconst (v := (1 : Int32)) d_Mg_chooseOtherNodes_77 (by decide) ?_
      exact z_zreturn hQ rfl z00 d_Mg_chooseOtherNodes_78 E
    · refine z_aload_n 0 d_Mg_chooseOtherNodes_21 rfl rfl ?_
      refine z_getR (ci := 3) (j := 6) rfl (by decide) zf_Mg_34 d_Mg_chooseOtherNodes_22 E (fun v1 _ E => ?_)
      refine z_iload 3 d_Mg_chooseOtherNodes_25 rfl ?_
      refine z_iconst (v := (-1 : Int32)) d_Mg_chooseOtherNodes_27 (by decide) ?_
      refine z_iastore d_Mg_chooseOtherNodes_28 E (fun h2 _ E => ?_)
      refine z_lload_n 1 d_Mg_chooseOtherNodes_29 rfl rfl ?_
      refine z_bipush (v := (40 : Int32)) d_Mg_chooseOtherNodes_30 (by decide) ?_
      refine z_iload 3 d_Mg_chooseOtherNodes_32 rfl ?_
      refine z_iadd d_Mg_chooseOtherNodes_34 ?_
      obtain ⟨g4, v6, h3, e5, E⟩ := cI_some E
      refine z_invS (y := y_Mg_isIn) (Mc := M_Mg_isIn) (av := [.long x3, .int ((40 : Int32) + x7)]) (rest := []) ⟨zt_551, zt_395, zt_48⟩ zk_Mg_isIn zy_Mg_isIn (by decide) (Nat.le_of_ble_eq_true rfl) z00 rfl (Nat.le_of_ble_eq_true rfl) d_Mg_chooseOtherNodes_35 (m_Mg_isIn e5) ?_
      show Z X M_Mg_chooseOtherNodes 0 0 h3 38 [(0, .ref x0), (3, .long x3), (5, .long x5), (7, .int x7)] [.int v6]
      refine z_if_eq (y := 0) (tgt := 71) d_Mg_chooseOtherNodes_38 (by decide) E (fun E => ?_) (fun E => ?_)
      · exact (w_Mg_chooseOtherNodes_b71 hQ ih) x0 x3 x5 x7 h3 E
      · refine z_lload 2 d_Mg_chooseOtherNodes_41 rfl ?_
        refine z_lconst (v := (0 : Int64)) d_Mg_chooseOtherNodes_43 (by decide) ?_
        refine z_lcmp d_Mg_chooseOtherNodes_44 ?_
        refine z_if_ne (y := 0) (tgt := 50) d_Mg_chooseOtherNodes_45 (by decide) E (fun E => ?_) (fun E => ?_)
        · refine z_aload_n 0 d_Mg_chooseOtherNodes_50 rfl rfl ?_
          refine z_getR (ci := 3) (j := 6) rfl (by decide) zf_Mg_34 d_Mg_chooseOtherNodes_51 E (fun v7 _ E => ?_)
          refine z_iload 3 d_Mg_chooseOtherNodes_54 rfl ?_
          refine z_lload 2 d_Mg_chooseOtherNodes_56 rfl ?_
          obtain ⟨g9, v11, h8, e10, E⟩ := cI_some E
          refine z_invS (y := y_Mg_lowestOf) (Mc := M_Mg_lowestOf) (av := [.long x5]) (rest := [.int x7, .ref v7]) ⟨zt_590, zt_423, zt_48⟩ zk_Mg_lowestOf zy_Mg_lowestOf (by decide) (Nat.le_of_ble_eq_true rfl) z00 rfl (Nat.le_of_ble_eq_true rfl) d_Mg_chooseOtherNodes_58 (m_Mg_lowestOf e10) ?_
          show Z X M_Mg_chooseOtherNodes 0 0 h8 61 [(0, .ref x0), (3, .long x3), (5, .long x5), (7, .int x7)] [.int v11, .int x7, .ref v7]
          refine z_iastore d_Mg_chooseOtherNodes_61 E (fun h12 _ E => ?_)
          refine z_lload 2 d_Mg_chooseOtherNodes_62 rfl ?_
          refine z_lload 2 d_Mg_chooseOtherNodes_64 rfl ?_
          refine z_lconst (v := (1 : Int64)) d_Mg_chooseOtherNodes_66 (by decide) ?_
          refine z_lsub d_Mg_chooseOtherNodes_67 ?_
          refine z_land d_Mg_chooseOtherNodes_68 ?_
          refine z_lstore (lv2 := [(5, .long (x5 &&& (x5 - (1 : Int64)))), (0, .ref x0), (3, .long x3), (7, .int x7)]) d_Mg_chooseOtherNodes_69 (Nat.le_of_ble_eq_true rfl) rfl ?_
          refine z_lv [1, 2, 0, 3] rfl ?_
          exact (w_Mg_chooseOtherNodes_b71 hQ ih) x0 x3 (x5 &&& (x5 - (1 : Int64))) x7 h12 E
        · refine z_iconst (v := (0 : Int32)) d_Mg_chooseOtherNodes_48 (by decide) ?_
          exact z_zreturn hQ rfl z00 d_Mg_chooseOtherNodes_49 E
set_option maxRecDepth 100000 in
set_option maxHeartbeats 4000000 in
theorem w_Mg_chooseOtherNodes_b0 {X : zX} {r : pR} {G : Nat} (hQ : zQ X r) : ∀ (x0 : Nat) (x1 : Int64) (x3 : Int64) (h : pH), f_Mg_chooseOtherNodes G x0 x1 x3 h = some r → Z X M_Mg_chooseOtherNodes 0 0 h 0 [(0, .ref x0), (1, .long x1), (3, .long x3)] [] := by
  intro x0 x1 x3 h E
  rw [f_Mg_chooseOtherNodes_eq] at E
  refine z_ldc2 (v := (69269232549888 : Int64)) d_Mg_chooseOtherNodes_0 zt_589 ?_
  refine z_lload_n 1 d_Mg_chooseOtherNodes_3 rfl rfl ?_
  refine z_ldc2 (v := (-1 : Int64)) d_Mg_chooseOtherNodes_4 zt_550 ?_
  refine z_lxor d_Mg_chooseOtherNodes_7 ?_
  refine z_land d_Mg_chooseOtherNodes_8 ?_
  refine z_lstore (lv2 := [(5, .long ((69269232549888 : Int64) &&& (x1 ^^^ (-1 : Int64)))), (0, .ref x0), (1, .long x1), (3, .long x3)]) d_Mg_chooseOtherNodes_9 (Nat.le_of_ble_eq_true rfl) rfl ?_
  refine z_iconst (v := (0 : Int32)) d_Mg_chooseOtherNodes_11 (by decide) ?_
  refine z_istore (lv2 := [(7, .int (0 : Int32)), (5, .long ((69269232549888 : Int64) &&& (x1 ^^^ (-1 : Int64)))), (0, .ref x0), (1, .long x1), (3, .long x3)]) d_Mg_chooseOtherNodes_12 (Nat.le_of_ble_eq_true rfl) rfl ?_
  refine z_lv [2, 4, 1, 0] rfl ?_
  exact (w_Mg_chooseOtherNodes_b14 hQ G) x0 x3 ((69269232549888 : Int64) &&& (x1 ^^^ (-1 : Int64))) (0 : Int32) h E
theorem m_Mg_chooseOtherNodes {l : Launch} {G : Nat} {x0 : Nat} {x1 : Int64} {x3 : Int64} {h : pH} {r : pR} (E : f_Mg_chooseOtherNodes G x0 x1 x3 h = some r) : zMet l y_Mg_chooseOtherNodes M_Mg_chooseOtherNodes 0 0 [.ref x0, .long x1, .long x3] h r :=
  zMet_of (by decide) rfl (Nat.le_of_ble_eq_true rfl) (fun p e s m args below meth c D0 cT => w_Mg_chooseOtherNodes_b0 (X := (p, l, e, s, m, args, below, meth, c, D0, cT, h, _, 0, 0)) rfl x0 x1 x3 h E)
def f_Mg_draftMerged_b45 (G : Nat) (k46 : Int32 → pH → Option pR) (h : pH) : Option pR := k46 (0 : Int32) h
theorem f_Mg_draftMerged_b45_eq (G : Nat) (k46 : Int32 → pH → Option pR) (h : pH) : f_Mg_draftMerged_b45 G k46 h = (k46 (0 : Int32) h) := rfl
def f_Mg_draftMerged_b46 (G : Nat) (s0 : Int32) (h : pH) : Option pR := (if isZ s0 = true then some (some (.int s0), h) else none)
theorem f_Mg_draftMerged_b46_eq (G : Nat) (s0 : Int32) (h : pH) : f_Mg_draftMerged_b46 G s0 h = ((if isZ s0 = true then some (some (.int s0), h) else none)) := rfl
def f_Mg_draftMerged (G : Nat) (x0 : Nat) (x1 : Nat) (x2 : Nat) (x3 : Nat) (h : pH) : Option pR := (gR h x0 3 1).bind fun v1 => cV (oC h v1 0) (f_Gr_clear G v1 h) fun h2 => (gR h2 x0 3 1).bind fun v5 => cV (oC h2 v5 0) (f_Gr_insertKept G v5 x1 x2 x3 h2) fun h6 => (gR h6 x0 3 1).bind fun v9 => cI (oC h6 v9 0) (f_Gr_insertMissing G v9 x2 x1 h6) fun v13 h10 => if v13 = 0 then ((f_Mg_draftMerged_b45 G (f_Mg_draftMerged_b46 G)) h10) else ((gR h10 x0 3 1).bind fun v14 => cI (oC h10 v14 0) (f_Gr_insertMissing G v14 x3 x1 h10) fun v18 h15 => if v18 = 0 then ((f_Mg_draftMerged_b45 G (f_Mg_draftMerged_b46 G)) h15) else ((f_Mg_draftMerged_b46 G) (1 : Int32) h15))
theorem f_Mg_draftMerged_eq (G : Nat) (x0 : Nat) (x1 : Nat) (x2 : Nat) (x3 : Nat) (h : pH) : f_Mg_draftMerged G x0 x1 x2 x3 h = ((gR h x0 3 1).bind fun v1 => cV (oC h v1 0) (f_Gr_clear G v1 h) fun h2 => (gR h2 x0 3 1).bind fun v5 => cV (oC h2 v5 0) (f_Gr_insertKept G v5 x1 x2 x3 h2) fun h6 => (gR h6 x0 3 1).bind fun v9 => cI (oC h6 v9 0) (f_Gr_insertMissing G v9 x2 x1 h6) fun v13 h10 => if v13 = 0 then ((f_Mg_draftMerged_b45 G (f_Mg_draftMerged_b46 G)) h10) else ((gR h10 x0 3 1).bind fun v14 => cI (oC h10 v14 0) (f_Gr_insertMissing G v14 x3 x1 h10) fun v18 h15 => if v18 = 0 then ((f_Mg_draftMerged_b45 G (f_Mg_draftMerged_b46 G)) h15) else ((f_Mg_draftMerged_b46 G) (1 : Int32) h15))) := rfl
set_option maxRecDepth 100000 in
set_option maxHeartbeats 4000000 in
theorem w_Mg_draftMerged_b45 {X : zX} {r : pR} {G : Nat} {k46 : Int32 → pH → Option pR} (hQ : zQ X r) (hk46 : ∀ (s0 : Int32) (h : pH), k46 s0 h = some r → Z X M_Mg_draftMerged 0 0 h 46 [] [.int s0]) : ∀ (h : pH), f_Mg_draftMerged_b45 G k46 h = some r → Z X M_Mg_draftMerged 0 0 h 45 [] [] := by
  intro h E
  rw [f_Mg_draftMerged_b45_eq] at E
  refine z_iconst (v := (0 : Int32)) d_Mg_draftMerged_45 (by decide) ?_
  exact hk46 (0 : Int32) h E
set_option maxRecDepth 100000 in
set_option maxHeartbeats 4000000 in
theorem w_Mg_draftMerged_b46 {X : zX} {r : pR} {G : Nat} (hQ : zQ X r) : ∀ (s0 : Int32) (h : pH), f_Mg_draftMerged_b46 G s0 h = some r → Z X M_Mg_draftMerged 0 0 h 46 [] [.int s0] := by
  intro s0 h E
  rw [f_Mg_draftMerged_b46_eq] at E
  exact z_zreturn hQ rfl z00 d_Mg_draftMerged_46 E
set_option maxRecDepth 100000 in
set_option maxHeartbeats 4000000 in
theorem w_Mg_draftMerged_b0 {X : zX} {r : pR} {G : Nat} (hQ : zQ X r) : ∀ (x0 : Nat) (x1 : Nat) (x2 : Nat) (x3 : Nat) (h : pH), f_Mg_draftMerged G x0 x1 x2 x3 h = some r → Z X M_Mg_draftMerged 0 0 h 0 [(0, .ref x0), (1, .ref x1), (2, .ref x2), (3, .ref x3)] [] := by
  intro x0 x1 x2 x3 h E
  rw [f_Mg_draftMerged_eq] at E
  refine z_aload_n 0 d_Mg_draftMerged_0 rfl rfl ?_
  refine z_getR (ci := 3) (j := 1) rfl (by decide) zf_Mg_16 d_Mg_draftMerged_1 E (fun v1 _ E => ?_)
  obtain ⟨g3, h2, e4, E⟩ := cV_some E
  refine z_invV (ci := 0) (y := y_Gr_clear) (Mc := M_Gr_clear) (av := []) (rest := []) rfl rfl ⟨zt_568, zt_569, zt_570, zt_49⟩ zk_Gr_clear zy_Gr_clear (by decide) (Nat.le_of_ble_eq_true rfl) z00 rfl (Nat.le_of_ble_eq_true rfl) d_Mg_draftMerged_4 g3 (m_Gr_clear e4) ?_
  show Z X M_Mg_draftMerged 0 0 h2 7 [(0, .ref x0), (1, .ref x1), (2, .ref x2), (3, .ref x3)] []
  refine z_aload_n 0 d_Mg_draftMerged_7 rfl rfl ?_
  refine z_getR (ci := 3) (j := 1) rfl (by decide) zf_Mg_16 d_Mg_draftMerged_8 E (fun v5 _ E => ?_)
  refine z_aload_n 1 d_Mg_draftMerged_11 rfl rfl ?_
  refine z_aload_n 2 d_Mg_draftMerged_12 rfl rfl ?_
  refine z_aload_n 3 d_Mg_draftMerged_13 rfl rfl ?_
  obtain ⟨g7, h6, e8, E⟩ := cV_some E
  refine z_invV (ci := 0) (y := y_Gr_insertKept) (Mc := M_Gr_insertKept) (av := [.ref x1, .ref x2, .ref x3]) (rest := []) rfl rfl ⟨zt_602, zt_603, zt_604, zt_49⟩ zk_Gr_insertKept zy_Gr_insertKept (by decide) (Nat.le_of_ble_eq_true rfl) z00 rfl (Nat.le_of_ble_eq_true rfl) d_Mg_draftMerged_14 g7 (m_Gr_insertKept e8) ?_
  show Z X M_Mg_draftMerged 0 0 h6 17 [(0, .ref x0), (1, .ref x1), (2, .ref x2), (3, .ref x3)] []
  refine z_aload_n 0 d_Mg_draftMerged_17 rfl rfl ?_
  refine z_getR (ci := 3) (j := 1) rfl (by decide) zf_Mg_16 d_Mg_draftMerged_18 E (fun v9 _ E => ?_)
  refine z_aload_n 2 d_Mg_draftMerged_21 rfl rfl ?_
  refine z_aload_n 1 d_Mg_draftMerged_22 rfl rfl ?_
  obtain ⟨g11, v13, h10, e12, E⟩ := cI_some E
  refine z_invV (ci := 0) (y := y_Gr_insertMissing) (Mc := M_Gr_insertMissing) (av := [.ref x2, .ref x1]) (rest := []) rfl rfl ⟨zt_610, zt_611, zt_612, zt_49⟩ zk_Gr_insertMissing zy_Gr_insertMissing (by decide) (Nat.le_of_ble_eq_true rfl) z00 rfl (Nat.le_of_ble_eq_true rfl) d_Mg_draftMerged_23 g11 (m_Gr_insertMissing e12) ?_
  show Z X M_Mg_draftMerged 0 0 h10 26 [(0, .ref x0), (1, .ref x1), (2, .ref x2), (3, .ref x3)] [.int v13]
  refine z_if_eq (y := 0) (tgt := 45) d_Mg_draftMerged_26 (by decide) E (fun E => ?_) (fun E => ?_)
  · refine z_lv [] rfl ?_
    exact (w_Mg_draftMerged_b45 hQ (w_Mg_draftMerged_b46 hQ)) h10 E
  · refine z_aload_n 0 d_Mg_draftMerged_29 rfl rfl ?_
    refine z_getR (ci := 3) (j := 1) rfl (by decide) zf_Mg_16 d_Mg_draftMerged_30 E (fun v14 _ E => ?_)
    refine z_aload_n 3 d_Mg_draftMerged_33 rfl rfl ?_
    refine z_aload_n 1 d_Mg_draftMerged_34 rfl rfl ?_
    obtain ⟨g16, v18, h15, e17, E⟩ := cI_some E
    refine z_invV (ci := 0) (y := y_Gr_insertMissing) (Mc := M_Gr_insertMissing) (av := [.ref x3, .ref x1]) (rest := []) rfl rfl ⟨zt_610, zt_611, zt_612, zt_49⟩ zk_Gr_insertMissing zy_Gr_insertMissing (by decide) (Nat.le_of_ble_eq_true rfl) z00 rfl (Nat.le_of_ble_eq_true rfl) d_Mg_draftMerged_35 g16 (m_Gr_insertMissing e17) ?_
    show Z X M_Mg_draftMerged 0 0 h15 38 [(0, .ref x0), (1, .ref x1), (2, .ref x2), (3, .ref x3)] [.int v18]
    refine z_if_eq (y := 0) (tgt := 45) d_Mg_draftMerged_38 (by decide) E (fun E => ?_) (fun E => ?_)
    · refine z_lv [] rfl ?_
      exact (w_Mg_draftMerged_b45 hQ (w_Mg_draftMerged_b46 hQ)) h15 E
    · refine z_iconst (v := (1 : Int32)) d_Mg_draftMerged_41 (by decide) ?_
      refine z_goto (tgt := 46) d_Mg_draftMerged_42 (by decide) ?_
      refine z_lv [] rfl ?_
      exact (w_Mg_draftMerged_b46 hQ) (1 : Int32) h15 E
theorem m_Mg_draftMerged {l : Launch} {G : Nat} {x0 : Nat} {x1 : Nat} {x2 : Nat} {x3 : Nat} {h : pH} {r : pR} (E : f_Mg_draftMerged G x0 x1 x2 x3 h = some r) : zMet l y_Mg_draftMerged M_Mg_draftMerged 0 0 [.ref x0, .ref x1, .ref x2, .ref x3] h r :=
  zMet_of (by decide) rfl (Nat.le_of_ble_eq_true rfl) (fun p e s m args below meth c D0 cT => w_Mg_draftMerged_b0 (X := (p, l, e, s, m, args, below, meth, c, D0, cT, h, _, 0, 0)) rfl x0 x1 x2 x3 h E)
def f_Mg_clashTerms (G : Nat) (x0 : Nat) (x1 : Nat) (x2 : Nat) (h : pH) : Option pR := cJ (oC h x0 0) (f_Gr_subjects G x0 h) fun v4 h1 => cJ (oC h1 x1 0) (f_Gr_subjects G x1 h1) fun v8 h5 => cJ (oC h5 x2 0) (f_Gr_termsMissing G x2 x0 h5) fun v12 h9 => some (some (.long ((v4 &&& (v8 ^^^ (-1 : Int64))) &&& v12)), h9)
theorem f_Mg_clashTerms_eq (G : Nat) (x0 : Nat) (x1 : Nat) (x2 : Nat) (h : pH) : f_Mg_clashTerms G x0 x1 x2 h = (cJ (oC h x0 0) (f_Gr_subjects G x0 h) fun v4 h1 => cJ (oC h1 x1 0) (f_Gr_subjects G x1 h1) fun v8 h5 => cJ (oC h5 x2 0) (f_Gr_termsMissing G x2 x0 h5) fun v12 h9 => some (some (.long ((v4 &&& (v8 ^^^ (-1 : Int64))) &&& v12)), h9)) := rfl
set_option maxRecDepth 100000 in
set_option maxHeartbeats 4000000 in
theorem w_Mg_clashTerms_b0 {X : zX} {r : pR} {G : Nat} (hQ : zQ X r) : ∀ (x0 : Nat) (x1 : Nat) (x2 : Nat) (h : pH), f_Mg_clashTerms G x0 x1 x2 h = some r → Z X M_Mg_clashTerms 0 0 h 0 [(0, .ref x0), (1, .ref x1), (2, .ref x2)] [] := by
  intro x0 x1 x2 h E
  rw [f_Mg_clashTerms_eq] at E
  refine z_aload_n 0 d_Mg_clashTerms_0 rfl rfl ?_
  obtain ⟨g2, v4, h1, e3, E⟩ := cJ_some E
  refine z_invV (ci := 0) (y := y_Gr_subjects) (Mc := M_Gr_subjects) (av := []) (rest := []) rfl rfl ⟨zt_617, zt_618, zt_619, zt_49⟩ zk_Gr_subjects zy_Gr_subjects (by decide) (Nat.le_of_ble_eq_true rfl) z00 rfl (Nat.le_of_ble_eq_true rfl) d_Mg_clashTerms_1 g2 (m_Gr_subjects e3) ?_
  show Z X M_Mg_clashTerms 0 0 h1 4 [(0, .ref x0), (1, .ref x1), (2, .ref x2)] [.long v4]
  refine z_aload_n 1 d_Mg_clashTerms_4 rfl rfl ?_
  obtain ⟨g6, v8, h5, e7, E⟩ := cJ_some E
  refine z_invV (ci := 0) (y := y_Gr_subjects) (Mc := M_Gr_subjects) (av := []) (rest := [.long v4]) rfl rfl ⟨zt_617, zt_618, zt_619, zt_49⟩ zk_Gr_subjects zy_Gr_subjects (by decide) (Nat.le_of_ble_eq_true rfl) z00 rfl (Nat.le_of_ble_eq_true rfl) d_Mg_clashTerms_5 g6 (m_Gr_subjects e7) ?_
  show Z X M_Mg_clashTerms 0 0 h5 8 [(0, .ref x0), (1, .ref x1), (2, .ref x2)] [.long v8, .long v4]
  refine z_ldc2 (v := (-1 : Int64)) d_Mg_clashTerms_8 zt_550 ?_
  refine z_lxor d_Mg_clashTerms_11 ?_
  refine z_land d_Mg_clashTerms_12 ?_
  refine z_aload_n 2 d_Mg_clashTerms_13 rfl rfl ?_
  refine z_aload_n 0 d_Mg_clashTerms_14 rfl rfl ?_
  obtain ⟨g10, v12, h9, e11, E⟩ := cJ_some E
  refine z_invV (ci := 0) (y := y_Gr_termsMissing) (Mc := M_Gr_termsMissing) (av := [.ref x0]) (rest := [.long (v4 &&& (v8 ^^^ (-1 : Int64)))]) rfl rfl ⟨zt_621, zt_622, zt_623, zt_49⟩ zk_Gr_termsMissing zy_Gr_termsMissing (by decide) (Nat.le_of_ble_eq_true rfl) z00 rfl (Nat.le_of_ble_eq_true rfl) d_Mg_clashTerms_15 g10 (m_Gr_termsMissing e11) ?_
  show Z X M_Mg_clashTerms 0 0 h9 18 [(0, .ref x0), (1, .ref x1), (2, .ref x2)] [.long v12, .long (v4 &&& (v8 ^^^ (-1 : Int64)))]
  refine z_land d_Mg_clashTerms_18 ?_
  exact z_lreturn hQ rfl z00 d_Mg_clashTerms_19 E
theorem m_Mg_clashTerms {l : Launch} {G : Nat} {x0 : Nat} {x1 : Nat} {x2 : Nat} {h : pH} {r : pR} (E : f_Mg_clashTerms G x0 x1 x2 h = some r) : zMet l y_Mg_clashTerms M_Mg_clashTerms 0 0 [.ref x0, .ref x1, .ref x2] h r :=
  zMet_of (by decide) rfl (Nat.le_of_ble_eq_true rfl) (fun p e s m args below meth c D0 cT => w_Mg_clashTerms_b0 (X := (p, l, e, s, m, args, below, meth, c, D0, cT, h, _, 0, 0)) rfl x0 x1 x2 h E)
def f_Mg_noteClashes_b74 (G : Nat) (k8 : Nat → Int64 → Int64 → Int32 → pH → Option pR) (x0 : Nat) (x1 : Int64) (x3 : Int64) (x5 : Int32) (h : pH) : Option pR := k8 x0 x1 x3 (x5 + 1) h
theorem f_Mg_noteClashes_b74_eq (G : Nat) (k8 : Nat → Int64 → Int64 → Int32 → pH → Option pR) (x0 : Nat) (x1 : Int64) (x3 : Int64) (x5 : Int32) (h : pH) : f_Mg_noteClashes_b74 G k8 x0 x1 x3 x5 h = (k8 x0 x1 x3 (x5 + 1) h) := rfl
def f_Mg_noteClashes_b27 (G : Nat) (k8 : Nat → Int64 → Int64 → Int32 → pH → Option pR) (x0 : Nat) (x1 : Int64) (x3 : Int64) (x5 : Int32) (s0 : Int64) (h : pH) : Option pR := cI true (f_Mg_isIn G s0 (x5 >>> ((1 : Int32) &&& 31)) h) fun v5 h2 => if v5 = 0 then ((f_Mg_noteClashes_b74 G k8) x0 x1 x3 x5 h2) else ((gI h2 x0 3 5).bind fun v6 => (gR h2 x0 3 4).bind fun v7 => (aL h2 0 v7).bind fun v8 => if v8 ≤ v6 then ((f_Mg_noteClashes_b74 G k8) x0 x1 x3 x5 h2) else ((gR h2 x0 3 4).bind fun v9 => (gI h2 x0 3 5).bind fun v10 => (sI h2 v9 v10 x5).bind fun h11 => (gI h11 x0 3 5).bind fun v12 => (oP h11 x0 3 5 (.int (v12 + (1 : Int32)))).bind fun h13 => (f_Mg_noteClashes_b74 G k8) x0 x1 x3 x5 h13))
theorem f_Mg_noteClashes_b27_eq (G : Nat) (k8 : Nat → Int64 → Int64 → Int32 → pH → Option pR) (x0 : Nat) (x1 : Int64) (x3 : Int64) (x5 : Int32) (s0 : Int64) (h : pH) : f_Mg_noteClashes_b27 G k8 x0 x1 x3 x5 s0 h = (cI true (f_Mg_isIn G s0 (x5 >>> ((1 : Int32) &&& 31)) h) fun v5 h2 => if v5 = 0 then ((f_Mg_noteClashes_b74 G k8) x0 x1 x3 x5 h2) else ((gI h2 x0 3 5).bind fun v6 => (gR h2 x0 3 4).bind fun v7 => (aL h2 0 v7).bind fun v8 => if v8 ≤ v6 then ((f_Mg_noteClashes_b74 G k8) x0 x1 x3 x5 h2) else ((gR h2 x0 3 4).bind fun v9 => (gI h2 x0 3 5).bind fun v10 => (sI h2 v9 v10 x5).bind fun h11 => (gI h11 x0 3 5).bind fun v12 => (oP h11 x0 3 5 (.int (v12 + (1 : Int32)))).bind fun h13 => (f_Mg_noteClashes_b74 G k8) x0 x1 x3 x5 h13))) := rfl
def f_Mg_noteClashes_b8 (G : Nat) : Nat → Nat → Int64 → Int64 → Int32 → pH → Option pR
  | 0 => fun _ _ _ _ _ => none
  | F + 1 => fun x0 x1 x3 x5 h => if (92 : Int32) ≤ x5 then (some (none, h)) else (if (x5 &&& (1 : Int32)) = 0 then ((f_Mg_noteClashes_b27 G (f_Mg_noteClashes_b8 G F)) x0 x1 x3 x5 x1 h) else ((f_Mg_noteClashes_b27 G (f_Mg_noteClashes_b8 G F)) x0 x1 x3 x5 x3 h))
theorem f_Mg_noteClashes_b8_eq (G : Nat) (F : Nat) (x0 : Nat) (x1 : Int64) (x3 : Int64) (x5 : Int32) (h : pH) : f_Mg_noteClashes_b8 G (F + 1) x0 x1 x3 x5 h = (if (92 : Int32) ≤ x5 then (some (none, h)) else (if (x5 &&& (1 : Int32)) = 0 then ((f_Mg_noteClashes_b27 G (f_Mg_noteClashes_b8 G F)) x0 x1 x3 x5 x1 h) else ((f_Mg_noteClashes_b27 G (f_Mg_noteClashes_b8 G F)) x0 x1 x3 x5 x3 h))) := rfl
def f_Mg_noteClashes (G : Nat) (x0 : Nat) (x1 : Int64) (x3 : Int64) (h : pH) : Option pR := (oP h x0 3 5 (.int (0 : Int32))).bind fun h1 => (f_Mg_noteClashes_b8 G G) x0 x1 x3 (0 : Int32) h1
theorem f_Mg_noteClashes_eq (G : Nat) (x0 : Nat) (x1 : Int64) (x3 : Int64) (h : pH) : f_Mg_noteClashes G x0 x1 x3 h = ((oP h x0 3 5 (.int (0 : Int32))).bind fun h1 => (f_Mg_noteClashes_b8 G G) x0 x1 x3 (0 : Int32) h1) := rfl
set_option maxRecDepth 100000 in
set_option maxHeartbeats 4000000 in
theorem w_Mg_noteClashes_b74 {X : zX} {r : pR} {G : Nat} {k8 : Nat → Int64 → Int64 → Int32 → pH → Option pR} (hQ : zQ X r) (hk8 : ∀ (x0 : Nat) (x1 : Int64) (x3 : Int64) (x5 : Int32) (h : pH), k8 x0 x1 x3 x5 h = some r → Z X M_Mg_noteClashes 0 0 h 8 [(0, .ref x0), (1, .long x1), (3, .long x3), (5, .int x5)] []) : ∀ (x0 : Nat) (x1 : Int64) (x3 : Int64) (x5 : Int32) (h : pH), f_Mg_noteClashes_b74 G k8 x0 x1 x3 x5 h = some r → Z X M_Mg_noteClashes 0 0 h 74 [(0, .ref x0), (1, .long x1), (3, .long x3), (5, .int x5)] [] := by
  intro x0 x1 x3 x5 h E
  rw [f_Mg_noteClashes_b74_eq] at E
  refine z_iinc (v := (x5 + 1)) (lv2 := [(5, .int (x5 + 1)), (0, .ref x0), (1, .long x1), (3, .long x3)]) 3 d_Mg_noteClashes_74 rfl rfl (Nat.le_of_ble_eq_true rfl) rfl ?_
  refine z_goto (tgt := 8) d_Mg_noteClashes_77 (by decide) ?_
  refine z_lv [1, 2, 3, 0] rfl ?_
  exact hk8 x0 x1 x3 (x5 + 1) h E
set_option maxRecDepth 100000 in
set_option maxHeartbeats 4000000 in
theorem w_Mg_noteClashes_b27 {X : zX} {r : pR} {G : Nat} {k8 : Nat → Int64 → Int64 → Int32 → pH → Option pR} (hQ : zQ X r) (hk8 : ∀ (x0 : Nat) (x1 : Int64) (x3 : Int64) (x5 : Int32) (h : pH), k8 x0 x1 x3 x5 h = some r → Z X M_Mg_noteClashes 0 0 h 8 [(0, .ref x0), (1, .long x1), (3, .long x3), (5, .int x5)] []) : ∀ (x0 : Nat) (x1 : Int64) (x3 : Int64) (x5 : Int32) (s0 : Int64) (h : pH), f_Mg_noteClashes_b27 G k8 x0 x1 x3 x5 s0 h = some r → Z X M_Mg_noteClashes 0 0 h 27 [(0, .ref x0), (1, .long x1), (3, .long x3), (5, .int x5)] [.long s0] := by
  intro x0 x1 x3 x5 s0 h E
  rw [f_Mg_noteClashes_b27_eq] at E
  refine z_lstore (lv2 := [(6, .long s0), (0, .ref x0), (1, .long x1), (3, .long x3), (5, .int x5)]) d_Mg_noteClashes_27 (Nat.le_of_ble_eq_true rfl) rfl ?_
  refine z_lload 0 d_Mg_noteClashes_29 rfl ?_
  refine z_iload 4 d_Mg_noteClashes_31 rfl ?_
  refine z_iconst (v := (1 : Int32)) d_Mg_noteClashes_33 (by decide) ?_
  refine z_ishr d_Mg_noteClashes_34 ?_
  obtain ⟨g3, v5, h2, e4, E⟩ := cI_some E
  refine z_invS (y := y_Mg_isIn) (Mc := M_Mg_isIn) (av := [.long s0, .int (x5 >>> ((1 : Int32) &&& 31))]) (rest := []) ⟨zt_551, zt_395, zt_48⟩ zk_Mg_isIn zy_Mg_isIn (by decide) (Nat.le_of_ble_eq_true rfl) z00 rfl (Nat.le_of_ble_eq_true rfl) d_Mg_noteClashes_35 (m_Mg_isIn e4) ?_
  show Z X M_Mg_noteClashes 0 0 h2 38 [(6, .long s0), (0, .ref x0), (1, .long x1), (3, .long x3), (5, .int x5)] [.int v5]
  refine z_if_eq (y := 0) (tgt := 74) d_Mg_noteClashes_38 (by decide) E (fun E => ?_) (fun E => ?_)
  · refine z_lv [1, 2, 3, 4] rfl ?_
    exact (w_Mg_noteClashes_b74 hQ hk8) x0 x1 x3 x5 h2 E
  · refine z_aload_n 1 d_Mg_noteClashes_41 rfl rfl ?_
    refine z_getI (ci := 3) (j := 5) rfl (by decide) zf_Mg_30 d_Mg_noteClashes_42 E (fun v6 _ E => ?_)
    refine z_aload_n 1 d_Mg_noteClashes_45 rfl rfl ?_
    refine z_getR (ci := 3) (j := 4) rfl (by decide) zf_Mg_26 d_Mg_noteClashes_46 E (fun v7 _ E => ?_)
    refine z_alen 0 (fun _ => rfl) d_Mg_noteClashes_49 E (fun v8 _ E => ?_)
    refine z_ic_ge (tgt := 74) d_Mg_noteClashes_50 (by decide) E (fun E => ?_) (fun E => ?_)
    · refine z_lv [1, 2, 3, 4] rfl ?_
      exact (w_Mg_noteClashes_b74 hQ hk8) x0 x1 x3 x5 h2 E
    · refine z_aload_n 1 d_Mg_noteClashes_53 rfl rfl ?_
      refine z_getR (ci := 3) (j := 4) rfl (by decide) zf_Mg_26 d_Mg_noteClashes_54 E (fun v9 _ E => ?_)
      refine z_aload_n 1 d_Mg_noteClashes_57 rfl rfl ?_
      refine z_getI (ci := 3) (j := 5) rfl (by decide) zf_Mg_30 d_Mg_noteClashes_58 E (fun v10 _ E => ?_)
      refine z_iload 4 d_Mg_noteClashes_61 rfl ?_
      refine z_iastore d_Mg_noteClashes_63 E (fun h11 _ E => ?_)
      refine z_aload_n 1 d_Mg_noteClashes_64 rfl rfl ?_
      refine z_dup d_Mg_noteClashes_65 rfl ?_
      refine z_getI (ci := 3) (j := 5) rfl (by decide) zf_Mg_30 d_Mg_noteClashes_66 E (fun v12 _ E => ?_)
      refine z_iconst (v := (1 : Int32)) d_Mg_noteClashes_69 (by decide) ?_
      refine z_iadd d_Mg_noteClashes_70 ?_
      refine z_putI (ci := 3) (j := 5) rfl (by decide) zf_Mg_30 rfl rfl d_Mg_noteClashes_71 E (fun h13 _ E => ?_)
      refine z_lv [1, 2, 3, 4] rfl ?_
      exact (w_Mg_noteClashes_b74 hQ hk8) x0 x1 x3 x5 h13 E
set_option maxRecDepth 100000 in
set_option maxHeartbeats 4000000 in
theorem w_Mg_noteClashes_b8 {X : zX} {r : pR} {G : Nat} (hQ : zQ X r) : ∀ (F : Nat) (x0 : Nat) (x1 : Int64) (x3 : Int64) (x5 : Int32) (h : pH), f_Mg_noteClashes_b8 G F x0 x1 x3 x5 h = some r → Z X M_Mg_noteClashes 0 0 h 8 [(0, .ref x0), (1, .long x1), (3, .long x3), (5, .int x5)] [] := by
  intro F
  induction F with
  | zero => intro x0 x1 x3 x5 h E; exact nomatch (show (none : Option pR) = some _ from E)
  | succ F ih =>
    intro x0 x1 x3 x5 h E
    rw [f_Mg_noteClashes_b8_eq] at E
    refine z_iload 3 d_Mg_noteClashes_8 rfl ?_
    refine z_bipush (v := (92 : Int32)) d_Mg_noteClashes_10 (by decide) ?_
    refine z_ic_ge (tgt := 80) d_Mg_noteClashes_12 (by decide) E (fun E => ?_) (fun E => ?_)
    · exact z_return hQ rfl z00 d_Mg_noteClashes_80 E
    · refine z_iload 3 d_Mg_noteClashes_15 rfl ?_
      refine z_iconst (v := (1 : Int32)) d_Mg_noteClashes_17 (by decide) ?_
      refine z_iand d_Mg_noteClashes_18 ?_
      refine z_if_ne (y := 0) (tgt := 26) d_Mg_noteClashes_19 (by decide) E (fun E => ?_) (fun E => ?_)
      · refine z_lload_n 2 d_Mg_noteClashes_26 rfl rfl ?_
        exact (w_Mg_noteClashes_b27 hQ ih) x0 x1 x3 x5 x3 h E
      · refine z_lload_n 1 d_Mg_noteClashes_22 rfl rfl ?_
        refine z_goto (tgt := 27) d_Mg_noteClashes_23 (by decide) ?_
        exact (w_Mg_noteClashes_b27 hQ ih) x0 x1 x3 x5 x1 h E
set_option maxRecDepth 100000 in
set_option maxHeartbeats 4000000 in
theorem w_Mg_noteClashes_b0 {X : zX} {r : pR} {G : Nat} (hQ : zQ X r) : ∀ (x0 : Nat) (x1 : Int64) (x3 : Int64) (h : pH), f_Mg_noteClashes G x0 x1 x3 h = some r → Z X M_Mg_noteClashes 0 0 h 0 [(0, .ref x0), (1, .long x1), (3, .long x3)] [] := by
  intro x0 x1 x3 h E
  rw [f_Mg_noteClashes_eq] at E
  refine z_aload_n 0 d_Mg_noteClashes_0 rfl rfl ?_
  refine z_iconst (v := (0 : Int32)) d_Mg_noteClashes_1 (by decide) ?_
  refine z_putI (ci := 3) (j := 5) rfl (by decide) zf_Mg_30 rfl rfl d_Mg_noteClashes_2 E (fun h1 _ E => ?_)
  refine z_iconst (v := (0 : Int32)) d_Mg_noteClashes_5 (by decide) ?_
  refine z_istore (lv2 := [(5, .int (0 : Int32)), (0, .ref x0), (1, .long x1), (3, .long x3)]) d_Mg_noteClashes_6 (Nat.le_of_ble_eq_true rfl) rfl ?_
  refine z_lv [1, 2, 3, 0] rfl ?_
  exact (w_Mg_noteClashes_b8 hQ G) x0 x1 x3 (0 : Int32) h1 E
theorem m_Mg_noteClashes {l : Launch} {G : Nat} {x0 : Nat} {x1 : Int64} {x3 : Int64} {h : pH} {r : pR} (E : f_Mg_noteClashes G x0 x1 x3 h = some r) : zMet l y_Mg_noteClashes M_Mg_noteClashes 0 0 [.ref x0, .long x1, .long x3] h r :=
  zMet_of (by decide) rfl (Nat.le_of_ble_eq_true rfl) (fun p e s m args below meth c D0 cT => w_Mg_noteClashes_b0 (X := (p, l, e, s, m, args, below, meth, c, D0, cT, h, _, 0, 0)) rfl x0 x1 x3 h E)

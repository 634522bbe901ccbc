def y_Se_cell : MethodName := ⟨"MergeGraphs$Search", "cell", "(II)I"⟩
abbrev M_Se_cell : zM := (nR1, prog_4_method_6_code, 2, (some .int), 0)
set_option maxRecDepth 100000 in
theorem zk_Se_cell : Cond.code y_Se_cell (M_Se_cell).2.1 (M_Se_cell).2.2.1 (M_Se_cell).2.2.2.1 ∈ zTg := zmem 384 rfl rfl
theorem zy_Se_cell : (y_Se_cell).cls ≠ "java/lang/invoke/MethodHandle" ∧ (y_Se_cell).cls ≠ "java/lang/invoke/VarHandle" ∧ (parseMethodDescriptor (y_Se_cell).desc).map (fun d => d.parameters.length) = some 2 := by decide +kernel
theorem d_Se_cell_0 : decode prog_4_method_6_code 0 = .ok (.iload_n 0, 1) := by decide +kernel
theorem d_Se_cell_1 : decode prog_4_method_6_code 1 = .ok (.bipush 46, 2) := by decide +kernel
theorem d_Se_cell_3 : decode prog_4_method_6_code 3 = .ok (.imul, 1) := by decide +kernel
theorem d_Se_cell_4 : decode prog_4_method_6_code 4 = .ok (.iload_n 1, 1) := by decide +kernel
theorem d_Se_cell_5 : decode prog_4_method_6_code 5 = .ok (.iadd, 1) := by decide +kernel
theorem d_Se_cell_6 : decode prog_4_method_6_code 6 = .ok (.ireturn, 1) := by decide +kernel
def y_Se_termFor : MethodName := ⟨"MergeGraphs$Search", "termFor", "(I)I"⟩
abbrev M_Se_termFor : zM := (nR1, prog_4_method_3_code, 2, (some .int), 1)
set_option maxRecDepth 100000 in
theorem zk_Se_termFor : Cond.code y_Se_termFor (M_Se_termFor).2.1 (M_Se_termFor).2.2.1 (M_Se_termFor).2.2.2.1 ∈ zTg := zmem 455 rfl rfl
theorem zy_Se_termFor : (y_Se_termFor).cls ≠ "java/lang/invoke/MethodHandle" ∧ (y_Se_termFor).cls ≠ "java/lang/invoke/VarHandle" ∧ (parseMethodDescriptor (y_Se_termFor).desc).map (fun d => d.parameters.length) = some 1 := by decide +kernel
theorem d_Se_termFor_0 : decode prog_4_method_3_code 0 = .ok (.iload_n 1, 1) := by decide +kernel
theorem d_Se_termFor_1 : decode prog_4_method_3_code 1 = .ok (.invokestatic 63, 3) := by decide +kernel
theorem d_Se_termFor_4 : decode prog_4_method_3_code 4 = .ok (.ifCond .eq 15, 3) := by decide +kernel
theorem d_Se_termFor_7 : decode prog_4_method_3_code 7 = .ok (.aload_n 0, 1) := by decide +kernel
theorem d_Se_termFor_8 : decode prog_4_method_3_code 8 = .ok (.getfield 42, 3) := by decide +kernel
theorem d_Se_termFor_11 : decode prog_4_method_3_code 11 = .ok (.iload_n 1, 1) := by decide +kernel
theorem d_Se_termFor_12 : decode prog_4_method_3_code 12 = .ok (.bipush 40, 2) := by decide +kernel
theorem d_Se_termFor_14 : decode prog_4_method_3_code 14 = .ok (.isub, 1) := by decide +kernel
theorem d_Se_termFor_15 : decode prog_4_method_3_code 15 = .ok (.iaload, 1) := by decide +kernel
theorem d_Se_termFor_16 : decode prog_4_method_3_code 16 = .ok (.goto 4, 3) := by decide +kernel
theorem d_Se_termFor_19 : decode prog_4_method_3_code 19 = .ok (.iconst (-1), 1) := by decide +kernel
theorem d_Se_termFor_20 : decode prog_4_method_3_code 20 = .ok (.ireturn, 1) := by decide +kernel
theorem zf_Se_42 : Cond.fieldLink nR1 42 (nT1 7).1 (nT1 7).2.1 (nT1 7).2.2.1 ∈ zTg := zmem 98 (by decide +kernel) (by decide +kernel)
def y_Se_rowIsBefore : MethodName := ⟨"MergeGraphs$Search", "rowIsBefore", "([I)Z"⟩
abbrev M_Se_rowIsBefore : zM := (nR1, prog_4_method_4_code, 2, (some .boolean), 1)
set_option maxRecDepth 100000 in
theorem zk_Se_rowIsBefore : Cond.code y_Se_rowIsBefore (M_Se_rowIsBefore).2.1 (M_Se_rowIsBefore).2.2.1 (M_Se_rowIsBefore).2.2.2.1 ∈ zTg := zmem 545 rfl rfl
theorem zy_Se_rowIsBefore : (y_Se_rowIsBefore).cls ≠ "java/lang/invoke/MethodHandle" ∧ (y_Se_rowIsBefore).cls ≠ "java/lang/invoke/VarHandle" ∧ (parseMethodDescriptor (y_Se_rowIsBefore).desc).map (fun d => d.parameters.length) = some 1 := by decide +kernel
theorem d_Se_rowIsBefore_0 : decode prog_4_method_4_code 0 = .ok (.aload_n 0, 1) := by decide +kernel
theorem d_Se_rowIsBefore_1 : decode prog_4_method_4_code 1 = .ok (.getfield 42, 3) := by decide +kernel
theorem d_Se_rowIsBefore_4 : decode prog_4_method_4_code 4 = .ok (.aload_n 1, 1) := by decide +kernel
theorem d_Se_rowIsBefore_5 : decode prog_4_method_4_code 5 = .ok (.bipush 6, 2) := by decide +kernel
theorem d_Se_rowIsBefore_7 : decode prog_4_method_4_code 7 = .ok (.invokestatic 66, 3) := by decide +kernel
theorem d_Se_rowIsBefore_10 : decode prog_4_method_4_code 10 = .ok (.ireturn, 1) := by decide +kernel
theorem zt_509 : (Cond.static (⟨"MergeGraphs", "isBefore", "([I[II)Z"⟩ : MethodName)) ∈ zTg := zmem 509 (by decide +kernel) (by decide +kernel)
def y_Se_giveRow : MethodName := ⟨"MergeGraphs$Search", "giveRow", "([I)V"⟩
abbrev M_Se_giveRow : zM := (nR1, prog_4_method_5_code, 3, none, 0)
set_option maxRecDepth 100000 in
theorem zk_Se_giveRow : Cond.code y_Se_giveRow (M_Se_giveRow).2.1 (M_Se_giveRow).2.2.1 (M_Se_giveRow).2.2.2.1 ∈ zTg := zmem 550 rfl rfl
theorem zy_Se_giveRow : (y_Se_giveRow).cls ≠ "java/lang/invoke/MethodHandle" ∧ (y_Se_giveRow).cls ≠ "java/lang/invoke/VarHandle" ∧ (parseMethodDescriptor (y_Se_giveRow).desc).map (fun d => d.parameters.length) = some 1 := by decide +kernel
theorem d_Se_giveRow_0 : decode prog_4_method_5_code 0 = .ok (.iconst 0, 1) := by decide +kernel
theorem d_Se_giveRow_1 : decode prog_4_method_5_code 1 = .ok (.istore_n 2, 1) := by decide +kernel
theorem d_Se_giveRow_2 : decode prog_4_method_5_code 2 = .ok (.iload_n 2, 1) := by decide +kernel
theorem d_Se_giveRow_3 : decode prog_4_method_5_code 3 = .ok (.bipush 6, 2) := by decide +kernel
theorem d_Se_giveRow_5 : decode prog_4_method_5_code 5 = .ok (.if_icmp .ge 24, 3) := by decide +kernel
theorem d_Se_giveRow_8 : decode prog_4_method_5_code 8 = .ok (.iload_n 2, 1) := by decide +kernel
theorem d_Se_giveRow_9 : decode prog_4_method_5_code 9 = .ok (.aload_n 1, 1) := by decide +kernel
theorem d_Se_giveRow_10 : decode prog_4_method_5_code 10 = .ok (.arraylength, 1) := by decide +kernel
theorem d_Se_giveRow_11 : decode prog_4_method_5_code 11 = .ok (.if_icmp .ge 18, 3) := by decide +kernel
theorem d_Se_giveRow_14 : decode prog_4_method_5_code 14 = .ok (.aload_n 1, 1) := by decide +kernel
theorem d_Se_giveRow_15 : decode prog_4_method_5_code 15 = .ok (.iload_n 2, 1) := by decide +kernel
theorem d_Se_giveRow_16 : decode prog_4_method_5_code 16 = .ok (.aload_n 0, 1) := by decide +kernel
theorem d_Se_giveRow_17 : decode prog_4_method_5_code 17 = .ok (.getfield 42, 3) := by decide +kernel
theorem d_Se_giveRow_20 : decode prog_4_method_5_code 20 = .ok (.iload_n 2, 1) := by decide +kernel
theorem d_Se_giveRow_21 : decode prog_4_method_5_code 21 = .ok (.iaload, 1) := by decide +kernel
theorem d_Se_giveRow_22 : decode prog_4_method_5_code 22 = .ok (.iastore, 1) := by decide +kernel
theorem d_Se_giveRow_23 : decode prog_4_method_5_code 23 = .ok (.iinc 2 1, 3) := by decide +kernel
theorem d_Se_giveRow_26 : decode prog_4_method_5_code 26 = .ok (.goto (-24), 3) := by decide +kernel
theorem d_Se_giveRow_29 : decode prog_4_method_5_code 29 = .ok (.return_, 1) := by decide +kernel
def y_Se_mark : MethodName := ⟨"MergeGraphs$Search", "mark", "(LMergeGraphs$Graph;)V"⟩
abbrev M_Se_mark : zM := (nR1, prog_4_method_7_code, 6, none, 1)
set_option maxRecDepth 100000 in
theorem zk_Se_mark : Cond.code y_Se_mark (M_Se_mark).2.1 (M_Se_mark).2.2.1 (M_Se_mark).2.2.2.1 ∈ zTg := zmem 374 rfl rfl
theorem zy_Se_mark : (y_Se_mark).cls ≠ "java/lang/invoke/MethodHandle" ∧ (y_Se_mark).cls ≠ "java/lang/invoke/VarHandle" ∧ (parseMethodDescriptor (y_Se_mark).desc).map (fun d => d.parameters.length) = some 1 := by decide +kernel
theorem d_Se_mark_0 : decode prog_4_method_7_code 0 = .ok (.iconst 0, 1) := by decide +kernel
theorem d_Se_mark_1 : decode prog_4_method_7_code 1 = .ok (.istore_n 2, 1) := by decide +kernel
theorem d_Se_mark_2 : decode prog_4_method_7_code 2 = .ok (.iload_n 2, 1) := by decide +kernel
theorem d_Se_mark_3 : decode prog_4_method_7_code 3 = .ok (.aload_n 1, 1) := by decide +kernel
theorem d_Se_mark_4 : decode prog_4_method_7_code 4 = .ok (.invokevirtual 70, 3) := by decide +kernel
theorem d_Se_mark_7 : decode prog_4_method_7_code 7 = .ok (.if_icmp .ge 69, 3) := by decide +kernel
theorem d_Se_mark_10 : decode prog_4_method_7_code 10 = .ok (.aload_n 1, 1) := by decide +kernel
theorem d_Se_mark_11 : decode prog_4_method_7_code 11 = .ok (.iload_n 2, 1) := by decide +kernel
theorem d_Se_mark_12 : decode prog_4_method_7_code 12 = .ok (.invokevirtual 74, 3) := by decide +kernel
theorem d_Se_mark_15 : decode prog_4_method_7_code 15 = .ok (.istore_n 3, 1) := by decide +kernel
theorem d_Se_mark_16 : decode prog_4_method_7_code 16 = .ok (.iload_n 3, 1) := by decide +kernel
theorem d_Se_mark_17 : decode prog_4_method_7_code 17 = .ok (.invokestatic 78, 3) := by decide +kernel
theorem d_Se_mark_20 : decode prog_4_method_7_code 20 = .ok (.istore 4, 2) := by decide +kernel
theorem d_Se_mark_22 : decode prog_4_method_7_code 22 = .ok (.iload_n 3, 1) := by decide +kernel
theorem d_Se_mark_23 : decode prog_4_method_7_code 23 = .ok (.invokestatic 81, 3) := by decide +kernel
theorem d_Se_mark_26 : decode prog_4_method_7_code 26 = .ok (.istore 5, 2) := by decide +kernel
theorem d_Se_mark_28 : decode prog_4_method_7_code 28 = .ok (.aload_n 0, 1) := by decide +kernel
theorem d_Se_mark_29 : decode prog_4_method_7_code 29 = .ok (.getfield 35, 3) := by decide +kernel
theorem d_Se_mark_32 : decode prog_4_method_7_code 32 = .ok (.iload_n 3, 1) := by decide +kernel
theorem d_Se_mark_33 : decode prog_4_method_7_code 33 = .ok (.invokestatic 84, 3) := by decide +kernel
theorem d_Se_mark_36 : decode prog_4_method_7_code 36 = .ok (.iload 4, 2) := by decide +kernel
theorem d_Se_mark_38 : decode prog_4_method_7_code 38 = .ok (.invokestatic 87, 3) := by decide +kernel
theorem d_Se_mark_41 : decode prog_4_method_7_code 41 = .ok (.dup2, 1) := by decide +kernel
theorem d_Se_mark_42 : decode prog_4_method_7_code 42 = .ok (.laload, 1) := by decide +kernel
theorem d_Se_mark_43 : decode prog_4_method_7_code 43 = .ok (.lconst 1, 1) := by decide +kernel
theorem d_Se_mark_44 : decode prog_4_method_7_code 44 = .ok (.iload 5, 2) := by decide +kernel
theorem d_Se_mark_46 : decode prog_4_method_7_code 46 = .ok (.lshl, 1) := by decide +kernel
theorem d_Se_mark_47 : decode prog_4_method_7_code 47 = .ok (.lor, 1) := by decide +kernel
theorem d_Se_mark_48 : decode prog_4_method_7_code 48 = .ok (.lastore, 1) := by decide +kernel
theorem d_Se_mark_49 : decode prog_4_method_7_code 49 = .ok (.aload_n 0, 1) := by decide +kernel
theorem d_Se_mark_50 : decode prog_4_method_7_code 50 = .ok (.getfield 39, 3) := by decide +kernel
theorem d_Se_mark_53 : decode prog_4_method_7_code 53 = .ok (.iload_n 3, 1) := by decide +kernel
theorem d_Se_mark_54 : decode prog_4_method_7_code 54 = .ok (.invokestatic 84, 3) := by decide +kernel
theorem d_Se_mark_57 : decode prog_4_method_7_code 57 = .ok (.iload 5, 2) := by decide +kernel
theorem d_Se_mark_59 : decode prog_4_method_7_code 59 = .ok (.invokestatic 87, 3) := by decide +kernel
theorem d_Se_mark_62 : decode prog_4_method_7_code 62 = .ok (.dup2, 1) := by decide +kernel
theorem d_Se_mark_63 : decode prog_4_method_7_code 63 = .ok (.laload, 1) := by decide +kernel
theorem d_Se_mark_64 : decode prog_4_method_7_code 64 = .ok (.lconst 1, 1) := by decide +kernel
theorem d_Se_mark_65 : decode prog_4_method_7_code 65 = .ok (.iload 4, 2) := by decide +kernel
theorem d_Se_mark_67 : decode prog_4_method_7_code 67 = .ok (.lshl, 1) := by decide +kernel
theorem d_Se_mark_68 : decode prog_4_method_7_code 68 = .ok (.lor, 1) := by decide +kernel
theorem d_Se_mark_69 : decode prog_4_method_7_code 69 = .ok (.lastore, 1) := by decide +kernel
theorem d_Se_mark_70 : decode prog_4_method_7_code 70 = .ok (.iinc 2 1, 3) := by decide +kernel
theorem d_Se_mark_73 : decode prog_4_method_7_code 73 = .ok (.goto (-71), 3) := by decide +kernel
theorem d_Se_mark_76 : decode prog_4_method_7_code 76 = .ok (.return_, 1) := by decide +kernel
theorem zf_Se_35 : Cond.fieldLink nR1 35 (nT1 5).1 (nT1 5).2.1 (nT1 5).2.2.1 ∈ zTg := zmem 96 (by decide +kernel) (by decide +kernel)
theorem zf_Se_39 : Cond.fieldLink nR1 39 (nT1 6).1 (nT1 6).2.1 (nT1 6).2.2.1 ∈ zTg := zmem 97 (by decide +kernel) (by decide +kernel)
theorem zt_49 : (Cond.initialized "MergeGraphs$Search") ∈ zTg := zmem 49 (by decide +kernel) (by decide +kernel)
theorem zt_310 : (Cond.instanceMethod (⟨"MergeGraphs$Graph", "count", "()I"⟩ : MethodName)) ∈ zTg := zmem 310 (by decide +kernel) (by decide +kernel)
theorem zt_311 : (Cond.selects "MergeGraphs$Graph" (⟨"MergeGraphs$Graph", "count", "()I"⟩ : MethodName) (⟨"MergeGraphs$Graph", "count", "()I"⟩ : MethodName)) ∈ zTg := zmem 311 (by decide +kernel) (by decide +kernel)
theorem zt_375 : (Cond.methodLink "MergeGraphs$Search" (70 : Nat) (⟨"MergeGraphs$Graph", "count", "()I"⟩ : MethodName)) ∈ zTg := zmem 375 (by decide +kernel) (by decide +kernel)
theorem zt_376 : (Cond.methodLink "MergeGraphs$Search" (74 : Nat) (⟨"MergeGraphs$Graph", "at", "(I)I"⟩ : MethodName)) ∈ zTg := zmem 376 (by decide +kernel) (by decide +kernel)
theorem zt_382 : (Cond.methodLink "MergeGraphs$Search" (87 : Nat) (⟨"MergeGraphs$Search", "cell", "(II)I"⟩ : MethodName)) ∈ zTg := zmem 382 (by decide +kernel) (by decide +kernel)
theorem zt_383 : (Cond.static (⟨"MergeGraphs$Search", "cell", "(II)I"⟩ : MethodName)) ∈ zTg := zmem 383 (by decide +kernel) (by decide +kernel)
def y_Se_unmark : MethodName := ⟨"MergeGraphs$Search", "unmark", "(LMergeGraphs$Graph;)V"⟩
abbrev M_Se_unmark : zM := (nR1, prog_4_method_8_code, 4, none, 1)
set_option maxRecDepth 100000 in
theorem zk_Se_unmark : Cond.code y_Se_unmark (M_Se_unmark).2.1 (M_Se_unmark).2.2.1 (M_Se_unmark).2.2.2.1 ∈ zTg := zmem 444 rfl rfl
theorem zy_Se_unmark : (y_Se_unmark).cls ≠ "java/lang/invoke/MethodHandle" ∧ (y_Se_unmark).cls ≠ "java/lang/invoke/VarHandle" ∧ (parseMethodDescriptor (y_Se_unmark).desc).map (fun d => d.parameters.length) = some 1 := by decide +kernel
theorem d_Se_unmark_0 : decode prog_4_method_8_code 0 = .ok (.iconst 0, 1) := by decide +kernel
theorem d_Se_unmark_1 : decode prog_4_method_8_code 1 = .ok (.istore_n 2, 1) := by decide +kernel
theorem d_Se_unmark_2 : decode prog_4_method_8_code 2 = .ok (.iload_n 2, 1) := by decide +kernel
theorem d_Se_unmark_3 : decode prog_4_method_8_code 3 = .ok (.aload_n 1, 1) := by decide +kernel
theorem d_Se_unmark_4 : decode prog_4_method_8_code 4 = .ok (.invokevirtual 70, 3) := by decide +kernel
theorem d_Se_unmark_7 : decode prog_4_method_8_code 7 = .ok (.if_icmp .ge 49, 3) := by decide +kernel
theorem d_Se_unmark_10 : decode prog_4_method_8_code 10 = .ok (.aload_n 1, 1) := by decide +kernel
theorem d_Se_unmark_11 : decode prog_4_method_8_code 11 = .ok (.iload_n 2, 1) := by decide +kernel
theorem d_Se_unmark_12 : decode prog_4_method_8_code 12 = .ok (.invokevirtual 74, 3) := by decide +kernel
theorem d_Se_unmark_15 : decode prog_4_method_8_code 15 = .ok (.istore_n 3, 1) := by decide +kernel
theorem d_Se_unmark_16 : decode prog_4_method_8_code 16 = .ok (.aload_n 0, 1) := by decide +kernel
theorem d_Se_unmark_17 : decode prog_4_method_8_code 17 = .ok (.getfield 35, 3) := by decide +kernel
theorem d_Se_unmark_20 : decode prog_4_method_8_code 20 = .ok (.iload_n 3, 1) := by decide +kernel
theorem d_Se_unmark_21 : decode prog_4_method_8_code 21 = .ok (.invokestatic 84, 3) := by decide +kernel
theorem d_Se_unmark_24 : decode prog_4_method_8_code 24 = .ok (.iload_n 3, 1) := by decide +kernel
theorem d_Se_unmark_25 : decode prog_4_method_8_code 25 = .ok (.invokestatic 78, 3) := by decide +kernel
theorem d_Se_unmark_28 : decode prog_4_method_8_code 28 = .ok (.invokestatic 87, 3) := by decide +kernel
theorem d_Se_unmark_31 : decode prog_4_method_8_code 31 = .ok (.lconst 0, 1) := by decide +kernel
theorem d_Se_unmark_32 : decode prog_4_method_8_code 32 = .ok (.lastore, 1) := by decide +kernel
theorem d_Se_unmark_33 : decode prog_4_method_8_code 33 = .ok (.aload_n 0, 1) := by decide +kernel
theorem d_Se_unmark_34 : decode prog_4_method_8_code 34 = .ok (.getfield 39, 3) := by decide +kernel
theorem d_Se_unmark_37 : decode prog_4_method_8_code 37 = .ok (.iload_n 3, 1) := by decide +kernel
theorem d_Se_unmark_38 : decode prog_4_method_8_code 38 = .ok (.invokestatic 84, 3) := by decide +kernel
theorem d_Se_unmark_41 : decode prog_4_method_8_code 41 = .ok (.iload_n 3, 1) := by decide +kernel
theorem d_Se_unmark_42 : decode prog_4_method_8_code 42 = .ok (.invokestatic 81, 3) := by decide +kernel
theorem d_Se_unmark_45 : decode prog_4_method_8_code 45 = .ok (.invokestatic 87, 3) := by decide +kernel
theorem d_Se_unmark_48 : decode prog_4_method_8_code 48 = .ok (.lconst 0, 1) := by decide +kernel
theorem d_Se_unmark_49 : decode prog_4_method_8_code 49 = .ok (.lastore, 1) := by decide +kernel
theorem d_Se_unmark_50 : decode prog_4_method_8_code 50 = .ok (.iinc 2 1, 3) := by decide +kernel
theorem d_Se_unmark_53 : decode prog_4_method_8_code 53 = .ok (.goto (-51), 3) := by decide +kernel
theorem d_Se_unmark_56 : decode prog_4_method_8_code 56 = .ok (.return_, 1) := by decide +kernel
def y_Se_limit : MethodName := ⟨"MergeGraphs$Search", "limit", "([JIJ)Z"⟩
abbrev M_Se_limit : zM := (nR1, prog_4_method_11_code, 4, (some .boolean), 0)
set_option maxRecDepth 100000 in
theorem zk_Se_limit : Cond.code y_Se_limit (M_Se_limit).2.1 (M_Se_limit).2.2.1 (M_Se_limit).2.2.2.1 ∈ zTg := zmem 402 rfl rfl
theorem zy_Se_limit : (y_Se_limit).cls ≠ "java/lang/invoke/MethodHandle" ∧ (y_Se_limit).cls ≠ "java/lang/invoke/VarHandle" ∧ (parseMethodDescriptor (y_Se_limit).desc).map (fun d => d.parameters.length) = some 3 := by decide +kernel
theorem d_Se_limit_0 : decode prog_4_method_11_code 0 = .ok (.aload_n 0, 1) := by decide +kernel
theorem d_Se_limit_1 : decode prog_4_method_11_code 1 = .ok (.iload_n 1, 1) := by decide +kernel
theorem d_Se_limit_2 : decode prog_4_method_11_code 2 = .ok (.dup2, 1) := by decide +kernel
theorem d_Se_limit_3 : decode prog_4_method_11_code 3 = .ok (.laload, 1) := by decide +kernel
theorem d_Se_limit_4 : decode prog_4_method_11_code 4 = .ok (.lload_n 2, 1) := by decide +kernel
theorem d_Se_limit_5 : decode prog_4_method_11_code 5 = .ok (.land, 1) := by decide +kernel
theorem d_Se_limit_6 : decode prog_4_method_11_code 6 = .ok (.lastore, 1) := by decide +kernel
theorem d_Se_limit_7 : decode prog_4_method_11_code 7 = .ok (.aload_n 0, 1) := by decide +kernel
theorem d_Se_limit_8 : decode prog_4_method_11_code 8 = .ok (.iload_n 1, 1) := by decide +kernel
theorem d_Se_limit_9 : decode prog_4_method_11_code 9 = .ok (.laload, 1) := by decide +kernel
theorem d_Se_limit_10 : decode prog_4_method_11_code 10 = .ok (.lconst 0, 1) := by decide +kernel
theorem d_Se_limit_11 : decode prog_4_method_11_code 11 = .ok (.lcmp, 1) := by decide +kernel
theorem d_Se_limit_12 : decode prog_4_method_11_code 12 = .ok (.ifCond .eq 7, 3) := by decide +kernel
theorem d_Se_limit_15 : decode prog_4_method_11_code 15 = .ok (.iconst 1, 1) := by decide +kernel
theorem d_Se_limit_16 : decode prog_4_method_11_code 16 = .ok (.goto 4, 3) := by decide +kernel
theorem d_Se_limit_19 : decode prog_4_method_11_code 19 = .ok (.iconst 0, 1) := by decide +kernel
theorem d_Se_limit_20 : decode prog_4_method_11_code 20 = .ok (.ireturn, 1) := by decide +kernel
def y_Se_loops : MethodName := ⟨"MergeGraphs$Search", "loops", "(I)J"⟩
abbrev M_Se_loops : zM := (nR1, prog_4_method_12_code, 5, (some .long), 1)
set_option maxRecDepth 100000 in
theorem zk_Se_loops : Cond.code y_Se_loops (M_Se_loops).2.1 (M_Se_loops).2.2.1 (M_Se_loops).2.2.2.1 ∈ zTg := zmem 406 rfl rfl
theorem zy_Se_loops : (y_Se_loops).cls ≠ "java/lang/invoke/MethodHandle" ∧ (y_Se_loops).cls ≠ "java/lang/invoke/VarHandle" ∧ (parseMethodDescriptor (y_Se_loops).desc).map (fun d => d.parameters.length) = some 1 := by decide +kernel
theorem d_Se_loops_0 : decode prog_4_method_12_code 0 = .ok (.lconst 0, 1) := by decide +kernel
theorem d_Se_loops_1 : decode prog_4_method_12_code 1 = .ok (.lstore_n 2, 1) := by decide +kernel
theorem d_Se_loops_2 : decode prog_4_method_12_code 2 = .ok (.iconst 0, 1) := by decide +kernel
theorem d_Se_loops_3 : decode prog_4_method_12_code 3 = .ok (.istore 4, 2) := by decide +kernel
theorem d_Se_loops_5 : decode prog_4_method_12_code 5 = .ok (.iload 4, 2) := by decide +kernel
theorem d_Se_loops_7 : decode prog_4_method_12_code 7 = .ok (.bipush 46, 2) := by decide +kernel
theorem d_Se_loops_9 : decode prog_4_method_12_code 9 = .ok (.if_icmp .ge 28, 3) := by decide +kernel
theorem d_Se_loops_12 : decode prog_4_method_12_code 12 = .ok (.lload_n 2, 1) := by decide +kernel
theorem d_Se_loops_13 : decode prog_4_method_12_code 13 = .ok (.aload_n 0, 1) := by decide +kernel
theorem d_Se_loops_14 : decode prog_4_method_12_code 14 = .ok (.getfield 35, 3) := by decide +kernel
theorem d_Se_loops_17 : decode prog_4_method_12_code 17 = .ok (.iload_n 1, 1) := by decide +kernel
theorem d_Se_loops_18 : decode prog_4_method_12_code 18 = .ok (.iload 4, 2) := by decide +kernel
theorem d_Se_loops_20 : decode prog_4_method_12_code 20 = .ok (.invokestatic 87, 3) := by decide +kernel
theorem d_Se_loops_23 : decode prog_4_method_12_code 23 = .ok (.laload, 1) := by decide +kernel
theorem d_Se_loops_24 : decode prog_4_method_12_code 24 = .ok (.lconst 1, 1) := by decide +kernel
theorem d_Se_loops_25 : decode prog_4_method_12_code 25 = .ok (.iload 4, 2) := by decide +kernel
theorem d_Se_loops_27 : decode prog_4_method_12_code 27 = .ok (.lshl, 1) := by decide +kernel
theorem d_Se_loops_28 : decode prog_4_method_12_code 28 = .ok (.land, 1) := by decide +kernel
theorem d_Se_loops_29 : decode prog_4_method_12_code 29 = .ok (.lor, 1) := by decide +kernel
theorem d_Se_loops_30 : decode prog_4_method_12_code 30 = .ok (.lstore_n 2, 1) := by decide +kernel
theorem d_Se_loops_31 : decode prog_4_method_12_code 31 = .ok (.iinc 4 1, 3) := by decide +kernel
theorem d_Se_loops_34 : decode prog_4_method_12_code 34 = .ok (.goto (-29), 3) := by decide +kernel
theorem d_Se_loops_37 : decode prog_4_method_12_code 37 = .ok (.lload_n 2, 1) := by decide +kernel
theorem d_Se_loops_38 : decode prog_4_method_12_code 38 = .ok (.lreturn, 1) := by decide +kernel
def y_Se_takeIn : MethodName := ⟨"MergeGraphs$Search", "takeIn", "([JI)Z"⟩
abbrev M_Se_takeIn : zM := (nR1, prog_4_method_10_code, 6, (some .boolean), 2)
set_option maxRecDepth 100000 in
theorem zk_Se_takeIn : Cond.code y_Se_takeIn (M_Se_takeIn).2.1 (M_Se_takeIn).2.2.1 (M_Se_takeIn).2.2.2.1 ∈ zTg := zmem 396 rfl rfl
theorem zy_Se_takeIn : (y_Se_takeIn).cls ≠ "java/lang/invoke/MethodHandle" ∧ (y_Se_takeIn).cls ≠ "java/lang/invoke/VarHandle" ∧ (parseMethodDescriptor (y_Se_takeIn).desc).map (fun d => d.parameters.length) = some 2 := by decide +kernel
theorem d_Se_takeIn_0 : decode prog_4_method_10_code 0 = .ok (.iload_n 2, 1) := by decide +kernel
theorem d_Se_takeIn_1 : decode prog_4_method_10_code 1 = .ok (.invokestatic 78, 3) := by decide +kernel
theorem d_Se_takeIn_4 : decode prog_4_method_10_code 4 = .ok (.istore_n 3, 1) := by decide +kernel
theorem d_Se_takeIn_5 : decode prog_4_method_10_code 5 = .ok (.iload_n 2, 1) := by decide +kernel
theorem d_Se_takeIn_6 : decode prog_4_method_10_code 6 = .ok (.invokestatic 84, 3) := by decide +kernel
theorem d_Se_takeIn_9 : decode prog_4_method_10_code 9 = .ok (.istore 4, 2) := by decide +kernel
theorem d_Se_takeIn_11 : decode prog_4_method_10_code 11 = .ok (.iload_n 2, 1) := by decide +kernel
theorem d_Se_takeIn_12 : decode prog_4_method_10_code 12 = .ok (.invokestatic 81, 3) := by decide +kernel
theorem d_Se_takeIn_15 : decode prog_4_method_10_code 15 = .ok (.istore 5, 2) := by decide +kernel
theorem d_Se_takeIn_17 : decode prog_4_method_10_code 17 = .ok (.iload_n 3, 1) := by decide +kernel
theorem d_Se_takeIn_18 : decode prog_4_method_10_code 18 = .ok (.invokestatic 63, 3) := by decide +kernel
theorem d_Se_takeIn_21 : decode prog_4_method_10_code 21 = .ok (.ifCond .ne 28, 3) := by decide +kernel
theorem d_Se_takeIn_24 : decode prog_4_method_10_code 24 = .ok (.iload 5, 2) := by decide +kernel
theorem d_Se_takeIn_26 : decode prog_4_method_10_code 26 = .ok (.invokestatic 63, 3) := by decide +kernel
theorem d_Se_takeIn_29 : decode prog_4_method_10_code 29 = .ok (.ifCond .ne 20, 3) := by decide +kernel
theorem d_Se_takeIn_32 : decode prog_4_method_10_code 32 = .ok (.aload_n 0, 1) := by decide +kernel
theorem d_Se_takeIn_33 : decode prog_4_method_10_code 33 = .ok (.getfield 35, 3) := by decide +kernel
theorem d_Se_takeIn_36 : decode prog_4_method_10_code 36 = .ok (.iload 4, 2) := by decide +kernel
theorem d_Se_takeIn_38 : decode prog_4_method_10_code 38 = .ok (.iload_n 3, 1) := by decide +kernel
theorem d_Se_takeIn_39 : decode prog_4_method_10_code 39 = .ok (.invokestatic 87, 3) := by decide +kernel
theorem d_Se_takeIn_42 : decode prog_4_method_10_code 42 = .ok (.laload, 1) := by decide +kernel
theorem d_Se_takeIn_43 : decode prog_4_method_10_code 43 = .ok (.iload 5, 2) := by decide +kernel
theorem d_Se_takeIn_45 : decode prog_4_method_10_code 45 = .ok (.invokestatic 95, 3) := by decide +kernel
theorem d_Se_takeIn_48 : decode prog_4_method_10_code 48 = .ok (.ireturn, 1) := by decide +kernel
theorem d_Se_takeIn_49 : decode prog_4_method_10_code 49 = .ok (.iload_n 3, 1) := by decide +kernel
theorem d_Se_takeIn_50 : decode prog_4_method_10_code 50 = .ok (.invokestatic 63, 3) := by decide +kernel
theorem d_Se_takeIn_53 : decode prog_4_method_10_code 53 = .ok (.ifCond .ne 24, 3) := by decide +kernel
theorem d_Se_takeIn_56 : decode prog_4_method_10_code 56 = .ok (.aload_n 1, 1) := by decide +kernel
theorem d_Se_takeIn_57 : decode prog_4_method_10_code 57 = .ok (.iload 5, 2) := by decide +kernel
theorem d_Se_takeIn_59 : decode prog_4_method_10_code 59 = .ok (.bipush 40, 2) := by decide +kernel
theorem d_Se_takeIn_61 : decode prog_4_method_10_code 61 = .ok (.isub, 1) := by decide +kernel
theorem d_Se_takeIn_62 : decode prog_4_method_10_code 62 = .ok (.aload_n 0, 1) := by decide +kernel
theorem d_Se_takeIn_63 : decode prog_4_method_10_code 63 = .ok (.getfield 35, 3) := by decide +kernel
theorem d_Se_takeIn_66 : decode prog_4_method_10_code 66 = .ok (.iload 4, 2) := by decide +kernel
theorem d_Se_takeIn_68 : decode prog_4_method_10_code 68 = .ok (.iload_n 3, 1) := by decide +kernel
theorem d_Se_takeIn_69 : decode prog_4_method_10_code 69 = .ok (.invokestatic 87, 3) := by decide +kernel
theorem d_Se_takeIn_72 : decode prog_4_method_10_code 72 = .ok (.laload, 1) := by decide +kernel
theorem d_Se_takeIn_73 : decode prog_4_method_10_code 73 = .ok (.invokestatic 107, 3) := by decide +kernel
theorem d_Se_takeIn_76 : decode prog_4_method_10_code 76 = .ok (.ireturn, 1) := by decide +kernel
theorem d_Se_takeIn_77 : decode prog_4_method_10_code 77 = .ok (.iload 5, 2) := by decide +kernel
theorem d_Se_takeIn_79 : decode prog_4_method_10_code 79 = .ok (.invokestatic 63, 3) := by decide +kernel
theorem d_Se_takeIn_82 : decode prog_4_method_10_code 82 = .ok (.ifCond .ne 24, 3) := by decide +kernel
theorem d_Se_takeIn_85 : decode prog_4_method_10_code 85 = .ok (.aload_n 1, 1) := by decide +kernel
theorem d_Se_takeIn_86 : decode prog_4_method_10_code 86 = .ok (.iload_n 3, 1) := by decide +kernel
theorem d_Se_takeIn_87 : decode prog_4_method_10_code 87 = .ok (.bipush 40, 2) := by decide +kernel
theorem d_Se_takeIn_89 : decode prog_4_method_10_code 89 = .ok (.isub, 1) := by decide +kernel
theorem d_Se_takeIn_90 : decode prog_4_method_10_code 90 = .ok (.aload_n 0, 1) := by decide +kernel
theorem d_Se_takeIn_91 : decode prog_4_method_10_code 91 = .ok (.getfield 39, 3) := by decide +kernel
theorem d_Se_takeIn_94 : decode prog_4_method_10_code 94 = .ok (.iload 4, 2) := by decide +kernel
theorem d_Se_takeIn_96 : decode prog_4_method_10_code 96 = .ok (.iload 5, 2) := by decide +kernel
theorem d_Se_takeIn_98 : decode prog_4_method_10_code 98 = .ok (.invokestatic 87, 3) := by decide +kernel
theorem d_Se_takeIn_101 : decode prog_4_method_10_code 101 = .ok (.laload, 1) := by decide +kernel
theorem d_Se_takeIn_102 : decode prog_4_method_10_code 102 = .ok (.invokestatic 107, 3) := by decide +kernel
theorem d_Se_takeIn_105 : decode prog_4_method_10_code 105 = .ok (.ireturn, 1) := by decide +kernel
theorem d_Se_takeIn_106 : decode prog_4_method_10_code 106 = .ok (.iload_n 3, 1) := by decide +kernel
theorem d_Se_takeIn_107 : decode prog_4_method_10_code 107 = .ok (.iload 5, 2) := by decide +kernel
theorem d_Se_takeIn_109 : decode prog_4_method_10_code 109 = .ok (.if_icmp .ne 18, 3) := by decide +kernel
theorem d_Se_takeIn_112 : decode prog_4_method_10_code 112 = .ok (.aload_n 1, 1) := by decide +kernel
theorem d_Se_takeIn_113 : decode prog_4_method_10_code 113 = .ok (.iload_n 3, 1) := by decide +kernel
theorem d_Se_takeIn_114 : decode prog_4_method_10_code 114 = .ok (.bipush 40, 2) := by decide +kernel
theorem d_Se_takeIn_116 : decode prog_4_method_10_code 116 = .ok (.isub, 1) := by decide +kernel
theorem d_Se_takeIn_117 : decode prog_4_method_10_code 117 = .ok (.aload_n 0, 1) := by decide +kernel
theorem d_Se_takeIn_118 : decode prog_4_method_10_code 118 = .ok (.iload 4, 2) := by decide +kernel
theorem d_Se_takeIn_120 : decode prog_4_method_10_code 120 = .ok (.invokevirtual 111, 3) := by decide +kernel
theorem d_Se_takeIn_123 : decode prog_4_method_10_code 123 = .ok (.invokestatic 107, 3) := by decide +kernel
theorem d_Se_takeIn_126 : decode prog_4_method_10_code 126 = .ok (.ireturn, 1) := by decide +kernel
theorem d_Se_takeIn_127 : decode prog_4_method_10_code 127 = .ok (.aload_n 0, 1) := by decide +kernel
theorem d_Se_takeIn_128 : decode prog_4_method_10_code 128 = .ok (.getfield 22, 3) := by decide +kernel
theorem d_Se_takeIn_131 : decode prog_4_method_10_code 131 = .ok (.aload_n 0, 1) := by decide +kernel
theorem d_Se_takeIn_132 : decode prog_4_method_10_code 132 = .ok (.getfield 26, 3) := by decide +kernel
theorem d_Se_takeIn_135 : decode prog_4_method_10_code 135 = .ok (.iload_n 2, 1) := by decide +kernel
theorem d_Se_takeIn_136 : decode prog_4_method_10_code 136 = .ok (.iastore, 1) := by decide +kernel
theorem d_Se_takeIn_137 : decode prog_4_method_10_code 137 = .ok (.aload_n 0, 1) := by decide +kernel
theorem d_Se_takeIn_138 : decode prog_4_method_10_code 138 = .ok (.dup, 1) := by decide +kernel
theorem d_Se_takeIn_139 : decode prog_4_method_10_code 139 = .ok (.getfield 26, 3) := by decide +kernel
theorem d_Se_takeIn_142 : decode prog_4_method_10_code 142 = .ok (.iconst 1, 1) := by decide +kernel
theorem d_Se_takeIn_143 : decode prog_4_method_10_code 143 = .ok (.iadd, 1) := by decide +kernel
theorem d_Se_takeIn_144 : decode prog_4_method_10_code 144 = .ok (.putfield 26, 3) := by decide +kernel
theorem d_Se_takeIn_147 : decode prog_4_method_10_code 147 = .ok (.iconst 1, 1) := by decide +kernel
theorem d_Se_takeIn_148 : decode prog_4_method_10_code 148 = .ok (.ireturn, 1) := by decide +kernel
theorem zf_Se_22 : Cond.fieldLink nR1 22 (nT1 2).1 (nT1 2).2.1 (nT1 2).2.2.1 ∈ zTg := zmem 93 (by decide +kernel) (by decide +kernel)
theorem zf_Se_26 : Cond.fieldLink nR1 26 (nT1 3).1 (nT1 3).2.1 (nT1 3).2.2.1 ∈ zTg := zmem 94 (by decide +kernel) (by decide +kernel)
theorem zt_7 : (Cond.selects "MergeGraphs$Search" (⟨"MergeGraphs$Search", "loops", "(I)J"⟩ : MethodName) (⟨"MergeGraphs$Search", "loops", "(I)J"⟩ : MethodName)) ∈ zTg := zmem 7 (by decide +kernel) (by decide +kernel)
theorem zt_391 : (Cond.static (⟨"MergeGraphs", "isIn", "(JI)Z"⟩ : MethodName)) ∈ zTg := zmem 391 (by decide +kernel) (by decide +kernel)
theorem zt_400 : (Cond.methodLink "MergeGraphs$Search" (107 : Nat) (⟨"MergeGraphs$Search", "limit", "([JIJ)Z"⟩ : MethodName)) ∈ zTg := zmem 400 (by decide +kernel) (by decide +kernel)
theorem zt_401 : (Cond.static (⟨"MergeGraphs$Search", "limit", "([JIJ)Z"⟩ : MethodName)) ∈ zTg := zmem 401 (by decide +kernel) (by decide +kernel)
theorem zt_403 : (Cond.methodLink "MergeGraphs$Search" (111 : Nat) (⟨"MergeGraphs$Search", "loops", "(I)J"⟩ : MethodName)) ∈ zTg := zmem 403 (by decide +kernel) (by decide +kernel)
theorem zt_405 : (Cond.instanceMethod (⟨"MergeGraphs$Search", "loops", "(I)J"⟩ : MethodName)) ∈ zTg := zmem 405 (by decide +kernel) (by decide +kernel)
def y_Se_keepOnly : MethodName := ⟨"MergeGraphs$Search", "keepOnly", "([JIJ)I"⟩
abbrev M_Se_keepOnly : zM := (nR1, prog_4_method_19_code, 6, (some .int), 0)
set_option maxRecDepth 100000 in
theorem zk_Se_keepOnly : Cond.code y_Se_keepOnly (M_Se_keepOnly).2.1 (M_Se_keepOnly).2.2.1 (M_Se_keepOnly).2.2.2.1 ∈ zTg := zmem 424 rfl rfl
theorem zy_Se_keepOnly : (y_Se_keepOnly).cls ≠ "java/lang/invoke/MethodHandle" ∧ (y_Se_keepOnly).cls ≠ "java/lang/invoke/VarHandle" ∧ (parseMethodDescriptor (y_Se_keepOnly).desc).map (fun d => d.parameters.length) = some 3 := by decide +kernel
theorem d_Se_keepOnly_0 : decode prog_4_method_19_code 0 = .ok (.aload_n 0, 1) := by decide +kernel
theorem d_Se_keepOnly_1 : decode prog_4_method_19_code 1 = .ok (.iload_n 1, 1) := by decide +kernel
theorem d_Se_keepOnly_2 : decode prog_4_method_19_code 2 = .ok (.laload, 1) := by decide +kernel
theorem d_Se_keepOnly_3 : decode prog_4_method_19_code 3 = .ok (.lload_n 2, 1) := by decide +kernel
theorem d_Se_keepOnly_4 : decode prog_4_method_19_code 4 = .ok (.land, 1) := by decide +kernel
theorem d_Se_keepOnly_5 : decode prog_4_method_19_code 5 = .ok (.lstore 4, 2) := by decide +kernel
theorem d_Se_keepOnly_7 : decode prog_4_method_19_code 7 = .ok (.lload 4, 2) := by decide +kernel
theorem d_Se_keepOnly_9 : decode prog_4_method_19_code 9 = .ok (.lconst 0, 1) := by decide +kernel
theorem d_Se_keepOnly_10 : decode prog_4_method_19_code 10 = .ok (.lcmp, 1) := by decide +kernel
theorem d_Se_keepOnly_11 : decode prog_4_method_19_code 11 = .ok (.ifCond .ne 5, 3) := by decide +kernel
theorem d_Se_keepOnly_14 : decode prog_4_method_19_code 14 = .ok (.iconst (-1), 1) := by decide +kernel
theorem d_Se_keepOnly_15 : decode prog_4_method_19_code 15 = .ok (.ireturn, 1) := by decide +kernel
theorem d_Se_keepOnly_16 : decode prog_4_method_19_code 16 = .ok (.lload 4, 2) := by decide +kernel
theorem d_Se_keepOnly_18 : decode prog_4_method_19_code 18 = .ok (.aload_n 0, 1) := by decide +kernel
theorem d_Se_keepOnly_19 : decode prog_4_method_19_code 19 = .ok (.iload_n 1, 1) := by decide +kernel
theorem d_Se_keepOnly_20 : decode prog_4_method_19_code 20 = .ok (.laload, 1) := by decide +kernel
theorem d_Se_keepOnly_21 : decode prog_4_method_19_code 21 = .ok (.lcmp, 1) := by decide +kernel
theorem d_Se_keepOnly_22 : decode prog_4_method_19_code 22 = .ok (.ifCond .ne 5, 3) := by decide +kernel
theorem d_Se_keepOnly_25 : decode prog_4_method_19_code 25 = .ok (.iconst 0, 1) := by decide +kernel
theorem d_Se_keepOnly_26 : decode prog_4_method_19_code 26 = .ok (.ireturn, 1) := by decide +kernel
theorem d_Se_keepOnly_27 : decode prog_4_method_19_code 27 = .ok (.aload_n 0, 1) := by decide +kernel
theorem d_Se_keepOnly_28 : decode prog_4_method_19_code 28 = .ok (.iload_n 1, 1) := by decide +kernel
theorem d_Se_keepOnly_29 : decode prog_4_method_19_code 29 = .ok (.lload 4, 2) := by decide +kernel
theorem d_Se_keepOnly_31 : decode prog_4_method_19_code 31 = .ok (.lastore, 1) := by decide +kernel
theorem d_Se_keepOnly_32 : decode prog_4_method_19_code 32 = .ok (.iconst 1, 1) := by decide +kernel
theorem d_Se_keepOnly_33 : decode prog_4_method_19_code 33 = .ok (.iload_n 1, 1) := by decide +kernel
theorem d_Se_keepOnly_34 : decode prog_4_method_19_code 34 = .ok (.ishl, 1) := by decide +kernel
theorem d_Se_keepOnly_35 : decode prog_4_method_19_code 35 = .ok (.ireturn, 1) := by decide +kernel
def y_Se_reach : MethodName := ⟨"MergeGraphs$Search", "reach", "([JIJ)J"⟩
abbrev M_Se_reach : zM := (nR1, prog_4_method_20_code, 9, (some .long), 1)
set_option maxRecDepth 100000 in
theorem zk_Se_reach : Cond.code y_Se_reach (M_Se_reach).2.1 (M_Se_reach).2.2.1 (M_Se_reach).2.2.2.1 ∈ zTg := zmem 420 rfl rfl
theorem zy_Se_reach : (y_Se_reach).cls ≠ "java/lang/invoke/MethodHandle" ∧ (y_Se_reach).cls ≠ "java/lang/invoke/VarHandle" ∧ (parseMethodDescriptor (y_Se_reach).desc).map (fun d => d.parameters.length) = some 3 := by decide +kernel
theorem d_Se_reach_0 : decode prog_4_method_20_code 0 = .ok (.lconst 0, 1) := by decide +kernel
theorem d_Se_reach_1 : decode prog_4_method_20_code 1 = .ok (.lstore 4, 2) := by decide +kernel
theorem d_Se_reach_3 : decode prog_4_method_20_code 3 = .ok (.lload_n 2, 1) := by decide +kernel
theorem d_Se_reach_4 : decode prog_4_method_20_code 4 = .ok (.lstore 6, 2) := by decide +kernel
theorem d_Se_reach_6 : decode prog_4_method_20_code 6 = .ok (.lload 6, 2) := by decide +kernel
theorem d_Se_reach_8 : decode prog_4_method_20_code 8 = .ok (.invokestatic 122, 3) := by decide +kernel
theorem d_Se_reach_11 : decode prog_4_method_20_code 11 = .ok (.istore 8, 2) := by decide +kernel
theorem d_Se_reach_13 : decode prog_4_method_20_code 13 = .ok (.iload 8, 2) := by decide +kernel
theorem d_Se_reach_15 : decode prog_4_method_20_code 15 = .ok (.ifCond .le 40, 3) := by decide +kernel
theorem d_Se_reach_18 : decode prog_4_method_20_code 18 = .ok (.lload 4, 2) := by decide +kernel
theorem d_Se_reach_20 : decode prog_4_method_20_code 20 = .ok (.aload_n 0, 1) := by decide +kernel
theorem d_Se_reach_21 : decode prog_4_method_20_code 21 = .ok (.iload_n 1, 1) := by decide +kernel
theorem d_Se_reach_22 : decode prog_4_method_20_code 22 = .ok (.lload 6, 2) := by decide +kernel
theorem d_Se_reach_24 : decode prog_4_method_20_code 24 = .ok (.lload 6, 2) := by decide +kernel
theorem d_Se_reach_26 : decode prog_4_method_20_code 26 = .ok (.lneg, 1) := by decide +kernel
theorem d_Se_reach_27 : decode prog_4_method_20_code 27 = .ok (.land, 1) := by decide +kernel
theorem d_Se_reach_28 : decode prog_4_method_20_code 28 = .ok (.lconst 1, 1) := by decide +kernel
theorem d_Se_reach_29 : decode prog_4_method_20_code 29 = .ok (.lsub, 1) := by decide +kernel
theorem d_Se_reach_30 : decode prog_4_method_20_code 30 = .ok (.invokestatic 122, 3) := by decide +kernel
theorem d_Se_reach_33 : decode prog_4_method_20_code 33 = .ok (.invokestatic 87, 3) := by decide +kernel
theorem d_Se_reach_36 : decode prog_4_method_20_code 36 = .ok (.laload, 1) := by decide +kernel
theorem d_Se_reach_37 : decode prog_4_method_20_code 37 = .ok (.lor, 1) := by decide +kernel
theorem d_Se_reach_38 : decode prog_4_method_20_code 38 = .ok (.lstore 4, 2) := by decide +kernel
theorem d_Se_reach_40 : decode prog_4_method_20_code 40 = .ok (.lload 6, 2) := by decide +kernel
theorem d_Se_reach_42 : decode prog_4_method_20_code 42 = .ok (.lload 6, 2) := by decide +kernel
theorem d_Se_reach_44 : decode prog_4_method_20_code 44 = .ok (.lconst 1, 1) := by decide +kernel
theorem d_Se_reach_45 : decode prog_4_method_20_code 45 = .ok (.lsub, 1) := by decide +kernel
theorem d_Se_reach_46 : decode prog_4_method_20_code 46 = .ok (.land, 1) := by decide +kernel
theorem d_Se_reach_47 : decode prog_4_method_20_code 47 = .ok (.lstore 6, 2) := by decide +kernel
theorem d_Se_reach_49 : decode prog_4_method_20_code 49 = .ok (.iinc 8 (-1), 3) := by decide +kernel
theorem d_Se_reach_52 : decode prog_4_method_20_code 52 = .ok (.goto (-39), 3) := by decide +kernel
theorem d_Se_reach_55 : decode prog_4_method_20_code 55 = .ok (.lload 4, 2) := by decide +kernel
theorem d_Se_reach_57 : decode prog_4_method_20_code 57 = .ok (.lreturn, 1) := by decide +kernel
theorem zt_421 : (Cond.methodLink "MergeGraphs$Search" (122 : Nat) (⟨"java/lang/Long", "bitCount", "(J)I"⟩ : MethodName)) ∈ zTg := zmem 421 (by decide +kernel) (by decide +kernel)
def y_Se_narrowOthers : MethodName := ⟨"MergeGraphs$Search", "narrowOthers", "([JI)I"⟩
abbrev M_Se_narrowOthers : zM := (nR1, prog_4_method_18_code, 4, (some .int), 1)
set_option maxRecDepth 100000 in
theorem zk_Se_narrowOthers : Cond.code y_Se_narrowOthers (M_Se_narrowOthers).2.1 (M_Se_narrowOthers).2.2.1 (M_Se_narrowOthers).2.2.2.1 ∈ zTg := zmem 427 rfl rfl
theorem zy_Se_narrowOthers : (y_Se_narrowOthers).cls ≠ "java/lang/invoke/MethodHandle" ∧ (y_Se_narrowOthers).cls ≠ "java/lang/invoke/VarHandle" ∧ (parseMethodDescriptor (y_Se_narrowOthers).desc).map (fun d => d.parameters.length) = some 2 := by decide +kernel
theorem d_Se_narrowOthers_0 : decode prog_4_method_18_code 0 = .ok (.iconst 0, 1) := by decide +kernel
theorem d_Se_narrowOthers_1 : decode prog_4_method_18_code 1 = .ok (.istore_n 2, 1) := by decide +kernel
theorem d_Se_narrowOthers_2 : decode prog_4_method_18_code 2 = .ok (.iconst 0, 1) := by decide +kernel
theorem d_Se_narrowOthers_3 : decode prog_4_method_18_code 3 = .ok (.istore_n 3, 1) := by decide +kernel
theorem d_Se_narrowOthers_4 : decode prog_4_method_18_code 4 = .ok (.iload_n 3, 1) := by decide +kernel
theorem d_Se_narrowOthers_5 : decode prog_4_method_18_code 5 = .ok (.bipush 6, 2) := by decide +kernel
theorem d_Se_narrowOthers_7 : decode prog_4_method_18_code 7 = .ok (.if_icmp .ge 37, 3) := by decide +kernel
theorem d_Se_narrowOthers_10 : decode prog_4_method_18_code 10 = .ok (.iload_n 3, 1) := by decide +kernel
theorem d_Se_narrowOthers_11 : decode prog_4_method_18_code 11 = .ok (.iload_n 1, 1) := by decide +kernel
theorem d_Se_narrowOthers_12 : decode prog_4_method_18_code 12 = .ok (.if_icmp .eq 26, 3) := by decide +kernel
theorem d_Se_narrowOthers_15 : decode prog_4_method_18_code 15 = .ok (.aload_n 0, 1) := by decide +kernel
theorem d_Se_narrowOthers_16 : decode prog_4_method_18_code 16 = .ok (.iload_n 3, 1) := by decide +kernel
theorem d_Se_narrowOthers_17 : decode prog_4_method_18_code 17 = .ok (.laload, 1) := by decide +kernel
theorem d_Se_narrowOthers_18 : decode prog_4_method_18_code 18 = .ok (.lconst 0, 1) := by decide +kernel
theorem d_Se_narrowOthers_19 : decode prog_4_method_18_code 19 = .ok (.lcmp, 1) := by decide +kernel
theorem d_Se_narrowOthers_20 : decode prog_4_method_18_code 20 = .ok (.ifCond .eq 18, 3) := by decide +kernel
theorem d_Se_narrowOthers_23 : decode prog_4_method_18_code 23 = .ok (.iload_n 2, 1) := by decide +kernel
theorem d_Se_narrowOthers_24 : decode prog_4_method_18_code 24 = .ok (.aload_n 0, 1) := by decide +kernel
theorem d_Se_narrowOthers_25 : decode prog_4_method_18_code 25 = .ok (.iload_n 3, 1) := by decide +kernel
theorem d_Se_narrowOthers_26 : decode prog_4_method_18_code 26 = .ok (.aload_n 0, 1) := by decide +kernel
theorem d_Se_narrowOthers_27 : decode prog_4_method_18_code 27 = .ok (.iload_n 1, 1) := by decide +kernel
theorem d_Se_narrowOthers_28 : decode prog_4_method_18_code 28 = .ok (.laload, 1) := by decide +kernel
theorem d_Se_narrowOthers_29 : decode prog_4_method_18_code 29 = .ok (.ldc2_w 146, 3) := by decide +kernel
theorem d_Se_narrowOthers_32 : decode prog_4_method_18_code 32 = .ok (.lxor, 1) := by decide +kernel
theorem d_Se_narrowOthers_33 : decode prog_4_method_18_code 33 = .ok (.invokestatic 142, 3) := by decide +kernel
theorem d_Se_narrowOthers_36 : decode prog_4_method_18_code 36 = .ok (.ior, 1) := by decide +kernel
theorem d_Se_narrowOthers_37 : decode prog_4_method_18_code 37 = .ok (.istore_n 2, 1) := by decide +kernel
theorem d_Se_narrowOthers_38 : decode prog_4_method_18_code 38 = .ok (.iinc 3 1, 3) := by decide +kernel
theorem d_Se_narrowOthers_41 : decode prog_4_method_18_code 41 = .ok (.goto (-37), 3) := by decide +kernel
theorem d_Se_narrowOthers_44 : decode prog_4_method_18_code 44 = .ok (.iload_n 2, 1) := by decide +kernel
theorem d_Se_narrowOthers_45 : decode prog_4_method_18_code 45 = .ok (.ireturn, 1) := by decide +kernel
theorem zt_422 : (Cond.methodLink "MergeGraphs$Search" (142 : Nat) (⟨"MergeGraphs$Search", "keepOnly", "([JIJ)I"⟩ : MethodName)) ∈ zTg := zmem 422 (by decide +kernel) (by decide +kernel)
theorem zt_423 : (Cond.static (⟨"MergeGraphs$Search", "keepOnly", "([JIJ)I"⟩ : MethodName)) ∈ zTg := zmem 423 (by decide +kernel) (by decide +kernel)
theorem zt_428 : (Cond.constantLong "MergeGraphs$Search" (146 : Nat) (-1 : Int64)) ∈ zTg := zmem 428 (by decide +kernel) (by decide +kernel)
def y_Se_narrowLinked : MethodName := ⟨"MergeGraphs$Search", "narrowLinked", "([JI)I"⟩
abbrev M_Se_narrowLinked : zM := (nR1, prog_4_method_17_code, 7, (some .int), 2)
set_option maxRecDepth 100000 in
theorem zk_Se_narrowLinked : Cond.code y_Se_narrowLinked (M_Se_narrowLinked).2.1 (M_Se_narrowLinked).2.2.1 (M_Se_narrowLinked).2.2.2.1 ∈ zTg := zmem 417 rfl rfl
theorem zy_Se_narrowLinked : (y_Se_narrowLinked).cls ≠ "java/lang/invoke/MethodHandle" ∧ (y_Se_narrowLinked).cls ≠ "java/lang/invoke/VarHandle" ∧ (parseMethodDescriptor (y_Se_narrowLinked).desc).map (fun d => d.parameters.length) = some 2 := by decide +kernel
theorem d_Se_narrowLinked_0 : decode prog_4_method_17_code 0 = .ok (.iconst 0, 1) := by decide +kernel
theorem d_Se_narrowLinked_1 : decode prog_4_method_17_code 1 = .ok (.istore_n 3, 1) := by decide +kernel
theorem d_Se_narrowLinked_2 : decode prog_4_method_17_code 2 = .ok (.iconst 0, 1) := by decide +kernel
theorem d_Se_narrowLinked_3 : decode prog_4_method_17_code 3 = .ok (.istore 4, 2) := by decide +kernel
theorem d_Se_narrowLinked_5 : decode prog_4_method_17_code 5 = .ok (.iload 4, 2) := by decide +kernel
theorem d_Se_narrowLinked_7 : decode prog_4_method_17_code 7 = .ok (.aload_n 0, 1) := by decide +kernel
theorem d_Se_narrowLinked_8 : decode prog_4_method_17_code 8 = .ok (.getfield 26, 3) := by decide +kernel
theorem d_Se_narrowLinked_11 : decode prog_4_method_17_code 11 = .ok (.if_icmp .ge 118, 3) := by decide +kernel
theorem d_Se_narrowLinked_14 : decode prog_4_method_17_code 14 = .ok (.aload_n 0, 1) := by decide +kernel
theorem d_Se_narrowLinked_15 : decode prog_4_method_17_code 15 = .ok (.getfield 22, 3) := by decide +kernel
theorem d_Se_narrowLinked_18 : decode prog_4_method_17_code 18 = .ok (.iload 4, 2) := by decide +kernel
theorem d_Se_narrowLinked_20 : decode prog_4_method_17_code 20 = .ok (.iaload, 1) := by decide +kernel
theorem d_Se_narrowLinked_21 : decode prog_4_method_17_code 21 = .ok (.invokestatic 78, 3) := by decide +kernel
theorem d_Se_narrowLinked_24 : decode prog_4_method_17_code 24 = .ok (.bipush 40, 2) := by decide +kernel
theorem d_Se_narrowLinked_26 : decode prog_4_method_17_code 26 = .ok (.isub, 1) := by decide +kernel
theorem d_Se_narrowLinked_27 : decode prog_4_method_17_code 27 = .ok (.istore 5, 2) := by decide +kernel
theorem d_Se_narrowLinked_29 : decode prog_4_method_17_code 29 = .ok (.aload_n 0, 1) := by decide +kernel
theorem d_Se_narrowLinked_30 : decode prog_4_method_17_code 30 = .ok (.getfield 22, 3) := by decide +kernel
theorem d_Se_narrowLinked_33 : decode prog_4_method_17_code 33 = .ok (.iload 4, 2) := by decide +kernel
theorem d_Se_narrowLinked_35 : decode prog_4_method_17_code 35 = .ok (.iaload, 1) := by decide +kernel
theorem d_Se_narrowLinked_36 : decode prog_4_method_17_code 36 = .ok (.invokestatic 81, 3) := by decide +kernel
theorem d_Se_narrowLinked_39 : decode prog_4_method_17_code 39 = .ok (.bipush 40, 2) := by decide +kernel
theorem d_Se_narrowLinked_41 : decode prog_4_method_17_code 41 = .ok (.isub, 1) := by decide +kernel
theorem d_Se_narrowLinked_42 : decode prog_4_method_17_code 42 = .ok (.istore 6, 2) := by decide +kernel
theorem d_Se_narrowLinked_44 : decode prog_4_method_17_code 44 = .ok (.iload 5, 2) := by decide +kernel
theorem d_Se_narrowLinked_46 : decode prog_4_method_17_code 46 = .ok (.iload_n 2, 1) := by decide +kernel
theorem d_Se_narrowLinked_47 : decode prog_4_method_17_code 47 = .ok (.if_icmp .ne 35, 3) := by decide +kernel
theorem d_Se_narrowLinked_50 : decode prog_4_method_17_code 50 = .ok (.iload_n 3, 1) := by decide +kernel
theorem d_Se_narrowLinked_51 : decode prog_4_method_17_code 51 = .ok (.aload_n 1, 1) := by decide +kernel
theorem d_Se_narrowLinked_52 : decode prog_4_method_17_code 52 = .ok (.iload 6, 2) := by decide +kernel
theorem d_Se_narrowLinked_54 : decode prog_4_method_17_code 54 = .ok (.aload_n 0, 1) := by decide +kernel
theorem d_Se_narrowLinked_55 : decode prog_4_method_17_code 55 = .ok (.getfield 35, 3) := by decide +kernel
theorem d_Se_narrowLinked_58 : decode prog_4_method_17_code 58 = .ok (.aload_n 0, 1) := by decide +kernel
theorem d_Se_narrowLinked_59 : decode prog_4_method_17_code 59 = .ok (.getfield 22, 3) := by decide +kernel
theorem d_Se_narrowLinked_62 : decode prog_4_method_17_code 62 = .ok (.iload 4, 2) := by decide +kernel
theorem d_Se_narrowLinked_64 : decode prog_4_method_17_code 64 = .ok (.iaload, 1) := by decide +kernel
theorem d_Se_narrowLinked_65 : decode prog_4_method_17_code 65 = .ok (.invokestatic 84, 3) := by decide +kernel
theorem d_Se_narrowLinked_68 : decode prog_4_method_17_code 68 = .ok (.aload_n 1, 1) := by decide +kernel
theorem d_Se_narrowLinked_69 : decode prog_4_method_17_code 69 = .ok (.iload_n 2, 1) := by decide +kernel
theorem d_Se_narrowLinked_70 : decode prog_4_method_17_code 70 = .ok (.laload, 1) := by decide +kernel
theorem d_Se_narrowLinked_71 : decode prog_4_method_17_code 71 = .ok (.invokestatic 138, 3) := by decide +kernel
theorem d_Se_narrowLinked_74 : decode prog_4_method_17_code 74 = .ok (.invokestatic 142, 3) := by decide +kernel
theorem d_Se_narrowLinked_77 : decode prog_4_method_17_code 77 = .ok (.ior, 1) := by decide +kernel
theorem d_Se_narrowLinked_78 : decode prog_4_method_17_code 78 = .ok (.istore_n 3, 1) := by decide +kernel
theorem d_Se_narrowLinked_79 : decode prog_4_method_17_code 79 = .ok (.goto 38, 3) := by decide +kernel
theorem d_Se_narrowLinked_82 : decode prog_4_method_17_code 82 = .ok (.iload 6, 2) := by decide +kernel
theorem d_Se_narrowLinked_84 : decode prog_4_method_17_code 84 = .ok (.iload_n 2, 1) := by decide +kernel
theorem d_Se_narrowLinked_85 : decode prog_4_method_17_code 85 = .ok (.if_icmp .ne 32, 3) := by decide +kernel
theorem d_Se_narrowLinked_88 : decode prog_4_method_17_code 88 = .ok (.iload_n 3, 1) := by decide +kernel
theorem d_Se_narrowLinked_89 : decode prog_4_method_17_code 89 = .ok (.aload_n 1, 1) := by decide +kernel
theorem d_Se_narrowLinked_90 : decode prog_4_method_17_code 90 = .ok (.iload 5, 2) := by decide +kernel
theorem d_Se_narrowLinked_92 : decode prog_4_method_17_code 92 = .ok (.aload_n 0, 1) := by decide +kernel
theorem d_Se_narrowLinked_93 : decode prog_4_method_17_code 93 = .ok (.getfield 39, 3) := by decide +kernel
theorem d_Se_narrowLinked_96 : decode prog_4_method_17_code 96 = .ok (.aload_n 0, 1) := by decide +kernel
theorem d_Se_narrowLinked_97 : decode prog_4_method_17_code 97 = .ok (.getfield 22, 3) := by decide +kernel
theorem d_Se_narrowLinked_100 : decode prog_4_method_17_code 100 = .ok (.iload 4, 2) := by decide +kernel
theorem d_Se_narrowLinked_102 : decode prog_4_method_17_code 102 = .ok (.iaload, 1) := by decide +kernel
theorem d_Se_narrowLinked_103 : decode prog_4_method_17_code 103 = .ok (.invokestatic 84, 3) := by decide +kernel
theorem d_Se_narrowLinked_106 : decode prog_4_method_17_code 106 = .ok (.aload_n 1, 1) := by decide +kernel
theorem d_Se_narrowLinked_107 : decode prog_4_method_17_code 107 = .ok (.iload_n 2, 1) := by decide +kernel
theorem d_Se_narrowLinked_108 : decode prog_4_method_17_code 108 = .ok (.laload, 1) := by decide +kernel
theorem d_Se_narrowLinked_109 : decode prog_4_method_17_code 109 = .ok (.invokestatic 138, 3) := by decide +kernel
theorem d_Se_narrowLinked_112 : decode prog_4_method_17_code 112 = .ok (.invokestatic 142, 3) := by decide +kernel
theorem d_Se_narrowLinked_115 : decode prog_4_method_17_code 115 = .ok (.ior, 1) := by decide +kernel
theorem d_Se_narrowLinked_116 : decode prog_4_method_17_code 116 = .ok (.istore_n 3, 1) := by decide +kernel
theorem d_Se_narrowLinked_117 : decode prog_4_method_17_code 117 = .ok (.iload_n 3, 1) := by decide +kernel
theorem d_Se_narrowLinked_118 : decode prog_4_method_17_code 118 = .ok (.ifCond .ge 5, 3) := by decide +kernel
theorem d_Se_narrowLinked_121 : decode prog_4_method_17_code 121 = .ok (.iconst (-1), 1) := by decide +kernel
theorem d_Se_narrowLinked_122 : decode prog_4_method_17_code 122 = .ok (.ireturn, 1) := by decide +kernel
theorem d_Se_narrowLinked_123 : decode prog_4_method_17_code 123 = .ok (.iinc 4 1, 3) := by decide +kernel
theorem d_Se_narrowLinked_126 : decode prog_4_method_17_code 126 = .ok (.goto (-121), 3) := by decide +kernel
theorem d_Se_narrowLinked_129 : decode prog_4_method_17_code 129 = .ok (.iload_n 3, 1) := by decide +kernel
theorem d_Se_narrowLinked_130 : decode prog_4_method_17_code 130 = .ok (.ireturn, 1) := by decide +kernel
theorem zt_418 : (Cond.methodLink "MergeGraphs$Search" (138 : Nat) (⟨"MergeGraphs$Search", "reach", "([JIJ)J"⟩ : MethodName)) ∈ zTg := zmem 418 (by decide +kernel) (by decide +kernel)
theorem zt_419 : (Cond.static (⟨"MergeGraphs$Search", "reach", "([JIJ)J"⟩ : MethodName)) ∈ zTg := zmem 419 (by decide +kernel) (by decide +kernel)
def y_Se_narrow : MethodName := ⟨"MergeGraphs$Search", "narrow", "([JIZ)Z"⟩
abbrev M_Se_narrow : zM := (nR1, prog_4_method_16_code, 9, (some .boolean), 3)
set_option maxRecDepth 100000 in
theorem zk_Se_narrow : Cond.code y_Se_narrow (M_Se_narrow).2.1 (M_Se_narrow).2.2.1 (M_Se_narrow).2.2.2.1 ∈ zTg := zmem 410 rfl rfl
theorem zy_Se_narrow : (y_Se_narrow).cls ≠ "java/lang/invoke/MethodHandle" ∧ (y_Se_narrow).cls ≠ "java/lang/invoke/VarHandle" ∧ (parseMethodDescriptor (y_Se_narrow).desc).map (fun d => d.parameters.length) = some 3 := by decide +kernel
theorem d_Se_narrow_0 : decode prog_4_method_16_code 0 = .ok (.iload_n 2, 1) := by decide +kernel
theorem d_Se_narrow_1 : decode prog_4_method_16_code 1 = .ok (.istore 4, 2) := by decide +kernel
theorem d_Se_narrow_3 : decode prog_4_method_16_code 3 = .ok (.iconst 0, 1) := by decide +kernel
theorem d_Se_narrow_4 : decode prog_4_method_16_code 4 = .ok (.istore 5, 2) := by decide +kernel
theorem d_Se_narrow_6 : decode prog_4_method_16_code 6 = .ok (.iload 5, 2) := by decide +kernel
theorem d_Se_narrow_8 : decode prog_4_method_16_code 8 = .ok (.sipush 282, 3) := by decide +kernel
theorem d_Se_narrow_11 : decode prog_4_method_16_code 11 = .ok (.if_icmp .ge 123, 3) := by decide +kernel
theorem d_Se_narrow_14 : decode prog_4_method_16_code 14 = .ok (.iload 4, 2) := by decide +kernel
theorem d_Se_narrow_16 : decode prog_4_method_16_code 16 = .ok (.ifCond .eq 118, 3) := by decide +kernel
theorem d_Se_narrow_19 : decode prog_4_method_16_code 19 = .ok (.iload 4, 2) := by decide +kernel
theorem d_Se_narrow_21 : decode prog_4_method_16_code 21 = .ok (.i2l, 1) := by decide +kernel
theorem d_Se_narrow_22 : decode prog_4_method_16_code 22 = .ok (.invokestatic 128, 3) := by decide +kernel
theorem d_Se_narrow_25 : decode prog_4_method_16_code 25 = .ok (.istore 6, 2) := by decide +kernel
theorem d_Se_narrow_27 : decode prog_4_method_16_code 27 = .ok (.iload 4, 2) := by decide +kernel
theorem d_Se_narrow_29 : decode prog_4_method_16_code 29 = .ok (.iload 4, 2) := by decide +kernel
theorem d_Se_narrow_31 : decode prog_4_method_16_code 31 = .ok (.iconst 1, 1) := by decide +kernel
theorem d_Se_narrow_32 : decode prog_4_method_16_code 32 = .ok (.isub, 1) := by decide +kernel
theorem d_Se_narrow_33 : decode prog_4_method_16_code 33 = .ok (.iand, 1) := by decide +kernel
theorem d_Se_narrow_34 : decode prog_4_method_16_code 34 = .ok (.istore 4, 2) := by decide +kernel
theorem d_Se_narrow_36 : decode prog_4_method_16_code 36 = .ok (.aload_n 1, 1) := by decide +kernel
theorem d_Se_narrow_37 : decode prog_4_method_16_code 37 = .ok (.iload 6, 2) := by decide +kernel
theorem d_Se_narrow_39 : decode prog_4_method_16_code 39 = .ok (.laload, 1) := by decide +kernel
theorem d_Se_narrow_40 : decode prog_4_method_16_code 40 = .ok (.aload_n 1, 1) := by decide +kernel
theorem d_Se_narrow_41 : decode prog_4_method_16_code 41 = .ok (.iload 6, 2) := by decide +kernel
theorem d_Se_narrow_43 : decode prog_4_method_16_code 43 = .ok (.laload, 1) := by decide +kernel
theorem d_Se_narrow_44 : decode prog_4_method_16_code 44 = .ok (.lconst 1, 1) := by decide +kernel
theorem d_Se_narrow_45 : decode prog_4_method_16_code 45 = .ok (.lsub, 1) := by decide +kernel
theorem d_Se_narrow_46 : decode prog_4_method_16_code 46 = .ok (.land, 1) := by decide +kernel
theorem d_Se_narrow_47 : decode prog_4_method_16_code 47 = .ok (.lconst 0, 1) := by decide +kernel
theorem d_Se_narrow_48 : decode prog_4_method_16_code 48 = .ok (.lcmp, 1) := by decide +kernel
theorem d_Se_narrow_49 : decode prog_4_method_16_code 49 = .ok (.ifCond .ne 7, 3) := by decide +kernel
theorem d_Se_narrow_52 : decode prog_4_method_16_code 52 = .ok (.iconst 1, 1) := by decide +kernel
theorem d_Se_narrow_53 : decode prog_4_method_16_code 53 = .ok (.goto 4, 3) := by decide +kernel
theorem d_Se_narrow_56 : decode prog_4_method_16_code 56 = .ok (.iconst 0, 1) := by decide +kernel
theorem d_Se_narrow_57 : decode prog_4_method_16_code 57 = .ok (.istore 7, 2) := by decide +kernel
theorem d_Se_narrow_59 : decode prog_4_method_16_code 59 = .ok (.aload_n 1, 1) := by decide +kernel
theorem d_Se_narrow_60 : decode prog_4_method_16_code 60 = .ok (.iload 6, 2) := by decide +kernel
theorem d_Se_narrow_62 : decode prog_4_method_16_code 62 = .ok (.laload, 1) := by decide +kernel
theorem d_Se_narrow_63 : decode prog_4_method_16_code 63 = .ok (.lconst 0, 1) := by decide +kernel
theorem d_Se_narrow_64 : decode prog_4_method_16_code 64 = .ok (.lcmp, 1) := by decide +kernel
theorem d_Se_narrow_65 : decode prog_4_method_16_code 65 = .ok (.ifCond .eq 63, 3) := by decide +kernel
theorem d_Se_narrow_68 : decode prog_4_method_16_code 68 = .ok (.iload_n 3, 1) := by decide +kernel
theorem d_Se_narrow_69 : decode prog_4_method_16_code 69 = .ok (.ifCond .ne 8, 3) := by decide +kernel
theorem d_Se_narrow_72 : decode prog_4_method_16_code 72 = .ok (.iload 7, 2) := by decide +kernel
theorem d_Se_narrow_74 : decode prog_4_method_16_code 74 = .ok (.ifCond .eq 54, 3) := by decide +kernel
theorem d_Se_narrow_77 : decode prog_4_method_16_code 77 = .ok (.aload_n 0, 1) := by decide +kernel
theorem d_Se_narrow_78 : decode prog_4_method_16_code 78 = .ok (.aload_n 1, 1) := by decide +kernel
theorem d_Se_narrow_79 : decode prog_4_method_16_code 79 = .ok (.iload 6, 2) := by decide +kernel
theorem d_Se_narrow_81 : decode prog_4_method_16_code 81 = .ok (.invokevirtual 131, 3) := by decide +kernel
theorem d_Se_narrow_84 : decode prog_4_method_16_code 84 = .ok (.istore 8, 2) := by decide +kernel
theorem d_Se_narrow_86 : decode prog_4_method_16_code 86 = .ok (.iload 8, 2) := by decide +kernel
theorem d_Se_narrow_88 : decode prog_4_method_16_code 88 = .ok (.ifCond .lt 26, 3) := by decide +kernel
theorem d_Se_narrow_91 : decode prog_4_method_16_code 91 = .ok (.iload 7, 2) := by decide +kernel
theorem d_Se_narrow_93 : decode prog_4_method_16_code 93 = .ok (.ifCond .eq 21, 3) := by decide +kernel
theorem d_Se_narrow_96 : decode prog_4_method_16_code 96 = .ok (.aload_n 0, 1) := by decide +kernel
theorem d_Se_narrow_97 : decode prog_4_method_16_code 97 = .ok (.getfield 18, 3) := by decide +kernel
theorem d_Se_narrow_100 : decode prog_4_method_16_code 100 = .ok (.ifCond .eq 14, 3) := by decide +kernel
theorem d_Se_narrow_103 : decode prog_4_method_16_code 103 = .ok (.iload 8, 2) := by decide +kernel
theorem d_Se_narrow_105 : decode prog_4_method_16_code 105 = .ok (.aload_n 1, 1) := by decide +kernel
theorem d_Se_narrow_106 : decode prog_4_method_16_code 106 = .ok (.iload 6, 2) := by decide +kernel
theorem d_Se_narrow_108 : decode prog_4_method_16_code 108 = .ok (.invokestatic 135, 3) := by decide +kernel
theorem d_Se_narrow_111 : decode prog_4_method_16_code 111 = .ok (.ior, 1) := by decide +kernel
theorem d_Se_narrow_112 : decode prog_4_method_16_code 112 = .ok (.istore 8, 2) := by decide +kernel
theorem d_Se_narrow_114 : decode prog_4_method_16_code 114 = .ok (.iload 8, 2) := by decide +kernel
theorem d_Se_narrow_116 : decode prog_4_method_16_code 116 = .ok (.ifCond .ge 5, 3) := by decide +kernel
theorem d_Se_narrow_119 : decode prog_4_method_16_code 119 = .ok (.iconst 0, 1) := by decide +kernel
theorem d_Se_narrow_120 : decode prog_4_method_16_code 120 = .ok (.ireturn, 1) := by decide +kernel
theorem d_Se_narrow_121 : decode prog_4_method_16_code 121 = .ok (.iload 4, 2) := by decide +kernel
theorem d_Se_narrow_123 : decode prog_4_method_16_code 123 = .ok (.iload 8, 2) := by decide +kernel
theorem d_Se_narrow_125 : decode prog_4_method_16_code 125 = .ok (.ior, 1) := by decide +kernel
theorem d_Se_narrow_126 : decode prog_4_method_16_code 126 = .ok (.istore 4, 2) := by decide +kernel
theorem d_Se_narrow_128 : decode prog_4_method_16_code 128 = .ok (.iinc 5 1, 3) := by decide +kernel
theorem d_Se_narrow_131 : decode prog_4_method_16_code 131 = .ok (.goto (-125), 3) := by decide +kernel
theorem d_Se_narrow_134 : decode prog_4_method_16_code 134 = .ok (.iconst 1, 1) := by decide +kernel
theorem d_Se_narrow_135 : decode prog_4_method_16_code 135 = .ok (.ireturn, 1) := by decide +kernel
theorem zf_Se_18 : Cond.fieldLink nR1 18 (nT1 1).1 (nT1 1).2.1 (nT1 1).2.2.1 ∈ zTg := zmem 92 (by decide +kernel) (by decide +kernel)
theorem zt_9 : (Cond.selects "MergeGraphs$Search" (⟨"MergeGraphs$Search", "narrowLinked", "([JI)I"⟩ : MethodName) (⟨"MergeGraphs$Search", "narrowLinked", "([JI)I"⟩ : MethodName)) ∈ zTg := zmem 9 (by decide +kernel) (by decide +kernel)
theorem zt_412 : (Cond.static (⟨"MergeGraphs", "lowestOf", "(J)I"⟩ : MethodName)) ∈ zTg := zmem 412 (by decide +kernel) (by decide +kernel)
theorem zt_414 : (Cond.methodLink "MergeGraphs$Search" (131 : Nat) (⟨"MergeGraphs$Search", "narrowLinked", "([JI)I"⟩ : MethodName)) ∈ zTg := zmem 414 (by decide +kernel) (by decide +kernel)
theorem zt_416 : (Cond.instanceMethod (⟨"MergeGraphs$Search", "narrowLinked", "([JI)I"⟩ : MethodName)) ∈ zTg := zmem 416 (by decide +kernel) (by decide +kernel)
theorem zt_425 : (Cond.methodLink "MergeGraphs$Search" (135 : Nat) (⟨"MergeGraphs$Search", "narrowOthers", "([JI)I"⟩ : MethodName)) ∈ zTg := zmem 425 (by decide +kernel) (by decide +kernel)
theorem zt_426 : (Cond.static (⟨"MergeGraphs$Search", "narrowOthers", "([JI)I"⟩ : MethodName)) ∈ zTg := zmem 426 (by decide +kernel) (by decide +kernel)
def y_Se_copyChoices : MethodName := ⟨"MergeGraphs$Search", "copyChoices", "(I)V"⟩
abbrev M_Se_copyChoices : zM := (nR1, prog_4_method_14_code, 3, none, 0)
set_option maxRecDepth 100000 in
theorem zk_Se_copyChoices : Cond.code y_Se_copyChoices (M_Se_copyChoices).2.1 (M_Se_copyChoices).2.2.1 (M_Se_copyChoices).2.2.2.1 ∈ zTg := zmem 440 rfl rfl
theorem zy_Se_copyChoices : (y_Se_copyChoices).cls ≠ "java/lang/invoke/MethodHandle" ∧ (y_Se_copyChoices).cls ≠ "java/lang/invoke/VarHandle" ∧ (parseMethodDescriptor (y_Se_copyChoices).desc).map (fun d => d.parameters.length) = some 1 := by decide +kernel
theorem d_Se_copyChoices_0 : decode prog_4_method_14_code 0 = .ok (.iconst 0, 1) := by decide +kernel
theorem d_Se_copyChoices_1 : decode prog_4_method_14_code 1 = .ok (.istore_n 2, 1) := by decide +kernel
theorem d_Se_copyChoices_2 : decode prog_4_method_14_code 2 = .ok (.iload_n 2, 1) := by decide +kernel
theorem d_Se_copyChoices_3 : decode prog_4_method_14_code 3 = .ok (.bipush 6, 2) := by decide +kernel
theorem d_Se_copyChoices_5 : decode prog_4_method_14_code 5 = .ok (.if_icmp .ge 27, 3) := by decide +kernel
theorem d_Se_copyChoices_8 : decode prog_4_method_14_code 8 = .ok (.aload_n 0, 1) := by decide +kernel
theorem d_Se_copyChoices_9 : decode prog_4_method_14_code 9 = .ok (.getfield 32, 3) := by decide +kernel
theorem d_Se_copyChoices_12 : decode prog_4_method_14_code 12 = .ok (.iload_n 1, 1) := by decide +kernel
theorem d_Se_copyChoices_13 : decode prog_4_method_14_code 13 = .ok (.iconst 1, 1) := by decide +kernel
theorem d_Se_copyChoices_14 : decode prog_4_method_14_code 14 = .ok (.iadd, 1) := by decide +kernel
theorem d_Se_copyChoices_15 : decode prog_4_method_14_code 15 = .ok (.aaload, 1) := by decide +kernel
theorem d_Se_copyChoices_16 : decode prog_4_method_14_code 16 = .ok (.iload_n 2, 1) := by decide +kernel
theorem d_Se_copyChoices_17 : decode prog_4_method_14_code 17 = .ok (.aload_n 0, 1) := by decide +kernel
theorem d_Se_copyChoices_18 : decode prog_4_method_14_code 18 = .ok (.getfield 32, 3) := by decide +kernel
theorem d_Se_copyChoices_21 : decode prog_4_method_14_code 21 = .ok (.iload_n 1, 1) := by decide +kernel
theorem d_Se_copyChoices_22 : decode prog_4_method_14_code 22 = .ok (.aaload, 1) := by decide +kernel
theorem d_Se_copyChoices_23 : decode prog_4_method_14_code 23 = .ok (.iload_n 2, 1) := by decide +kernel
theorem d_Se_copyChoices_24 : decode prog_4_method_14_code 24 = .ok (.laload, 1) := by decide +kernel
theorem d_Se_copyChoices_25 : decode prog_4_method_14_code 25 = .ok (.lastore, 1) := by decide +kernel
theorem d_Se_copyChoices_26 : decode prog_4_method_14_code 26 = .ok (.iinc 2 1, 3) := by decide +kernel
theorem d_Se_copyChoices_29 : decode prog_4_method_14_code 29 = .ok (.goto (-27), 3) := by decide +kernel
theorem d_Se_copyChoices_32 : decode prog_4_method_14_code 32 = .ok (.return_, 1) := by decide +kernel
theorem zf_Se_32 : Cond.fieldLink nR1 32 (nT1 4).1 (nT1 4).2.1 (nT1 4).2.2.1 ∈ zTg := zmem 95 (by decide +kernel) (by decide +kernel)
def y_Se_writeRow : MethodName := ⟨"MergeGraphs$Search", "writeRow", "()V"⟩
abbrev M_Se_writeRow : zM := (nR1, prog_4_method_15_code, 2, none, 2)
set_option maxRecDepth 100000 in
theorem zk_Se_writeRow : Cond.code y_Se_writeRow (M_Se_writeRow).2.1 (M_Se_writeRow).2.2.1 (M_Se_writeRow).2.2.2.1 ∈ zTg := zmem 436 rfl rfl
theorem zy_Se_writeRow : (y_Se_writeRow).cls ≠ "java/lang/invoke/MethodHandle" ∧ (y_Se_writeRow).cls ≠ "java/lang/invoke/VarHandle" ∧ (parseMethodDescriptor (y_Se_writeRow).desc).map (fun d => d.parameters.length) = some 0 := by decide +kernel
theorem d_Se_writeRow_0 : decode prog_4_method_15_code 0 = .ok (.iconst 0, 1) := by decide +kernel
theorem d_Se_writeRow_1 : decode prog_4_method_15_code 1 = .ok (.istore_n 1, 1) := by decide +kernel
theorem d_Se_writeRow_2 : decode prog_4_method_15_code 2 = .ok (.iload_n 1, 1) := by decide +kernel
theorem d_Se_writeRow_3 : decode prog_4_method_15_code 3 = .ok (.bipush 6, 2) := by decide +kernel
theorem d_Se_writeRow_5 : decode prog_4_method_15_code 5 = .ok (.if_icmp .ge 45, 3) := by decide +kernel
theorem d_Se_writeRow_8 : decode prog_4_method_15_code 8 = .ok (.aload_n 0, 1) := by decide +kernel
theorem d_Se_writeRow_9 : decode prog_4_method_15_code 9 = .ok (.getfield 42, 3) := by decide +kernel
theorem d_Se_writeRow_12 : decode prog_4_method_15_code 12 = .ok (.iload_n 1, 1) := by decide +kernel
theorem d_Se_writeRow_13 : decode prog_4_method_15_code 13 = .ok (.aload_n 0, 1) := by decide +kernel
theorem d_Se_writeRow_14 : decode prog_4_method_15_code 14 = .ok (.getfield 32, 3) := by decide +kernel
theorem d_Se_writeRow_17 : decode prog_4_method_15_code 17 = .ok (.bipush 6, 2) := by decide +kernel
theorem d_Se_writeRow_19 : decode prog_4_method_15_code 19 = .ok (.aaload, 1) := by decide +kernel
theorem d_Se_writeRow_20 : decode prog_4_method_15_code 20 = .ok (.iload_n 1, 1) := by decide +kernel
theorem d_Se_writeRow_21 : decode prog_4_method_15_code 21 = .ok (.laload, 1) := by decide +kernel
theorem d_Se_writeRow_22 : decode prog_4_method_15_code 22 = .ok (.lconst 0, 1) := by decide +kernel
theorem d_Se_writeRow_23 : decode prog_4_method_15_code 23 = .ok (.lcmp, 1) := by decide +kernel
theorem d_Se_writeRow_24 : decode prog_4_method_15_code 24 = .ok (.ifCond .ne 7, 3) := by decide +kernel
theorem d_Se_writeRow_27 : decode prog_4_method_15_code 27 = .ok (.iconst (-1), 1) := by decide +kernel
theorem d_Se_writeRow_28 : decode prog_4_method_15_code 28 = .ok (.goto 15, 3) := by decide +kernel
theorem d_Se_writeRow_31 : decode prog_4_method_15_code 31 = .ok (.aload_n 0, 1) := by decide +kernel
theorem d_Se_writeRow_32 : decode prog_4_method_15_code 32 = .ok (.getfield 32, 3) := by decide +kernel
theorem d_Se_writeRow_35 : decode prog_4_method_15_code 35 = .ok (.bipush 6, 2) := by decide +kernel
theorem d_Se_writeRow_37 : decode prog_4_method_15_code 37 = .ok (.aaload, 1) := by decide +kernel
theorem d_Se_writeRow_38 : decode prog_4_method_15_code 38 = .ok (.iload_n 1, 1) := by decide +kernel
theorem d_Se_writeRow_39 : decode prog_4_method_15_code 39 = .ok (.laload, 1) := by decide +kernel
theorem d_Se_writeRow_40 : decode prog_4_method_15_code 40 = .ok (.invokestatic 128, 3) := by decide +kernel
theorem d_Se_writeRow_43 : decode prog_4_method_15_code 43 = .ok (.iastore, 1) := by decide +kernel
theorem d_Se_writeRow_44 : decode prog_4_method_15_code 44 = .ok (.iinc 1 1, 3) := by decide +kernel
theorem d_Se_writeRow_47 : decode prog_4_method_15_code 47 = .ok (.goto (-45), 3) := by decide +kernel
theorem d_Se_writeRow_50 : decode prog_4_method_15_code 50 = .ok (.return_, 1) := by decide +kernel
def y_Se_settle : MethodName := ⟨"MergeGraphs$Search", "settle", "(I)Z"⟩
abbrev M_Se_settle (D : Nat) : zM := (nR1, prog_4_method_13_code, 7, (some .boolean), 4 + D)
set_option maxRecDepth 100000 in
theorem zk_Se_settle (D : Nat) : Cond.code y_Se_settle (M_Se_settle D).2.1 (M_Se_settle D).2.2.1 (M_Se_settle D).2.2.2.1 ∈ zTg := zmem 432 rfl rfl
theorem zy_Se_settle : (y_Se_settle).cls ≠ "java/lang/invoke/MethodHandle" ∧ (y_Se_settle).cls ≠ "java/lang/invoke/VarHandle" ∧ (parseMethodDescriptor (y_Se_settle).desc).map (fun d => d.parameters.length) = some 1 := by decide +kernel
theorem d_Se_settle_0 : decode prog_4_method_13_code 0 = .ok (.iload_n 1, 1) := by decide +kernel
theorem d_Se_settle_1 : decode prog_4_method_13_code 1 = .ok (.bipush 6, 2) := by decide +kernel
theorem d_Se_settle_3 : decode prog_4_method_13_code 3 = .ok (.if_icmp .lt 9, 3) := by decide +kernel
theorem d_Se_settle_6 : decode prog_4_method_13_code 6 = .ok (.aload_n 0, 1) := by decide +kernel
theorem d_Se_settle_7 : decode prog_4_method_13_code 7 = .ok (.invokevirtual 115, 3) := by decide +kernel
theorem d_Se_settle_10 : decode prog_4_method_13_code 10 = .ok (.iconst 1, 1) := by decide +kernel
theorem d_Se_settle_11 : decode prog_4_method_13_code 11 = .ok (.ireturn, 1) := by decide +kernel
theorem d_Se_settle_12 : decode prog_4_method_13_code 12 = .ok (.aload_n 0, 1) := by decide +kernel
theorem d_Se_settle_13 : decode prog_4_method_13_code 13 = .ok (.getfield 32, 3) := by decide +kernel
theorem d_Se_settle_16 : decode prog_4_method_13_code 16 = .ok (.iload_n 1, 1) := by decide +kernel
theorem d_Se_settle_17 : decode prog_4_method_13_code 17 = .ok (.aaload, 1) := by decide +kernel
theorem d_Se_settle_18 : decode prog_4_method_13_code 18 = .ok (.iload_n 1, 1) := by decide +kernel
theorem d_Se_settle_19 : decode prog_4_method_13_code 19 = .ok (.laload, 1) := by decide +kernel
theorem d_Se_settle_20 : decode prog_4_method_13_code 20 = .ok (.lstore_n 2, 1) := by decide +kernel
theorem d_Se_settle_21 : decode prog_4_method_13_code 21 = .ok (.lload_n 2, 1) := by decide +kernel
theorem d_Se_settle_22 : decode prog_4_method_13_code 22 = .ok (.lconst 0, 1) := by decide +kernel
theorem d_Se_settle_23 : decode prog_4_method_13_code 23 = .ok (.lcmp, 1) := by decide +kernel
theorem d_Se_settle_24 : decode prog_4_method_13_code 24 = .ok (.ifCond .ne 16, 3) := by decide +kernel
theorem d_Se_settle_27 : decode prog_4_method_13_code 27 = .ok (.aload_n 0, 1) := by decide +kernel
theorem d_Se_settle_28 : decode prog_4_method_13_code 28 = .ok (.iload_n 1, 1) := by decide +kernel
theorem d_Se_settle_29 : decode prog_4_method_13_code 29 = .ok (.invokevirtual 118, 3) := by decide +kernel
theorem d_Se_settle_32 : decode prog_4_method_13_code 32 = .ok (.aload_n 0, 1) := by decide +kernel
theorem d_Se_settle_33 : decode prog_4_method_13_code 33 = .ok (.iload_n 1, 1) := by decide +kernel
theorem d_Se_settle_34 : decode prog_4_method_13_code 34 = .ok (.iconst 1, 1) := by decide +kernel
theorem d_Se_settle_35 : decode prog_4_method_13_code 35 = .ok (.iadd, 1) := by decide +kernel
theorem d_Se_settle_36 : decode prog_4_method_13_code 36 = .ok (.invokevirtual 56, 3) := by decide +kernel
theorem d_Se_settle_39 : decode prog_4_method_13_code 39 = .ok (.ireturn, 1) := by decide +kernel
theorem d_Se_settle_40 : decode prog_4_method_13_code 40 = .ok (.lload_n 2, 1) := by decide +kernel
theorem d_Se_settle_41 : decode prog_4_method_13_code 41 = .ok (.invokestatic 122, 3) := by decide +kernel
theorem d_Se_settle_44 : decode prog_4_method_13_code 44 = .ok (.istore 4, 2) := by decide +kernel
theorem d_Se_settle_46 : decode prog_4_method_13_code 46 = .ok (.iload 4, 2) := by decide +kernel
theorem d_Se_settle_48 : decode prog_4_method_13_code 48 = .ok (.ifCond .le 68, 3) := by decide +kernel
theorem d_Se_settle_51 : decode prog_4_method_13_code 51 = .ok (.lload_n 2, 1) := by decide +kernel
theorem d_Se_settle_52 : decode prog_4_method_13_code 52 = .ok (.lload_n 2, 1) := by decide +kernel
theorem d_Se_settle_53 : decode prog_4_method_13_code 53 = .ok (.lneg, 1) := by decide +kernel
theorem d_Se_settle_54 : decode prog_4_method_13_code 54 = .ok (.land, 1) := by decide +kernel
theorem d_Se_settle_55 : decode prog_4_method_13_code 55 = .ok (.lstore 5, 2) := by decide +kernel
theorem d_Se_settle_57 : decode prog_4_method_13_code 57 = .ok (.lload_n 2, 1) := by decide +kernel
theorem d_Se_settle_58 : decode prog_4_method_13_code 58 = .ok (.lload 5, 2) := by decide +kernel
theorem d_Se_settle_60 : decode prog_4_method_13_code 60 = .ok (.lxor, 1) := by decide +kernel
theorem d_Se_settle_61 : decode prog_4_method_13_code 61 = .ok (.lstore_n 2, 1) := by decide +kernel
theorem d_Se_settle_62 : decode prog_4_method_13_code 62 = .ok (.aload_n 0, 1) := by decide +kernel
theorem d_Se_settle_63 : decode prog_4_method_13_code 63 = .ok (.iload_n 1, 1) := by decide +kernel
theorem d_Se_settle_64 : decode prog_4_method_13_code 64 = .ok (.invokevirtual 118, 3) := by decide +kernel
theorem d_Se_settle_67 : decode prog_4_method_13_code 67 = .ok (.aload_n 0, 1) := by decide +kernel
theorem d_Se_settle_68 : decode prog_4_method_13_code 68 = .ok (.getfield 32, 3) := by decide +kernel
theorem d_Se_settle_71 : decode prog_4_method_13_code 71 = .ok (.iload_n 1, 1) := by decide +kernel
theorem d_Se_settle_72 : decode prog_4_method_13_code 72 = .ok (.iconst 1, 1) := by decide +kernel
theorem d_Se_settle_73 : decode prog_4_method_13_code 73 = .ok (.iadd, 1) := by decide +kernel
theorem d_Se_settle_74 : decode prog_4_method_13_code 74 = .ok (.aaload, 1) := by decide +kernel
theorem d_Se_settle_75 : decode prog_4_method_13_code 75 = .ok (.iload_n 1, 1) := by decide +kernel
theorem d_Se_settle_76 : decode prog_4_method_13_code 76 = .ok (.lload 5, 2) := by decide +kernel
theorem d_Se_settle_78 : decode prog_4_method_13_code 78 = .ok (.lastore, 1) := by decide +kernel
theorem d_Se_settle_79 : decode prog_4_method_13_code 79 = .ok (.aload_n 0, 1) := by decide +kernel
theorem d_Se_settle_80 : decode prog_4_method_13_code 80 = .ok (.aload_n 0, 1) := by decide +kernel
theorem d_Se_settle_81 : decode prog_4_method_13_code 81 = .ok (.getfield 32, 3) := by decide +kernel
theorem d_Se_settle_84 : decode prog_4_method_13_code 84 = .ok (.iload_n 1, 1) := by decide +kernel
theorem d_Se_settle_85 : decode prog_4_method_13_code 85 = .ok (.iconst 1, 1) := by decide +kernel
theorem d_Se_settle_86 : decode prog_4_method_13_code 86 = .ok (.iadd, 1) := by decide +kernel
theorem d_Se_settle_87 : decode prog_4_method_13_code 87 = .ok (.aaload, 1) := by decide +kernel
theorem d_Se_settle_88 : decode prog_4_method_13_code 88 = .ok (.iconst 1, 1) := by decide +kernel
theorem d_Se_settle_89 : decode prog_4_method_13_code 89 = .ok (.iload_n 1, 1) := by decide +kernel
theorem d_Se_settle_90 : decode prog_4_method_13_code 90 = .ok (.ishl, 1) := by decide +kernel
theorem d_Se_settle_91 : decode prog_4_method_13_code 91 = .ok (.iconst 0, 1) := by decide +kernel
theorem d_Se_settle_92 : decode prog_4_method_13_code 92 = .ok (.invokevirtual 103, 3) := by decide +kernel
theorem d_Se_settle_95 : decode prog_4_method_13_code 95 = .ok (.ifCond .eq 15, 3) := by decide +kernel
theorem d_Se_settle_98 : decode prog_4_method_13_code 98 = .ok (.aload_n 0, 1) := by decide +kernel
theorem d_Se_settle_99 : decode prog_4_method_13_code 99 = .ok (.iload_n 1, 1) := by decide +kernel
theorem d_Se_settle_100 : decode prog_4_method_13_code 100 = .ok (.iconst 1, 1) := by decide +kernel
theorem d_Se_settle_101 : decode prog_4_method_13_code 101 = .ok (.iadd, 1) := by decide +kernel
theorem d_Se_settle_102 : decode prog_4_method_13_code 102 = .ok (.invokevirtual 56, 3) := by decide +kernel
theorem d_Se_settle_105 : decode prog_4_method_13_code 105 = .ok (.ifCond .eq 5, 3) := by decide +kernel
theorem d_Se_settle_108 : decode prog_4_method_13_code 108 = .ok (.iconst 1, 1) := by decide +kernel
theorem d_Se_settle_109 : decode prog_4_method_13_code 109 = .ok (.ireturn, 1) := by decide +kernel
theorem d_Se_settle_110 : decode prog_4_method_13_code 110 = .ok (.iinc 4 (-1), 3) := by decide +kernel
theorem d_Se_settle_113 : decode prog_4_method_13_code 113 = .ok (.goto (-67), 3) := by decide +kernel
theorem d_Se_settle_116 : decode prog_4_method_13_code 116 = .ok (.iconst 0, 1) := by decide +kernel
theorem d_Se_settle_117 : decode prog_4_method_13_code 117 = .ok (.ireturn, 1) := by decide +kernel
theorem zt_8 : (Cond.selects "MergeGraphs$Search" (⟨"MergeGraphs$Search", "narrow", "([JIZ)Z"⟩ : MethodName) (⟨"MergeGraphs$Search", "narrow", "([JIZ)Z"⟩ : MethodName)) ∈ zTg := zmem 8 (by decide +kernel) (by decide +kernel)
theorem zt_10 : (Cond.selects "MergeGraphs$Search" (⟨"MergeGraphs$Search", "settle", "(I)Z"⟩ : MethodName) (⟨"MergeGraphs$Search", "settle", "(I)Z"⟩ : MethodName)) ∈ zTg := zmem 10 (by decide +kernel) (by decide +kernel)
theorem zt_11 : (Cond.selects "MergeGraphs$Search" (⟨"MergeGraphs$Search", "writeRow", "()V"⟩ : MethodName) (⟨"MergeGraphs$Search", "writeRow", "()V"⟩ : MethodName)) ∈ zTg := zmem 11 (by decide +kernel) (by decide +kernel)
theorem zt_12 : (Cond.selects "MergeGraphs$Search" (⟨"MergeGraphs$Search", "copyChoices", "(I)V"⟩ : MethodName) (⟨"MergeGraphs$Search", "copyChoices", "(I)V"⟩ : MethodName)) ∈ zTg := zmem 12 (by decide +kernel) (by decide +kernel)
theorem zt_407 : (Cond.methodLink "MergeGraphs$Search" (103 : Nat) (⟨"MergeGraphs$Search", "narrow", "([JIZ)Z"⟩ : MethodName)) ∈ zTg := zmem 407 (by decide +kernel) (by decide +kernel)
theorem zt_409 : (Cond.instanceMethod (⟨"MergeGraphs$Search", "narrow", "([JIZ)Z"⟩ : MethodName)) ∈ zTg := zmem 409 (by decide +kernel) (by decide +kernel)
theorem zt_429 : (Cond.methodLink "MergeGraphs$Search" (56 : Nat) (⟨"MergeGraphs$Search", "settle", "(I)Z"⟩ : MethodName)) ∈ zTg := zmem 429 (by decide +kernel) (by decide +kernel)
theorem zt_431 : (Cond.instanceMethod (⟨"MergeGraphs$Search", "settle", "(I)Z"⟩ : MethodName)) ∈ zTg := zmem 431 (by decide +kernel) (by decide +kernel)
theorem zt_433 : (Cond.methodLink "MergeGraphs$Search" (115 : Nat) (⟨"MergeGraphs$Search", "writeRow", "()V"⟩ : MethodName)) ∈ zTg := zmem 433 (by decide +kernel) (by decide +kernel)
theorem zt_435 : (Cond.instanceMethod (⟨"MergeGraphs$Search", "writeRow", "()V"⟩ : MethodName)) ∈ zTg := zmem 435 (by decide +kernel) (by decide +kernel)
theorem zt_437 : (Cond.methodLink "MergeGraphs$Search" (118 : Nat) (⟨"MergeGraphs$Search", "copyChoices", "(I)V"⟩ : MethodName)) ∈ zTg := zmem 437 (by decide +kernel) (by decide +kernel)
theorem zt_439 : (Cond.instanceMethod (⟨"MergeGraphs$Search", "copyChoices", "(I)V"⟩ : MethodName)) ∈ zTg := zmem 439 (by decide +kernel) (by decide +kernel)
def y_Se_start : MethodName := ⟨"MergeGraphs$Search", "start", "(J)Z"⟩
abbrev M_Se_start : zM := (nR1, prog_4_method_9_code, 7, (some .boolean), 4)
set_option maxRecDepth 100000 in
theorem zk_Se_start : Cond.code y_Se_start (M_Se_start).2.1 (M_Se_start).2.2.1 (M_Se_start).2.2.2.1 ∈ zTg := zmem 388 rfl rfl
theorem zy_Se_start : (y_Se_start).cls ≠ "java/lang/invoke/MethodHandle" ∧ (y_Se_start).cls ≠ "java/lang/invoke/VarHandle" ∧ (parseMethodDescriptor (y_Se_start).desc).map (fun d => d.parameters.length) = some 1 := by decide +kernel
theorem d_Se_start_0 : decode prog_4_method_9_code 0 = .ok (.aload_n 0, 1) := by decide +kernel
theorem d_Se_start_1 : decode prog_4_method_9_code 1 = .ok (.getfield 32, 3) := by decide +kernel
theorem d_Se_start_4 : decode prog_4_method_9_code 4 = .ok (.iconst 0, 1) := by decide +kernel
theorem d_Se_start_5 : decode prog_4_method_9_code 5 = .ok (.aaload, 1) := by decide +kernel
theorem d_Se_start_6 : decode prog_4_method_9_code 6 = .ok (.astore_n 3, 1) := by decide +kernel
theorem d_Se_start_7 : decode prog_4_method_9_code 7 = .ok (.aload_n 0, 1) := by decide +kernel
theorem d_Se_start_8 : decode prog_4_method_9_code 8 = .ok (.getfield 12, 3) := by decide +kernel
theorem d_Se_start_11 : decode prog_4_method_9_code 11 = .ok (.invokevirtual 91, 3) := by decide +kernel
theorem d_Se_start_14 : decode prog_4_method_9_code 14 = .ok (.lstore 4, 2) := by decide +kernel
theorem d_Se_start_16 : decode prog_4_method_9_code 16 = .ok (.lload 4, 2) := by decide +kernel
theorem d_Se_start_18 : decode prog_4_method_9_code 18 = .ok (.lconst 0, 1) := by decide +kernel
theorem d_Se_start_19 : decode prog_4_method_9_code 19 = .ok (.lcmp, 1) := by decide +kernel
theorem d_Se_start_20 : decode prog_4_method_9_code 20 = .ok (.ifCond .eq 11, 3) := by decide +kernel
theorem d_Se_start_23 : decode prog_4_method_9_code 23 = .ok (.lload_n 1, 1) := by decide +kernel
theorem d_Se_start_24 : decode prog_4_method_9_code 24 = .ok (.lconst 0, 1) := by decide +kernel
theorem d_Se_start_25 : decode prog_4_method_9_code 25 = .ok (.lcmp, 1) := by decide +kernel
theorem d_Se_start_26 : decode prog_4_method_9_code 26 = .ok (.ifCond .ne 5, 3) := by decide +kernel
theorem d_Se_start_29 : decode prog_4_method_9_code 29 = .ok (.iconst 0, 1) := by decide +kernel
theorem d_Se_start_30 : decode prog_4_method_9_code 30 = .ok (.ireturn, 1) := by decide +kernel
theorem d_Se_start_31 : decode prog_4_method_9_code 31 = .ok (.iconst 0, 1) := by decide +kernel
theorem d_Se_start_32 : decode prog_4_method_9_code 32 = .ok (.istore 6, 2) := by decide +kernel
theorem d_Se_start_34 : decode prog_4_method_9_code 34 = .ok (.iload 6, 2) := by decide +kernel
theorem d_Se_start_36 : decode prog_4_method_9_code 36 = .ok (.bipush 6, 2) := by decide +kernel
theorem d_Se_start_38 : decode prog_4_method_9_code 38 = .ok (.if_icmp .ge 31, 3) := by decide +kernel
theorem d_Se_start_41 : decode prog_4_method_9_code 41 = .ok (.aload_n 3, 1) := by decide +kernel
theorem d_Se_start_42 : decode prog_4_method_9_code 42 = .ok (.iload 6, 2) := by decide +kernel
theorem d_Se_start_44 : decode prog_4_method_9_code 44 = .ok (.lload 4, 2) := by decide +kernel
theorem d_Se_start_46 : decode prog_4_method_9_code 46 = .ok (.bipush 40, 2) := by decide +kernel
theorem d_Se_start_48 : decode prog_4_method_9_code 48 = .ok (.iload 6, 2) := by decide +kernel
theorem d_Se_start_50 : decode prog_4_method_9_code 50 = .ok (.iadd, 1) := by decide +kernel
theorem d_Se_start_51 : decode prog_4_method_9_code 51 = .ok (.invokestatic 95, 3) := by decide +kernel
theorem d_Se_start_54 : decode prog_4_method_9_code 54 = .ok (.ifCond .eq 7, 3) := by decide +kernel
theorem d_Se_start_57 : decode prog_4_method_9_code 57 = .ok (.lload_n 1, 1) := by decide +kernel
theorem d_Se_start_58 : decode prog_4_method_9_code 58 = .ok (.goto 4, 3) := by decide +kernel
theorem d_Se_start_61 : decode prog_4_method_9_code 61 = .ok (.lconst 0, 1) := by decide +kernel
theorem d_Se_start_62 : decode prog_4_method_9_code 62 = .ok (.lastore, 1) := by decide +kernel
theorem d_Se_start_63 : decode prog_4_method_9_code 63 = .ok (.iinc 6 1, 3) := by decide +kernel
theorem d_Se_start_66 : decode prog_4_method_9_code 66 = .ok (.goto (-32), 3) := by decide +kernel
theorem d_Se_start_69 : decode prog_4_method_9_code 69 = .ok (.aload_n 0, 1) := by decide +kernel
theorem d_Se_start_70 : decode prog_4_method_9_code 70 = .ok (.iconst 0, 1) := by decide +kernel
theorem d_Se_start_71 : decode prog_4_method_9_code 71 = .ok (.putfield 26, 3) := by decide +kernel
theorem d_Se_start_74 : decode prog_4_method_9_code 74 = .ok (.iconst 0, 1) := by decide +kernel
theorem d_Se_start_75 : decode prog_4_method_9_code 75 = .ok (.istore 6, 2) := by decide +kernel
theorem d_Se_start_77 : decode prog_4_method_9_code 77 = .ok (.iload 6, 2) := by decide +kernel
theorem d_Se_start_79 : decode prog_4_method_9_code 79 = .ok (.aload_n 0, 1) := by decide +kernel
theorem d_Se_start_80 : decode prog_4_method_9_code 80 = .ok (.getfield 12, 3) := by decide +kernel
theorem d_Se_start_83 : decode prog_4_method_9_code 83 = .ok (.invokevirtual 70, 3) := by decide +kernel
theorem d_Se_start_86 : decode prog_4_method_9_code 86 = .ok (.if_icmp .ge 28, 3) := by decide +kernel
theorem d_Se_start_89 : decode prog_4_method_9_code 89 = .ok (.aload_n 0, 1) := by decide +kernel
theorem d_Se_start_90 : decode prog_4_method_9_code 90 = .ok (.aload_n 3, 1) := by decide +kernel
theorem d_Se_start_91 : decode prog_4_method_9_code 91 = .ok (.aload_n 0, 1) := by decide +kernel
theorem d_Se_start_92 : decode prog_4_method_9_code 92 = .ok (.getfield 12, 3) := by decide +kernel
theorem d_Se_start_95 : decode prog_4_method_9_code 95 = .ok (.iload 6, 2) := by decide +kernel
theorem d_Se_start_97 : decode prog_4_method_9_code 97 = .ok (.invokevirtual 74, 3) := by decide +kernel
theorem d_Se_start_100 : decode prog_4_method_9_code 100 = .ok (.invokevirtual 99, 3) := by decide +kernel
theorem d_Se_start_103 : decode prog_4_method_9_code 103 = .ok (.ifCond .ne 5, 3) := by decide +kernel
theorem d_Se_start_106 : decode prog_4_method_9_code 106 = .ok (.iconst 0, 1) := by decide +kernel
theorem d_Se_start_107 : decode prog_4_method_9_code 107 = .ok (.ireturn, 1) := by decide +kernel
theorem d_Se_start_108 : decode prog_4_method_9_code 108 = .ok (.iinc 6 1, 3) := by decide +kernel
theorem d_Se_start_111 : decode prog_4_method_9_code 111 = .ok (.goto (-34), 3) := by decide +kernel
theorem d_Se_start_114 : decode prog_4_method_9_code 114 = .ok (.aload_n 0, 1) := by decide +kernel
theorem d_Se_start_115 : decode prog_4_method_9_code 115 = .ok (.aload_n 3, 1) := by decide +kernel
theorem d_Se_start_116 : decode prog_4_method_9_code 116 = .ok (.bipush 63, 2) := by decide +kernel
theorem d_Se_start_118 : decode prog_4_method_9_code 118 = .ok (.iconst 1, 1) := by decide +kernel
theorem d_Se_start_119 : decode prog_4_method_9_code 119 = .ok (.invokevirtual 103, 3) := by decide +kernel
theorem d_Se_start_122 : decode prog_4_method_9_code 122 = .ok (.ireturn, 1) := by decide +kernel
theorem zf_Se_12 : Cond.fieldLink nR1 12 (nT1 0).1 (nT1 0).2.1 (nT1 0).2.2.1 ∈ zTg := zmem 91 (by decide +kernel) (by decide +kernel)
theorem zt_6 : (Cond.selects "MergeGraphs$Search" (⟨"MergeGraphs$Search", "takeIn", "([JI)Z"⟩ : MethodName) (⟨"MergeGraphs$Search", "takeIn", "([JI)Z"⟩ : MethodName)) ∈ zTg := zmem 6 (by decide +kernel) (by decide +kernel)
theorem zt_321 : (Cond.instanceMethod (⟨"MergeGraphs$Graph", "nodes", "()J"⟩ : MethodName)) ∈ zTg := zmem 321 (by decide +kernel) (by decide +kernel)
theorem zt_322 : (Cond.selects "MergeGraphs$Graph" (⟨"MergeGraphs$Graph", "nodes", "()J"⟩ : MethodName) (⟨"MergeGraphs$Graph", "nodes", "()J"⟩ : MethodName)) ∈ zTg := zmem 322 (by decide +kernel) (by decide +kernel)
theorem zt_389 : (Cond.methodLink "MergeGraphs$Search" (91 : Nat) (⟨"MergeGraphs$Graph", "nodes", "()J"⟩ : MethodName)) ∈ zTg := zmem 389 (by decide +kernel) (by decide +kernel)
theorem zt_393 : (Cond.methodLink "MergeGraphs$Search" (99 : Nat) (⟨"MergeGraphs$Search", "takeIn", "([JI)Z"⟩ : MethodName)) ∈ zTg := zmem 393 (by decide +kernel) (by decide +kernel)
theorem zt_395 : (Cond.instanceMethod (⟨"MergeGraphs$Search", "takeIn", "([JI)Z"⟩ : MethodName)) ∈ zTg := zmem 395 (by decide +kernel) (by decide +kernel)
def y_Se_find : MethodName := ⟨"MergeGraphs$Search", "find", "(LMergeGraphs$Graph;LMergeGraphs$Graph;JZ)Z"⟩
abbrev M_Se_find : zM := (nR1, prog_4_method_2_code, 7, (some .boolean), 13)
set_option maxRecDepth 100000 in
theorem zk_Se_find : Cond.code y_Se_find (M_Se_find).2.1 (M_Se_find).2.2.1 (M_Se_find).2.2.2.1 ∈ zTg := zmem 369 rfl rfl
theorem zy_Se_find : (y_Se_find).cls ≠ "java/lang/invoke/MethodHandle" ∧ (y_Se_find).cls ≠ "java/lang/invoke/VarHandle" ∧ (parseMethodDescriptor (y_Se_find).desc).map (fun d => d.parameters.length) = some 4 := by decide +kernel
theorem d_Se_find_0 : decode prog_4_method_2_code 0 = .ok (.aload_n 0, 1) := by decide +kernel
theorem d_Se_find_1 : decode prog_4_method_2_code 1 = .ok (.getfield 12, 3) := by decide +kernel
theorem d_Se_find_4 : decode prog_4_method_2_code 4 = .ok (.aload_n 1, 1) := by decide +kernel
theorem d_Se_find_5 : decode prog_4_method_2_code 5 = .ok (.invokevirtual 45, 3) := by decide +kernel
theorem d_Se_find_8 : decode prog_4_method_2_code 8 = .ok (.aload_n 0, 1) := by decide +kernel
theorem d_Se_find_9 : decode prog_4_method_2_code 9 = .ok (.iload 5, 2) := by decide +kernel
theorem d_Se_find_11 : decode prog_4_method_2_code 11 = .ok (.putfield 18, 3) := by decide +kernel
theorem d_Se_find_14 : decode prog_4_method_2_code 14 = .ok (.aload_n 0, 1) := by decide +kernel
theorem d_Se_find_15 : decode prog_4_method_2_code 15 = .ok (.aload_n 2, 1) := by decide +kernel
theorem d_Se_find_16 : decode prog_4_method_2_code 16 = .ok (.invokevirtual 49, 3) := by decide +kernel
theorem d_Se_find_19 : decode prog_4_method_2_code 19 = .ok (.aload_n 0, 1) := by decide +kernel
theorem d_Se_find_20 : decode prog_4_method_2_code 20 = .ok (.lload_n 3, 1) := by decide +kernel
theorem d_Se_find_21 : decode prog_4_method_2_code 21 = .ok (.invokevirtual 52, 3) := by decide +kernel
theorem d_Se_find_24 : decode prog_4_method_2_code 24 = .ok (.ifCond .eq 15, 3) := by decide +kernel
theorem d_Se_find_27 : decode prog_4_method_2_code 27 = .ok (.aload_n 0, 1) := by decide +kernel
theorem d_Se_find_28 : decode prog_4_method_2_code 28 = .ok (.iconst 0, 1) := by decide +kernel
theorem d_Se_find_29 : decode prog_4_method_2_code 29 = .ok (.invokevirtual 56, 3) := by decide +kernel
theorem d_Se_find_32 : decode prog_4_method_2_code 32 = .ok (.ifCond .eq 7, 3) := by decide +kernel
theorem d_Se_find_35 : decode prog_4_method_2_code 35 = .ok (.iconst 1, 1) := by decide +kernel
theorem d_Se_find_36 : decode prog_4_method_2_code 36 = .ok (.goto 4, 3) := by decide +kernel
theorem d_Se_find_39 : decode prog_4_method_2_code 39 = .ok (.iconst 0, 1) := by decide +kernel
theorem d_Se_find_40 : decode prog_4_method_2_code 40 = .ok (.istore 6, 2) := by decide +kernel
theorem d_Se_find_42 : decode prog_4_method_2_code 42 = .ok (.aload_n 0, 1) := by decide +kernel
theorem d_Se_find_43 : decode prog_4_method_2_code 43 = .ok (.aload_n 2, 1) := by decide +kernel
theorem d_Se_find_44 : decode prog_4_method_2_code 44 = .ok (.invokevirtual 60, 3) := by decide +kernel
theorem d_Se_find_47 : decode prog_4_method_2_code 47 = .ok (.iload 6, 2) := by decide +kernel
theorem d_Se_find_49 : decode prog_4_method_2_code 49 = .ok (.ireturn, 1) := by decide +kernel
theorem zt_4 : (Cond.selects "MergeGraphs$Search" (⟨"MergeGraphs$Search", "mark", "(LMergeGraphs$Graph;)V"⟩ : MethodName) (⟨"MergeGraphs$Search", "mark", "(LMergeGraphs$Graph;)V"⟩ : MethodName)) ∈ zTg := zmem 4 (by decide +kernel) (by decide +kernel)
theorem zt_5 : (Cond.selects "MergeGraphs$Search" (⟨"MergeGraphs$Search", "start", "(J)Z"⟩ : MethodName) (⟨"MergeGraphs$Search", "start", "(J)Z"⟩ : MethodName)) ∈ zTg := zmem 5 (by decide +kernel) (by decide +kernel)
theorem zt_13 : (Cond.selects "MergeGraphs$Search" (⟨"MergeGraphs$Search", "unmark", "(LMergeGraphs$Graph;)V"⟩ : MethodName) (⟨"MergeGraphs$Search", "unmark", "(LMergeGraphs$Graph;)V"⟩ : MethodName)) ∈ zTg := zmem 13 (by decide +kernel) (by decide +kernel)
theorem zt_306 : (Cond.instanceMethod (⟨"MergeGraphs$Graph", "become", "(LMergeGraphs$Graph;)V"⟩ : MethodName)) ∈ zTg := zmem 306 (by decide +kernel) (by decide +kernel)
theorem zt_307 : (Cond.selects "MergeGraphs$Graph" (⟨"MergeGraphs$Graph", "become", "(LMergeGraphs$Graph;)V"⟩ : MethodName) (⟨"MergeGraphs$Graph", "become", "(LMergeGraphs$Graph;)V"⟩ : MethodName)) ∈ zTg := zmem 307 (by decide +kernel) (by decide +kernel)
theorem zt_370 : (Cond.methodLink "MergeGraphs$Search" (45 : Nat) (⟨"MergeGraphs$Graph", "become", "(LMergeGraphs$Graph;)V"⟩ : MethodName)) ∈ zTg := zmem 370 (by decide +kernel) (by decide +kernel)
theorem zt_371 : (Cond.methodLink "MergeGraphs$Search" (49 : Nat) (⟨"MergeGraphs$Search", "mark", "(LMergeGraphs$Graph;)V"⟩ : MethodName)) ∈ zTg := zmem 371 (by decide +kernel) (by decide +kernel)
theorem zt_373 : (Cond.instanceMethod (⟨"MergeGraphs$Search", "mark", "(LMergeGraphs$Graph;)V"⟩ : MethodName)) ∈ zTg := zmem 373 (by decide +kernel) (by decide +kernel)
theorem zt_385 : (Cond.methodLink "MergeGraphs$Search" (52 : Nat) (⟨"MergeGraphs$Search", "start", "(J)Z"⟩ : MethodName)) ∈ zTg := zmem 385 (by decide +kernel) (by decide +kernel)
theorem zt_387 : (Cond.instanceMethod (⟨"MergeGraphs$Search", "start", "(J)Z"⟩ : MethodName)) ∈ zTg := zmem 387 (by decide +kernel) (by decide +kernel)
theorem zt_441 : (Cond.methodLink "MergeGraphs$Search" (60 : Nat) (⟨"MergeGraphs$Search", "unmark", "(LMergeGraphs$Graph;)V"⟩ : MethodName)) ∈ zTg := zmem 441 (by decide +kernel) (by decide +kernel)
theorem zt_443 : (Cond.instanceMethod (⟨"MergeGraphs$Search", "unmark", "(LMergeGraphs$Graph;)V"⟩ : MethodName)) ∈ zTg := zmem 443 (by decide +kernel) (by decide +kernel)
def f_Se_cell (G : Nat) (x0 : Int32) (x1 : Int32) (h : pH) : Option pR := some (some (.int ((x0 * (46 : Int32)) + x1)), h)
theorem f_Se_cell_eq (G : Nat) (x0 : Int32) (x1 : Int32) (h : pH) : f_Se_cell G x0 x1 h = (some (some (.int ((x0 * (46 : Int32)) + x1)), h)) := rfl
set_option maxRecDepth 100000 in
set_option maxHeartbeats 4000000 in
theorem w_Se_cell_b0 {X : zX} {r : pR} {G : Nat} (hQ : zQ X r) : ∀ (x0 : Int32) (x1 : Int32) (h : pH), f_Se_cell G x0 x1 h = some r → Z X M_Se_cell 0 0 h 0 [(0, .int x0), (1, .int x1)] [] := by
  intro x0 x1 h E
  rw [f_Se_cell_eq] at E
  refine z_iload_n 0 d_Se_cell_0 rfl rfl ?_
  refine z_bipush (v := (46 : Int32)) d_Se_cell_1 (by decide) ?_
  refine z_imul d_Se_cell_3 ?_
  refine z_iload_n 1 d_Se_cell_4 rfl rfl ?_
  refine z_iadd d_Se_cell_5 ?_
  exact z_ireturn hQ rfl z00 d_Se_cell_6 E
theorem m_Se_cell {l : Launch} {G : Nat} {x0 : Int32} {x1 : Int32} {h : pH} {r : pR} (E : f_Se_cell G x0 x1 h = some r) : zMet l y_Se_cell M_Se_cell 0 0 [.int x0, .int x1] h r :=
  zMet_of (by decide) rfl (Nat.le_of_ble_eq_true rfl) (fun p e s m args below meth c D0 cT => w_Se_cell_b0 (X := (p, l, e, s, m, args, below, meth, c, D0, cT, h, _, 0, 0)) rfl x0 x1 h E)
def f_Se_termFor_b20 (G : Nat) (s0 : Int32) (h : pH) : Option pR := some (some (.int s0), h)
theorem f_Se_termFor_b20_eq (G : Nat) (s0 : Int32) (h : pH) : f_Se_termFor_b20 G s0 h = (some (some (.int s0), h)) := rfl
def f_Se_termFor (G : Nat) (x0 : Nat) (x1 : Int32) (h : pH) : Option pR := cI true (f_Mg_isNode G x1 h) fun v4 h1 => if v4 = 0 then ((f_Se_termFor_b20 G) (-1 : Int32) h1) else ((gR h1 x0 1 7).bind fun v5 => (aI h1 v5 (x1 - (40 : Int32))).bind fun v6 => (f_Se_termFor_b20 G) v6 h1)
theorem f_Se_termFor_eq (G : Nat) (x0 : Nat) (x1 : Int32) (h : pH) : f_Se_termFor G x0 x1 h = (cI true (f_Mg_isNode G x1 h) fun v4 h1 => if v4 = 0 then ((f_Se_termFor_b20 G) (-1 : Int32) h1) else ((gR h1 x0 1 7).bind fun v5 => (aI h1 v5 (x1 - (40 : Int32))).bind fun v6 => (f_Se_termFor_b20 G) v6 h1)) := rfl
set_option maxRecDepth 100000 in
set_option maxHeartbeats 4000000 in
theorem w_Se_termFor_b20 {X : zX} {r : pR} {G : Nat} (hQ : zQ X r) : ∀ (s0 : Int32) (h : pH), f_Se_termFor_b20 G s0 h = some r → Z X M_Se_termFor 0 0 h 20 [] [.int s0] := by
  intro s0 h E
  rw [f_Se_termFor_b20_eq] at E
  exact z_ireturn hQ rfl z00 d_Se_termFor_20 E
set_option maxRecDepth 100000 in
set_option maxHeartbeats 4000000 in
theorem w_Se_termFor_b0 {X : zX} {r : pR} {G : Nat} (hQ : zQ X r) : ∀ (x0 : Nat) (x1 : Int32) (h : pH), f_Se_termFor G x0 x1 h = some r → Z X M_Se_termFor 0 0 h 0 [(0, .ref x0), (1, .int x1)] [] := by
  intro x0 x1 h E
  rw [f_Se_termFor_eq] at E
  refine z_iload_n 1 d_Se_termFor_0 rfl rfl ?_
  obtain ⟨g2, v4, h1, e3, E⟩ := cI_some E
  refine z_invSN (y := y_Mg_isNode) (Mc := M_Mg_isNode) (av := [.int x1]) (rest := []) ⟨(List.mem_of_getElem? (i := 11) rfl), zt_398, zt_47⟩ zk_Mg_isNode zy_Mg_isNode (by decide) (Nat.le_of_ble_eq_true rfl) z00 rfl (Nat.le_of_ble_eq_true rfl) d_Se_termFor_1 (m_Mg_isNode e3) ?_
  show Z X M_Se_termFor 0 0 h1 4 [(0, .ref x0), (1, .int x1)] [.int v4]
  refine z_if_eq (y := 0) (tgt := 19) d_Se_termFor_4 (by decide) E (fun E => ?_) (fun E => ?_)
  · refine z_iconst (v := (-1 : Int32)) d_Se_termFor_19 (by decide) ?_
    refine z_lv [] rfl ?_
    exact (w_Se_termFor_b20 hQ) (-1 : Int32) h1 E
  · refine z_aload_n 0 d_Se_termFor_7 rfl rfl ?_
    refine z_getR (ci := 1) (j := 7) rfl (by decide) zf_Se_42 d_Se_termFor_8 E (fun v5 _ E => ?_)
    refine z_iload_n 1 d_Se_termFor_11 rfl rfl ?_
    refine z_bipush (v := (40 : Int32)) d_Se_termFor_12 (by decide) ?_
    refine z_isub d_Se_termFor_14 ?_
    refine z_iaload d_Se_termFor_15 E (fun v6 _ E => ?_)
    refine z_goto (tgt := 20) d_Se_termFor_16 (by decide) ?_
    refine z_lv [] rfl ?_
    exact (w_Se_termFor_b20 hQ) v6 h1 E
theorem m_Se_termFor {l : Launch} {G : Nat} {x0 : Nat} {x1 : Int32} {h : pH} {r : pR} (E : f_Se_termFor G x0 x1 h = some r) : zMet l y_Se_termFor M_Se_termFor 0 0 [.ref x0, .int x1] h r :=
  zMet_of (by decide) rfl (Nat.le_of_ble_eq_true rfl) (fun p e s m args below meth c D0 cT => w_Se_termFor_b0 (X := (p, l, e, s, m, args, below, meth, c, D0, cT, h, _, 0, 0)) rfl x0 x1 h E)
def f_Se_rowIsBefore (G : Nat) (x0 : Nat) (x1 : Nat) (h : pH) : Option pR := (gR h x0 1 7).bind fun v1 => cI true (f_Mg_isBefore G v1 x1 (6 : Int32) h) fun v5 h2 => (if isZ v5 = true then some (some (.int v5), h2) else none)
theorem f_Se_rowIsBefore_eq (G : Nat) (x0 : Nat) (x1 : Nat) (h : pH) : f_Se_rowIsBefore G x0 x1 h = ((gR h x0 1 7).bind fun v1 => cI true (f_Mg_isBefore G v1 x1 (6 : Int32) h) fun v5 h2 => (if isZ v5 = true then some (some (.int v5), h2) else none)) := rfl
set_option maxRecDepth 100000 in
set_option maxHeartbeats 4000000 in
theorem w_Se_rowIsBefore_b0 {X : zX} {r : pR} {G : Nat} (hQ : zQ X r) : ∀ (x0 : Nat) (x1 : Nat) (h : pH), f_Se_rowIsBefore G x0 x1 h = some r → Z X M_Se_rowIsBefore 0 0 h 0 [(0, .ref x0), (1, .ref x1)] [] := by
  intro x0 x1 h E
  rw [f_Se_rowIsBefore_eq] at E
  refine z_aload_n 0 d_Se_rowIsBefore_0 rfl rfl ?_
  refine z_getR (ci := 1) (j := 7) rfl (by decide) zf_Se_42 d_Se_rowIsBefore_1 E (fun v1 _ E => ?_)
  refine z_aload_n 1 d_Se_rowIsBefore_4 rfl rfl ?_
  refine z_bipush (v := (6 : Int32)) d_Se_rowIsBefore_5 (by decide) ?_
  obtain ⟨g3, v5, h2, e4, E⟩ := cI_some E
  refine z_invSN (y := y_Mg_isBefore) (Mc := M_Mg_isBefore) (av := [.ref v1, .ref x1, .int (6 : Int32)]) (rest := []) ⟨(List.mem_of_getElem? (i := 16) rfl), zt_509, zt_47⟩ zk_Mg_isBefore zy_Mg_isBefore (by decide) (Nat.le_of_ble_eq_true rfl) z00 rfl (Nat.le_of_ble_eq_true rfl) d_Se_rowIsBefore_7 (m_Mg_isBefore e4) ?_
  show Z X M_Se_rowIsBefore 0 0 h2 10 [(0, .ref x0), (1, .ref x1)] [.int v5]
  exact z_zreturn hQ rfl z00 d_Se_rowIsBefore_10 E
theorem m_Se_rowIsBefore {l : Launch} {G : Nat} {x0 : Nat} {x1 : Nat} {h : pH} {r : pR} (E : f_Se_rowIsBefore G x0 x1 h = some r) : zMet l y_Se_rowIsBefore M_Se_rowIsBefore 0 0 [.ref x0, .ref x1] h r :=
  zMet_of (by decide) rfl (Nat.le_of_ble_eq_true rfl) (fun p e s m args below meth c D0 cT => w_Se_rowIsBefore_b0 (X := (p, l, e, s, m, args, below, meth, c, D0, cT, h, _, 0, 0)) rfl x0 x1 h E)
def f_Se_giveRow_b29 (G : Nat) (h : pH) : Option pR := some (none, h)
theorem f_Se_giveRow_b29_eq (G : Nat) (h : pH) : f_Se_giveRow_b29 G h = (some (none, h)) := rfl
def f_Se_giveRow_b2 (G : Nat) : Nat → Nat → Nat → Int32 → pH → Option pR
  | 0 => fun _ _ _ _ => none
  | F + 1 => fun x0 x1 x2 h => if (6 : Int32) ≤ x2 then ((f_Se_giveRow_b29 G) h) else ((aL h 0 x1).bind fun v1 => if v1 ≤ x2 then ((f_Se_giveRow_b29 G) h) else ((gR h x0 1 7).bind fun v2 => (aI h v2 x2).bind fun v3 => (sI h x1 x2 v3).bind fun h4 => (f_Se_giveRow_b2 G F) x0 x1 (x2 + 1) h4))
theorem f_Se_giveRow_b2_eq (G : Nat) (F : Nat) (x0 : Nat) (x1 : Nat) (x2 : Int32) (h : pH) : f_Se_giveRow_b2 G (F + 1) x0 x1 x2 h = (if (6 : Int32) ≤ x2 then ((f_Se_giveRow_b29 G) h) else ((aL h 0 x1).bind fun v1 => if v1 ≤ x2 then ((f_Se_giveRow_b29 G) h) else ((gR h x0 1 7).bind fun v2 => (aI h v2 x2).bind fun v3 => (sI h x1 x2 v3).bind fun h4 => (f_Se_giveRow_b2 G F) x0 x1 (x2 + 1) h4))) := rfl
def f_Se_giveRow (G : Nat) (x0 : Nat) (x1 : Nat) (h : pH) : Option pR := (f_Se_giveRow_b2 G G) x0 x1 (0 : Int32) h
theorem f_Se_giveRow_eq (G : Nat) (x0 : Nat) (x1 : Nat) (h : pH) : f_Se_giveRow G x0 x1 h = ((f_Se_giveRow_b2 G G) x0 x1 (0 : Int32) h) := rfl
set_option maxRecDepth 100000 in
set_option maxHeartbeats 4000000 in
theorem w_Se_giveRow_b29 {X : zX} {r : pR} {G : Nat} (hQ : zQ X r) : ∀ (h : pH), f_Se_giveRow_b29 G h = some r → Z X M_Se_giveRow 0 0 h 29 [] [] := by
  intro h E
  rw [f_Se_giveRow_b29_eq] at E
  exact z_return hQ rfl z00 d_Se_giveRow_29 E
set_option maxRecDepth 100000 in
set_option maxHeartbeats 4000000 in
theorem w_Se_giveRow_b2 {X : zX} {r : pR} {G : Nat} (hQ : zQ X r) : ∀ (F : Nat) (x0 : Nat) (x1 : Nat) (x2 : Int32) (h : pH), f_Se_giveRow_b2 G F x0 x1 x2 h = some r → Z X M_Se_giveRow 0 0 h 2 [(0, .ref x0), (1, .ref x1), (2, .int x2)] [] := by
  intro F
  induction F with
  | zero => intro x0 x1 x2 h E; exact nomatch (show (none : Option pR) = some _ from E)
  | succ F ih =>
    intro x0 x1 x2 h E
    rw [f_Se_giveRow_b2_eq] at E
    refine z_iload_n 2 d_Se_giveRow_2 rfl rfl ?_
    refine z_bipush (v := (6 : Int32)) d_Se_giveRow_3 (by decide) ?_
    refine z_ic_ge (tgt := 29) d_Se_giveRow_5 (by decide) E (fun E => ?_) (fun E => ?_)
    · refine z_lv [] rfl ?_
      exact (w_Se_giveRow_b29 hQ) h E
    · refine z_iload_n 2 d_Se_giveRow_8 rfl rfl ?_
      refine z_aload_n 1 d_Se_giveRow_9 rfl rfl ?_
      refine z_alen 0 (fun _ => rfl) d_Se_giveRow_10 E (fun v1 _ E => ?_)
      refine z_ic_ge (tgt := 29) d_Se_giveRow_11 (by decide) E (fun E => ?_) (fun E => ?_)
      · refine z_lv [] rfl ?_
        exact (w_Se_giveRow_b29 hQ) h E
      · refine z_aload_n 1 d_Se_giveRow_14 rfl rfl ?_
        refine z_iload_n 2 d_Se_giveRow_15 rfl rfl ?_
        refine z_aload_n 0 d_Se_giveRow_16 rfl rfl ?_
        refine z_getR (ci := 1) (j := 7) rfl (by decide) zf_Se_42 d_Se_giveRow_17 E (fun v2 _ E => ?_)
        refine z_iload_n 2 d_Se_giveRow_20 rfl rfl ?_
        refine z_iaload d_Se_giveRow_21 E (fun v3 _ E => ?_)
        refine z_iastore d_Se_giveRow_22 E (fun h4 _ E => ?_)
        refine z_iinc (v := (x2 + 1)) (lv2 := [(2, .int (x2 + 1)), (0, .ref x0), (1, .ref x1)]) 2 d_Se_giveRow_23 rfl rfl (Nat.le_of_ble_eq_true rfl) rfl ?_
        refine z_goto (tgt := 2) d_Se_giveRow_26 (by decide) ?_
        refine z_lv [1, 2, 0] rfl ?_
        exact ih x0 x1 (x2 + 1) h4 E
set_option maxRecDepth 100000 in
set_option maxHeartbeats 4000000 in
theorem w_Se_giveRow_b0 {X : zX} {r : pR} {G : Nat} (hQ : zQ X r) : ∀ (x0 : Nat) (x1 : Nat) (h : pH), f_Se_giveRow G x0 x1 h = some r → Z X M_Se_giveRow 0 0 h 0 [(0, .ref x0), (1, .ref x1)] [] := by
  intro x0 x1 h E
  rw [f_Se_giveRow_eq] at E
  refine z_iconst (v := (0 : Int32)) d_Se_giveRow_0 (by decide) ?_
  refine z_istore_n (lv2 := [(2, .int (0 : Int32)), (0, .ref x0), (1, .ref x1)]) d_Se_giveRow_1 rfl (Nat.le_of_ble_eq_true rfl) rfl ?_
  refine z_lv [1, 2, 0] rfl ?_
  exact (w_Se_giveRow_b2 hQ G) x0 x1 (0 : Int32) h E
theorem m_Se_giveRow {l : Launch} {G : Nat} {x0 : Nat} {x1 : Nat} {h : pH} {r : pR} (E : f_Se_giveRow G x0 x1 h = some r) : zMet l y_Se_giveRow M_Se_giveRow 0 0 [.ref x0, .ref x1] h r :=
  zMet_of (by decide) rfl (Nat.le_of_ble_eq_true rfl) (fun p e s m args below meth c D0 cT => w_Se_giveRow_b0 (X := (p, l, e, s, m, args, below, meth, c, D0, cT, h, _, 0, 0)) rfl x0 x1 h E)
def f_Se_mark_b2 (G : Nat) : Nat → Nat → Nat → Int32 → pH → Option pR
  | 0 => fun _ _ _ _ => none
  | F + 1 => fun x0 x1 x2 h => cI (oC h x1 0) (f_Gr_count G x1 h) fun v4 h1 => if v4 ≤ x2 then (some (none, h1)) else (cI (oC h1 x1 0) (f_Gr_at G x1 x2 h1) fun v8 h5 => cI true (f_Mg_subjectOf G v8 h5) fun v12 h9 => cI true (f_Mg_objectOf G v8 h9) fun v16 h13 => (gR h13 x0 1 5).bind fun v17 => cI true (f_Mg_verbOf G v8 h13) fun v21 h18 => cI true (f_Se_cell G v21 v12 h18) fun v25 h22 => (aJ h22 v17 v25).bind fun v26 => (sJ h22 v17 v25 (v26 ||| ((1 : Int64) <<< ((v16).toInt64 &&& 63)))).bind fun h27 => (gR h27 x0 1 6).bind fun v28 => cI true (f_Mg_verbOf G v8 h27) fun v32 h29 => cI true (f_Se_cell G v32 v16 h29) fun v36 h33 => (aJ h33 v28 v36).bind fun v37 => (sJ h33 v28 v36 (v37 ||| ((1 : Int64) <<< ((v12).toInt64 &&& 63)))).bind fun h38 => (f_Se_mark_b2 G F) x0 x1 (x2 + 1) h38)
theorem f_Se_mark_b2_eq (G : Nat) (F : Nat) (x0 : Nat) (x1 : Nat) (x2 : Int32) (h : pH) : f_Se_mark_b2 G (F + 1) x0 x1 x2 h = (cI (oC h x1 0) (f_Gr_count G x1 h) fun v4 h1 => if v4 ≤ x2 then (some (none, h1)) else (cI (oC h1 x1 0) (f_Gr_at G x1 x2 h1) fun v8 h5 => cI true (f_Mg_subjectOf G v8 h5) fun v12 h9 => cI true (f_Mg_objectOf G v8 h9) fun v16 h13 => (gR h13 x0 1 5).bind fun v17 => cI true (f_Mg_verbOf G v8 h13) fun v21 h18 => cI true (f_Se_cell G v21 v12 h18) fun v25 h22 => (aJ h22 v17 v25).bind fun v26 => (sJ h22 v17 v25 (v26 ||| ((1 : Int64) <<< ((v16).toInt64 &&& 63)))).bind fun h27 => (gR h27 x0 1 6).bind fun v28 => cI true (f_Mg_verbOf G v8 h27) fun v32 h29 => cI true (f_Se_cell G v32 v16 h29) fun v36 h33 => (aJ h33 v28 v36).bind fun v37 => (sJ h33 v28 v36 (v37 ||| ((1 : Int64) <<< ((v12).toInt64 &&& 63)))).bind fun h38 => (f_Se_mark_b2 G F) x0 x1 (x2 + 1) h38)) := rfl
def f_Se_mark (G : Nat) (x0 : Nat) (x1 : Nat) (h : pH) : Option pR := (f_Se_mark_b2 G G) x0 x1 (0 : Int32) h
theorem f_Se_mark_eq (G : Nat) (x0 : Nat) (x1 : Nat) (h : pH) : f_Se_mark G x0 x1 h = ((f_Se_mark_b2 G G) x0 x1 (0 : Int32) h) := rfl
set_option maxRecDepth 100000 in
set_option maxHeartbeats 4000000 in
theorem w_Se_mark_b2 {X : zX} {r : pR} {G : Nat} (hQ : zQ X r) : ∀ (F : Nat) (x0 : Nat) (x1 : Nat) (x2 : Int32) (h : pH), f_Se_mark_b2 G F x0 x1 x2 h = some r → Z X M_Se_mark 0 0 h 2 [(0, .ref x0), (1, .ref x1), (2, .int x2)] [] := by
  intro F
  induction F with
  | zero => intro x0 x1 x2 h E; exact nomatch (show (none : Option pR) = some _ from E)
  | succ F ih =>
    intro x0 x1 x2 h E
    rw [f_Se_mark_b2_eq] at E
    refine z_iload_n 2 d_Se_mark_2 rfl rfl ?_
    refine z_aload_n 1 d_Se_mark_3 rfl rfl ?_
    obtain ⟨g2, v4, h1, e3, E⟩ := cI_some E
    refine z_invV (ci := 0) (y := y_Gr_count) (Mc := M_Gr_count) (av := []) (rest := [.int x2]) rfl rfl ⟨zt_375, zt_310, zt_311, zt_48⟩ zk_Gr_count zy_Gr_count (by decide) (Nat.le_of_ble_eq_true rfl) z00 rfl (Nat.le_of_ble_eq_true rfl) d_Se_mark_4 g2 (m_Gr_count e3) ?_
    show Z X M_Se_mark 0 0 h1 7 [(0, .ref x0), (1, .ref x1), (2, .int x2)] [.int v4, .int x2]
    refine z_ic_ge (tgt := 76) d_Se_mark_7 (by decide) E (fun E => ?_) (fun E => ?_)
    · exact z_return hQ rfl z00 d_Se_mark_76 E
    · refine z_aload_n 1 d_Se_mark_10 rfl rfl ?_
      refine z_iload_n 2 d_Se_mark_11 rfl rfl ?_
      obtain ⟨g6, v8, h5, e7, E⟩ := cI_some E
      refine z_invV (ci := 0) (y := y_Gr_at) (Mc := M_Gr_at) (av := [.int x2]) (rest := []) rfl rfl ⟨zt_376, zt_284, zt_285, zt_48⟩ zk_Gr_at zy_Gr_at (by decide) (Nat.le_of_ble_eq_true rfl) z00 rfl (Nat.le_of_ble_eq_true rfl) d_Se_mark_12 g6 (m_Gr_at e7) ?_
      show Z X M_Se_mark 0 0 h5 15 [(0, .ref x0), (1, .ref x1), (2, .int x2)] [.int v8]
      refine z_istore_n (lv2 := [(3, .int v8), (0, .ref x0), (1, .ref x1), (2, .int x2)]) d_Se_mark_15 rfl (Nat.le_of_ble_eq_true rfl) rfl ?_
      refine z_iload_n 0 d_Se_mark_16 rfl rfl ?_
      obtain ⟨g10, v12, h9, e11, E⟩ := cI_some E
      refine z_invSN (y := y_Mg_subjectOf) (Mc := M_Mg_subjectOf) (av := [.int v8]) (rest := []) ⟨(List.mem_of_getElem? (i := 7) rfl), zt_329, zt_47⟩ zk_Mg_subjectOf zy_Mg_subjectOf (by decide) (Nat.le_of_ble_eq_true rfl) z00 rfl (Nat.le_of_ble_eq_true rfl) d_Se_mark_17 (m_Mg_subjectOf e11) ?_
      show Z X M_Se_mark 0 0 h9 20 [(3, .int v8), (0, .ref x0), (1, .ref x1), (2, .int x2)] [.int v12]
      refine z_istore (lv2 := [(4, .int v12), (3, .int v8), (0, .ref x0), (1, .ref x1), (2, .int x2)]) d_Se_mark_20 (Nat.le_of_ble_eq_true rfl) rfl ?_
      refine z_iload_n 1 d_Se_mark_22 rfl rfl ?_
      obtain ⟨g14, v16, h13, e15, E⟩ := cI_some E
      refine z_invSN (y := y_Mg_objectOf) (Mc := M_Mg_objectOf) (av := [.int v8]) (rest := []) ⟨(List.mem_of_getElem? (i := 8) rfl), zt_332, zt_47⟩ zk_Mg_objectOf zy_Mg_objectOf (by decide) (Nat.le_of_ble_eq_true rfl) z00 rfl (Nat.le_of_ble_eq_true rfl) d_Se_mark_23 (m_Mg_objectOf e15) ?_
      show Z X M_Se_mark 0 0 h13 26 [(4, .int v12), (3, .int v8), (0, .ref x0), (1, .ref x1), (2, .int x2)] [.int v16]
      refine z_istore (lv2 := [(5, .int v16), (4, .int v12), (3, .int v8), (0, .ref x0), (1, .ref x1), (2, .int x2)]) d_Se_mark_26 (Nat.le_of_ble_eq_true rfl) rfl ?_
      refine z_aload_n 3 d_Se_mark_28 rfl rfl ?_
      refine z_getR (ci := 1) (j := 5) rfl (by decide) zf_Se_35 d_Se_mark_29 E (fun v17 _ E => ?_)
      refine z_iload_n 2 d_Se_mark_32 rfl rfl ?_
      obtain ⟨g19, v21, h18, e20, E⟩ := cI_some E
      refine z_invSN (y := y_Mg_verbOf) (Mc := M_Mg_verbOf) (av := [.int v8]) (rest := [.ref v17]) ⟨(List.mem_of_getElem? (i := 9) rfl), zt_380, zt_47⟩ zk_Mg_verbOf zy_Mg_verbOf (by decide) (Nat.le_of_ble_eq_true rfl) z00 rfl (Nat.le_of_ble_eq_true rfl) d_Se_mark_33 (m_Mg_verbOf e20) ?_
      show Z X M_Se_mark 0 0 h18 36 [(5, .int v16), (4, .int v12), (3, .int v8), (0, .ref x0), (1, .ref x1), (2, .int x2)] [.int v21, .ref v17]
      refine z_iload 1 d_Se_mark_36 rfl ?_
      obtain ⟨g23, v25, h22, e24, E⟩ := cI_some E
      refine z_invS (y := y_Se_cell) (Mc := M_Se_cell) (av := [.int v21, .int v12]) (rest := [.ref v17]) ⟨zt_382, zt_383, zt_49⟩ zk_Se_cell zy_Se_cell (by decide) (Nat.le_of_ble_eq_true rfl) z00 rfl (Nat.le_of_ble_eq_true rfl) d_Se_mark_38 (m_Se_cell e24) ?_
      show Z X M_Se_mark 0 0 h22 41 [(5, .int v16), (4, .int v12), (3, .int v8), (0, .ref x0), (1, .ref x1), (2, .int x2)] [.int v25, .ref v17]
      refine z_dup2 d_Se_mark_41 rfl rfl ?_
      refine z_laload d_Se_mark_42 E (fun v26 _ E => ?_)
      refine z_lconst (v := (1 : Int64)) d_Se_mark_43 (by decide) ?_
      refine z_iload 0 d_Se_mark_44 rfl ?_
      refine z_lshl d_Se_mark_46 ?_
      refine z_lor d_Se_mark_47 ?_
      refine z_lastore d_Se_mark_48 E (fun h27 _ E => ?_)
      refine z_aload_n 3 d_Se_mark_49 rfl rfl ?_
      refine z_getR (ci := 1) (j := 6) rfl (by decide) zf_Se_39 d_Se_mark_50 E (fun v28 _ E => ?_)
      refine z_iload_n 2 d_Se_mark_53 rfl rfl ?_
      obtain ⟨g30, v32, h29, e31, E⟩ := cI_some E
      refine z_invSN (y := y_Mg_verbOf) (Mc := M_Mg_verbOf) (av := [.int v8]) (rest := [.ref v28]) ⟨(List.mem_of_getElem? (i := 9) rfl), zt_380, zt_47⟩ zk_Mg_verbOf zy_Mg_verbOf (by decide) (Nat.le_of_ble_eq_true rfl) z00 rfl (Nat.le_of_ble_eq_true rfl) d_Se_mark_54 (m_Mg_verbOf e31) ?_
      show Z X M_Se_mark 0 0 h29 57 [(5, .int v16), (4, .int v12), (3, .int v8), (0, .ref x0), (1, .ref x1), (2, .int x2)] [.int v32, .ref v28]
      refine z_iload 0 d_Se_mark_57 rfl ?_
      obtain ⟨g34, v36, h33, e35, E⟩ := cI_some E
      refine z_invS (y := y_Se_cell) (Mc := M_Se_cell) (av := [.int v32, .int v16]) (rest := [.ref v28]) ⟨zt_382, zt_383, zt_49⟩ zk_Se_cell zy_Se_cell (by decide) (Nat.le_of_ble_eq_true rfl) z00 rfl (Nat.le_of_ble_eq_true rfl) d_Se_mark_59 (m_Se_cell e35) ?_
      show Z X M_Se_mark 0 0 h33 62 [(5, .int v16), (4, .int v12), (3, .int v8), (0, .ref x0), (1, .ref x1), (2, .int x2)] [.int v36, .ref v28]
      refine z_dup2 d_Se_mark_62 rfl rfl ?_
      refine z_laload d_Se_mark_63 E (fun v37 _ E => ?_)
      refine z_lconst (v := (1 : Int64)) d_Se_mark_64 (by decide) ?_
      refine z_iload 1 d_Se_mark_65 rfl ?_
      refine z_lshl d_Se_mark_67 ?_
      refine z_lor d_Se_mark_68 ?_
      refine z_lastore d_Se_mark_69 E (fun h38 _ E => ?_)
      refine z_iinc (v := (x2 + 1)) (lv2 := [(2, .int (x2 + 1)), (5, .int v16), (4, .int v12), (3, .int v8), (0, .ref x0), (1, .ref x1)]) 5 d_Se_mark_70 rfl rfl (Nat.le_of_ble_eq_true rfl) rfl ?_
      refine z_goto (tgt := 2) d_Se_mark_73 (by decide) ?_
      refine z_lv [4, 5, 0] rfl ?_
      exact ih x0 x1 (x2 + 1) h38 E
set_option maxRecDepth 100000 in
set_option maxHeartbeats 4000000 in
theorem w_Se_mark_b0 {X : zX} {r : pR} {G : Nat} (hQ : zQ X r) : ∀ (x0 : Nat) (x1 : Nat) (h : pH), f_Se_mark G x0 x1 h = some r → Z X M_Se_mark 0 0 h 0 [(0, .ref x0), (1, .ref x1)] [] := by
  intro x0 x1 h E
  rw [f_Se_mark_eq] at E
  refine z_iconst (v := (0 : Int32)) d_Se_mark_0 (by decide) ?_
  refine z_istore_n (lv2 := [(2, .int (0 : Int32)), (0, .ref x0), (1, .ref x1)]) d_Se_mark_1 rfl (Nat.le_of_ble_eq_true rfl) rfl ?_
  refine z_lv [1, 2, 0] rfl ?_
  exact (w_Se_mark_b2 hQ G) x0 x1 (0 : Int32) h E
theorem m_Se_mark {l : Launch} {G : Nat} {x0 : Nat} {x1 : Nat} {h : pH} {r : pR} (E : f_Se_mark G x0 x1 h = some r) : zMet l y_Se_mark M_Se_mark 0 0 [.ref x0, .ref x1] h r :=
  zMet_of (by decide) rfl (Nat.le_of_ble_eq_true rfl) (fun p e s m args below meth c D0 cT => w_Se_mark_b0 (X := (p, l, e, s, m, args, below, meth, c, D0, cT, h, _, 0, 0)) rfl x0 x1 h E)
def f_Se_unmark_b2 (G : Nat) : Nat → Nat → Nat → Int32 → pH → Option pR
  | 0 => fun _ _ _ _ => none
  | F + 1 => fun x0 x1 x2 h => cI (oC h x1 0) (f_Gr_count G x1 h) fun v4 h1 => if v4 ≤ x2 then (some (none, h1)) else (cI (oC h1 x1 0) (f_Gr_at G x1 x2 h1) fun v8 h5 => (gR h5 x0 1 5).bind fun v9 => cI true (f_Mg_verbOf G v8 h5) fun v13 h10 => cI true (f_Mg_subjectOf G v8 h10) fun v17 h14 => cI true (f_Se_cell G v13 v17 h14) fun v21 h18 => (sJ h18 v9 v21 (0 : Int64)).bind fun h22 => (gR h22 x0 1 6).bind fun v23 => cI true (f_Mg_verbOf G v8 h22) fun v27 h24 => cI true (f_Mg_objectOf G v8 h24) fun v31 h28 => cI true (f_Se_cell G v27 v31 h28) fun v35 h32 => (sJ h32 v23 v35 (0 : Int64)).bind fun h36 => (f_Se_unmark_b2 G F) x0 x1 (x2 + 1) h36)
theorem f_Se_unmark_b2_eq (G : Nat) (F : Nat) (x0 : Nat) (x1 : Nat) (x2 : Int32) (h : pH) : f_Se_unmark_b2 G (F + 1) x0 x1 x2 h = (cI (oC h x1 0) (f_Gr_count G x1 h) fun v4 h1 => if v4 ≤ x2 then (some (none, h1)) else (cI (oC h1 x1 0) (f_Gr_at G x1 x2 h1) fun v8 h5 => (gR h5 x0 1 5).bind fun v9 => cI true (f_Mg_verbOf G v8 h5) fun v13 h10 => cI true (f_Mg_subjectOf G v8 h10) fun v17 h14 => cI true (f_Se_cell G v13 v17 h14) fun v21 h18 => (sJ h18 v9 v21 (0 : Int64)).bind fun h22 => (gR h22 x0 1 6).bind fun v23 => cI true (f_Mg_verbOf G v8 h22) fun v27 h24 => cI true (f_Mg_objectOf G v8 h24) fun v31 h28 => cI true (f_Se_cell G v27 v31 h28) fun v35 h32 => (sJ h32 v23 v35 (0 : Int64)).bind fun h36 => (f_Se_unmark_b2 G F) x0 x1 (x2 + 1) h36)) := rfl
def f_Se_unmark (G : Nat) (x0 : Nat) (x1 : Nat) (h : pH) : Option pR := (f_Se_unmark_b2 G G) x0 x1 (0 : Int32) h
theorem f_Se_unmark_eq (G : Nat) (x0 : Nat) (x1 : Nat) (h : pH) : f_Se_unmark G x0 x1 h = ((f_Se_unmark_b2 G G) x0 x1 (0 : Int32) h) := rfl
set_option maxRecDepth 100000 in
set_option maxHeartbeats 4000000 in
theorem w_Se_unmark_b2 {X : zX} {r : pR} {G : Nat} (hQ : zQ X r) : ∀ (F : Nat) (x0 : Nat) (x1 : Nat) (x2 : Int32) (h : pH), f_Se_unmark_b2 G F x0 x1 x2 h = some r → Z X M_Se_unmark 0 0 h 2 [(0, .ref x0), (1, .ref x1), (2, .int x2)] [] := by
  intro F
  induction F with
  | zero => intro x0 x1 x2 h E; exact nomatch (show (none : Option pR) = some _ from E)
  | succ F ih =>
    intro x0 x1 x2 h E
    rw [f_Se_unmark_b2_eq] at E
    refine z_iload_n 2 d_Se_unmark_2 rfl rfl ?_
    refine z_aload_n 1 d_Se_unmark_3 rfl rfl ?_
    obtain ⟨g2, v4, h1, e3, E⟩ := cI_some E
    refine z_invV (ci := 0) (y := y_Gr_count) (Mc := M_Gr_count) (av := []) (rest := [.int x2]) rfl rfl ⟨zt_375, zt_310, zt_311, zt_48⟩ zk_Gr_count zy_Gr_count (by decide) (Nat.le_of_ble_eq_true rfl) z00 rfl (Nat.le_of_ble_eq_true rfl) d_Se_unmark_4 g2 (m_Gr_count e3) ?_
    show Z X M_Se_unmark 0 0 h1 7 [(0, .ref x0), (1, .ref x1), (2, .int x2)] [.int v4, .int x2]
    refine z_ic_ge (tgt := 56) d_Se_unmark_7 (by decide) E (fun E => ?_) (fun E => ?_)
    · exact z_return hQ rfl z00 d_Se_unmark_56 E
    · refine z_aload_n 1 d_Se_unmark_10 rfl rfl ?_
      refine z_iload_n 2 d_Se_unmark_11 rfl rfl ?_
      obtain ⟨g6, v8, h5, e7, E⟩ := cI_some E
      refine z_invV (ci := 0) (y := y_Gr_at) (Mc := M_Gr_at) (av := [.int x2]) (rest := []) rfl rfl ⟨zt_376, zt_284, zt_285, zt_48⟩ zk_Gr_at zy_Gr_at (by decide) (Nat.le_of_ble_eq_true rfl) z00 rfl (Nat.le_of_ble_eq_true rfl) d_Se_unmark_12 g6 (m_Gr_at e7) ?_
      show Z X M_Se_unmark 0 0 h5 15 [(0, .ref x0), (1, .ref x1), (2, .int x2)] [.int v8]
      refine z_istore_n (lv2 := [(3, .int v8), (0, .ref x0), (1, .ref x1), (2, .int x2)]) d_Se_unmark_15 rfl (Nat.le_of_ble_eq_true rfl) rfl ?_
      refine z_aload_n 1 d_Se_unmark_16 rfl rfl ?_
      refine z_getR (ci := 1) (j := 5) rfl (by decide) zf_Se_35 d_Se_unmark_17 E (fun v9 _ E => ?_)
      refine z_iload_n 0 d_Se_unmark_20 rfl rfl ?_
      obtain ⟨g11, v13, h10, e12, E⟩ := cI_some E
      refine z_invSN (y := y_Mg_verbOf) (Mc := M_Mg_verbOf) (av := [.int v8]) (rest := [.ref v9]) ⟨(List.mem_of_getElem? (i := 9) rfl), zt_380, zt_47⟩ zk_Mg_verbOf zy_Mg_verbOf (by decide) (Nat.le_of_ble_eq_true rfl) z00 rfl (Nat.le_of_ble_eq_true rfl) d_Se_unmark_21 (m_Mg_verbOf e12) ?_
      show Z X M_Se_unmark 0 0 h10 24 [(3, .int v8), (0, .ref x0), (1, .ref x1), (2, .int x2)] [.int v13, .ref v9]
      refine z_iload_n 0 d_Se_unmark_24 rfl rfl ?_
      obtain ⟨g15, v17, h14, e16, E⟩ := cI_some E
      refine z_invSN (y := y_Mg_subjectOf) (Mc := M_Mg_subjectOf) (av := [.int v8]) (rest := [.int v13, .ref v9]) ⟨(List.mem_of_getElem? (i := 7) rfl), zt_329, zt_47⟩ zk_Mg_subjectOf zy_Mg_subjectOf (by decide) (Nat.le_of_ble_eq_true rfl) z00 rfl (Nat.le_of_ble_eq_true rfl) d_Se_unmark_25 (m_Mg_subjectOf e16) ?_
      show Z X M_Se_unmark 0 0 h14 28 [(3, .int v8), (0, .ref x0), (1, .ref x1), (2, .int x2)] [.int v17, .int v13, .ref v9]
      obtain ⟨g19, v21, h18, e20, E⟩ := cI_some E
      refine z_invS (y := y_Se_cell) (Mc := M_Se_cell) (av := [.int v13, .int v17]) (rest := [.ref v9]) ⟨zt_382, zt_383, zt_49⟩ zk_Se_cell zy_Se_cell (by decide) (Nat.le_of_ble_eq_true rfl) z00 rfl (Nat.le_of_ble_eq_true rfl) d_Se_unmark_28 (m_Se_cell e20) ?_
      show Z X M_Se_unmark 0 0 h18 31 [(3, .int v8), (0, .ref x0), (1, .ref x1), (2, .int x2)] [.int v21, .ref v9]
      refine z_lconst (v := (0 : Int64)) d_Se_unmark_31 (by decide) ?_
      refine z_lastore d_Se_unmark_32 E (fun h22 _ E => ?_)
      refine z_aload_n 1 d_Se_unmark_33 rfl rfl ?_
      refine z_getR (ci := 1) (j := 6) rfl (by decide) zf_Se_39 d_Se_unmark_34 E (fun v23 _ E => ?_)
      refine z_iload_n 0 d_Se_unmark_37 rfl rfl ?_
      obtain ⟨g25, v27, h24, e26, E⟩ := cI_some E
      refine z_invSN (y := y_Mg_verbOf) (Mc := M_Mg_verbOf) (av := [.int v8]) (rest := [.ref v23]) ⟨(List.mem_of_getElem? (i := 9) rfl), zt_380, zt_47⟩ zk_Mg_verbOf zy_Mg_verbOf (by decide) (Nat.le_of_ble_eq_true rfl) z00 rfl (Nat.le_of_ble_eq_true rfl) d_Se_unmark_38 (m_Mg_verbOf e26) ?_
      show Z X M_Se_unmark 0 0 h24 41 [(3, .int v8), (0, .ref x0), (1, .ref x1), (2, .int x2)] [.int v27, .ref v23]
      refine z_iload_n 0 d_Se_unmark_41 rfl rfl ?_
      obtain ⟨g29, v31, h28, e30, E⟩ := cI_some E
      refine z_invSN (y := y_Mg_objectOf) (Mc := M_Mg_objectOf) (av := [.int v8]) (rest := [.int v27, .ref v23]) ⟨(List.mem_of_getElem? (i := 8) rfl), zt_332, zt_47⟩ zk_Mg_objectOf zy_Mg_objectOf (by decide) (Nat.le_of_ble_eq_true rfl) z00 rfl (Nat.le_of_ble_eq_true rfl) d_Se_unmark_42 (m_Mg_objectOf e30) ?_
      show Z X M_Se_unmark 0 0 h28 45 [(3, .int v8), (0, .ref x0), (1, .ref x1), (2, .int x2)] [.int v31, .int v27, .ref v23]
      obtain ⟨g33, v35, h32, e34, E⟩ := cI_some E
      refine z_invS (y := y_Se_cell) (Mc := M_Se_cell) (av := [.int v27, .int v31]) (rest := [.ref v23]) ⟨zt_382, zt_383, zt_49⟩ zk_Se_cell zy_Se_cell (by decide) (Nat.le_of_ble_eq_true rfl) z00 rfl (Nat.le_of_ble_eq_true rfl) d_Se_unmark_45 (m_Se_cell e34) ?_
      show Z X M_Se_unmark 0 0 h32 48 [(3, .int v8), (0, .ref x0), (1, .ref x1), (2, .int x2)] [.int v35, .ref v23]
      refine z_lconst (v := (0 : Int64)) d_Se_unmark_48 (by decide) ?_
      refine z_lastore d_Se_unmark_49 E (fun h36 _ E => ?_)
      refine z_iinc (v := (x2 + 1)) (lv2 := [(2, .int (x2 + 1)), (3, .int v8), (0, .ref x0), (1, .ref x1)]) 3 d_Se_unmark_50 rfl rfl (Nat.le_of_ble_eq_true rfl) rfl ?_
      refine z_goto (tgt := 2) d_Se_unmark_53 (by decide) ?_
      refine z_lv [2, 3, 0] rfl ?_
      exact ih x0 x1 (x2 + 1) h36 E
set_option maxRecDepth 100000 in
set_option maxHeartbeats 4000000 in
theorem w_Se_unmark_b0 {X : zX} {r : pR} {G : Nat} (hQ : zQ X r) : ∀ (x0 : Nat) (x1 : Nat) (h : pH), f_Se_unmark G x0 x1 h = some r → Z X M_Se_unmark 0 0 h 0 [(0, .ref x0), (1, .ref x1)] [] := by
  intro x0 x1 h E
  rw [f_Se_unmark_eq] at E
  refine z_iconst (v := (0 : Int32)) d_Se_unmark_0 (by decide) ?_
  refine z_istore_n (lv2 := [(2, .int (0 : Int32)), (0, .ref x0), (1, .ref x1)]) d_Se_unmark_1 rfl (Nat.le_of_ble_eq_true rfl) rfl ?_
  refine z_lv [1, 2, 0] rfl ?_
  exact (w_Se_unmark_b2 hQ G) x0 x1 (0 : Int32) h E
theorem m_Se_unmark {l : Launch} {G : Nat} {x0 : Nat} {x1 : Nat} {h : pH} {r : pR} (E : f_Se_unmark G x0 x1 h = some r) : zMet l y_Se_unmark M_Se_unmark 0 0 [.ref x0, .ref x1] h r :=
  zMet_of (by decide) rfl (Nat.le_of_ble_eq_true rfl) (fun p e s m args below meth c D0 cT => w_Se_unmark_b0 (X := (p, l, e, s, m, args, below, meth, c, D0, cT, h, _, 0, 0)) rfl x0 x1 h E)
def f_Se_limit_b20 (G : Nat) (s0 : Int32) (h : pH) : Option pR := (if isZ s0 = true then some (some (.int s0), h) else none)
theorem f_Se_limit_b20_eq (G : Nat) (s0 : Int32) (h : pH) : f_Se_limit_b20 G s0 h = ((if isZ s0 = true then some (some (.int s0), h) else none)) := rfl
def f_Se_limit (G : Nat) (x0 : Nat) (x1 : Int32) (x2 : Int64) (h : pH) : Option pR := (aJ h x0 x1).bind fun v1 => (sJ h x0 x1 (v1 &&& x2)).bind fun h2 => (aJ h2 x0 x1).bind fun v3 => if (lg_cmp v3 (0 : Int64)) = 0 then ((f_Se_limit_b20 G) (0 : Int32) h2) else ((f_Se_limit_b20 G) (1 : Int32) h2)
theorem f_Se_limit_eq (G : Nat) (x0 : Nat) (x1 : Int32) (x2 : Int64) (h : pH) : f_Se_limit G x0 x1 x2 h = ((aJ h x0 x1).bind fun v1 => (sJ h x0 x1 (v1 &&& x2)).bind fun h2 => (aJ h2 x0 x1).bind fun v3 => if (lg_cmp v3 (0 : Int64)) = 0 then ((f_Se_limit_b20 G) (0 : Int32) h2) else ((f_Se_limit_b20 G) (1 : Int32) h2)) := rfl
set_option maxRecDepth 100000 in
set_option maxHeartbeats 4000000 in
theorem w_Se_limit_b20 {X : zX} {r : pR} {G : Nat} (hQ : zQ X r) : ∀ (s0 : Int32) (h : pH), f_Se_limit_b20 G s0 h = some r → Z X M_Se_limit 0 0 h 20 [] [.int s0] := by
  intro s0 h E
  rw [f_Se_limit_b20_eq] at E
  exact z_zreturn hQ rfl z00 d_Se_limit_20 E
set_option maxRecDepth 100000 in
set_option maxHeartbeats 4000000 in
theorem w_Se_limit_b0 {X : zX} {r : pR} {G : Nat} (hQ : zQ X r) : ∀ (x0 : Nat) (x1 : Int32) (x2 : Int64) (h : pH), f_Se_limit G x0 x1 x2 h = some r → Z X M_Se_limit 0 0 h 0 [(0, .ref x0), (1, .int x1), (2, .long x2)] [] := by
  intro x0 x1 x2 h E
  rw [f_Se_limit_eq] at E
  refine z_aload_n 0 d_Se_limit_0 rfl rfl ?_
  refine z_iload_n 1 d_Se_limit_1 rfl rfl ?_
  refine z_dup2 d_Se_limit_2 rfl rfl ?_
  refine z_laload d_Se_limit_3 E (fun v1 _ E => ?_)
  refine z_lload_n 2 d_Se_limit_4 rfl rfl ?_
  refine z_land d_Se_limit_5 ?_
  refine z_lastore d_Se_limit_6 E (fun h2 _ E => ?_)
  refine z_aload_n 0 d_Se_limit_7 rfl rfl ?_
  refine z_iload_n 1 d_Se_limit_8 rfl rfl ?_
  refine z_laload d_Se_limit_9 E (fun v3 _ E => ?_)
  refine z_lconst (v := (0 : Int64)) d_Se_limit_10 (by decide) ?_
  refine z_lcmp d_Se_limit_11 ?_
  refine z_if_eq (y := 0) (tgt := 19) d_Se_limit_12 (by decide) E (fun E => ?_) (fun E => ?_)
  · refine z_iconst (v := (0 : Int32)) d_Se_limit_19 (by decide) ?_
    refine z_lv [] rfl ?_
    exact (w_Se_limit_b20 hQ) (0 : Int32) h2 E
  · refine z_iconst (v := (1 : Int32)) d_Se_limit_15 (by decide) ?_
    refine z_goto (tgt := 20) d_Se_limit_16 (by decide) ?_
    refine z_lv [] rfl ?_
    exact (w_Se_limit_b20 hQ) (1 : Int32) h2 E
theorem m_Se_limit {l : Launch} {G : Nat} {x0 : Nat} {x1 : Int32} {x2 : Int64} {h : pH} {r : pR} (E : f_Se_limit G x0 x1 x2 h = some r) : zMet l y_Se_limit M_Se_limit 0 0 [.ref x0, .int x1, .long x2] h r :=
  zMet_of (by decide) rfl (Nat.le_of_ble_eq_true rfl) (fun p e s m args below meth c D0 cT => w_Se_limit_b0 (X := (p, l, e, s, m, args, below, meth, c, D0, cT, h, _, 0, 0)) rfl x0 x1 x2 h E)
def f_Se_loops_b5 (G : Nat) : Nat → Nat → Int32 → Int64 → Int32 → pH → Option pR
  | 0 => fun _ _ _ _ _ => none
  | F + 1 => fun x0 x1 x2 x4 h => if (46 : Int32) ≤ x4 then (some (some (.long x2), h)) else ((gR h x0 1 5).bind fun v1 => cI true (f_Se_cell G x1 x4 h) fun v5 h2 => (aJ h2 v1 v5).bind fun v6 => (f_Se_loops_b5 G F) x0 x1 (x2 ||| (v6 &&& ((1 : Int64) <<< ((x4).toInt64 &&& 63)))) (x4 + 1) h2)
theorem f_Se_loops_b5_eq (G : Nat) (F : Nat) (x0 : Nat) (x1 : Int32) (x2 : Int64) (x4 : Int32) (h : pH) : f_Se_loops_b5 G (F + 1) x0 x1 x2 x4 h = (if (46 : Int32) ≤ x4 then (some (some (.long x2), h)) else ((gR h x0 1 5).bind fun v1 => cI true (f_Se_cell G x1 x4 h) fun v5 h2 => (aJ h2 v1 v5).bind fun v6 => (f_Se_loops_b5 G F) x0 x1 (x2 ||| (v6 &&& ((1 : Int64) <<< ((x4).toInt64 &&& 63)))) (x4 + 1) h2)) := rfl
def f_Se_loops (G : Nat) (x0 : Nat) (x1 : Int32) (h : pH) : Option pR := (f_Se_loops_b5 G G) x0 x1 (0 : Int64) (0 : Int32) h
theorem f_Se_loops_eq (G : Nat) (x0 : Nat) (x1 : Int32) (h : pH) : f_Se_loops G x0 x1 h = ((f_Se_loops_b5 G G) x0 x1 (0 : Int64) (0 : Int32) h) := rfl
set_option maxRecDepth 100000 in
set_option maxHeartbeats 4000000 in
theorem w_Se_loops_b5 {X : zX} {r : pR} {G : Nat} (hQ : zQ X r) : ∀ (F : Nat) (x0 : Nat) (x1 : Int32) (x2 : Int64) (x4 : Int32) (h : pH), f_Se_loops_b5 G F x0 x1 x2 x4 h = some r → Z X M_Se_loops 0 0 h 5 [(0, .ref x0), (1, .int x1), (2, .long x2), (4, .int x4)] [] := by
  intro F
  induction F with
  | zero => intro x0 x1 x2 x4 h E; exact nomatch (show (none : Option pR) = some _ from E)
  | succ F ih =>
    intro x0 x1 x2 x4 h E
    rw [f_Se_loops_b5_eq] at E
    refine z_iload 3 d_Se_loops_5 rfl ?_
    refine z_bipush (v := (46 : Int32)) d_Se_loops_7 (by decide) ?_
    refine z_ic_ge (tgt := 37) d_Se_loops_9 (by decide) E (fun E => ?_) (fun E => ?_)
    · refine z_lload_n 2 d_Se_loops_37 rfl rfl ?_
      exact z_lreturn hQ rfl z00 d_Se_loops_38 E
    · refine z_lload_n 2 d_Se_loops_12 rfl rfl ?_
      refine z_aload_n 0 d_Se_loops_13 rfl rfl ?_
      refine z_getR (ci := 1) (j := 5) rfl (by decide) zf_Se_35 d_Se_loops_14 E (fun v1 _ E => ?_)
      refine z_iload_n 1 d_Se_loops_17 rfl rfl ?_
      refine z_iload 3 d_Se_loops_18 rfl ?_
      obtain ⟨g3, v5, h2, e4, E⟩ := cI_some E
      refine z_invS (y := y_Se_cell) (Mc := M_Se_cell) (av := [.int x1, .int x4]) (rest := [.ref v1, .long x2]) ⟨zt_382, zt_383, zt_49⟩ zk_Se_cell zy_Se_cell (by decide) (Nat.le_of_ble_eq_true rfl) z00 rfl (Nat.le_of_ble_eq_true rfl) d_Se_loops_20 (m_Se_cell e4) ?_
      show Z X M_Se_loops 0 0 h2 23 [(0, .ref x0), (1, .int x1), (2, .long x2), (4, .int x4)] [.int v5, .ref v1, .long x2]
      refine z_laload d_Se_loops_23 E (fun v6 _ E => ?_)
      refine z_lconst (v := (1 : Int64)) d_Se_loops_24 (by decide) ?_
      refine z_iload 3 d_Se_loops_25 rfl ?_
      refine z_lshl d_Se_loops_27 ?_
      refine z_land d_Se_loops_28 ?_
      refine z_lor d_Se_loops_29 ?_
      refine z_lstore_n (lv2 := [(2, .long (x2 ||| (v6 &&& ((1 : Int64) <<< ((x4).toInt64 &&& 63))))), (0, .ref x0), (1, .int x1), (4, .int x4)]) d_Se_loops_30 rfl (Nat.le_of_ble_eq_true rfl) rfl ?_
      refine z_iinc (v := (x4 + 1)) (lv2 := [(4, .int (x4 + 1)), (2, .long (x2 ||| (v6 &&& ((1 : Int64) <<< ((x4).toInt64 &&& 63))))), (0, .ref x0), (1, .int x1)]) 3 d_Se_loops_31 rfl rfl (Nat.le_of_ble_eq_true rfl) rfl ?_
      refine z_goto (tgt := 5) d_Se_loops_34 (by decide) ?_
      refine z_lv [2, 3, 1, 0] rfl ?_
      exact ih x0 x1 (x2 ||| (v6 &&& ((1 : Int64) <<< ((x4).toInt64 &&& 63)))) (x4 + 1) h2 E
set_option maxRecDepth 100000 in
set_option maxHeartbeats 4000000 in
theorem w_Se_loops_b0 {X : zX} {r : pR} {G : Nat} (hQ : zQ X r) : ∀ (x0 : Nat) (x1 : Int32) (h : pH), f_Se_loops G x0 x1 h = some r → Z X M_Se_loops 0 0 h 0 [(0, .ref x0), (1, .int x1)] [] := by
  intro x0 x1 h E
  rw [f_Se_loops_eq] at E
  refine z_lconst (v := (0 : Int64)) d_Se_loops_0 (by decide) ?_
  refine z_lstore_n (lv2 := [(2, .long (0 : Int64)), (0, .ref x0), (1, .int x1)]) d_Se_loops_1 rfl (Nat.le_of_ble_eq_true rfl) rfl ?_
  refine z_iconst (v := (0 : Int32)) d_Se_loops_2 (by decide) ?_
  refine z_istore (lv2 := [(4, .int (0 : Int32)), (2, .long (0 : Int64)), (0, .ref x0), (1, .int x1)]) d_Se_loops_3 (Nat.le_of_ble_eq_true rfl) rfl ?_
  refine z_lv [2, 3, 1, 0] rfl ?_
  exact (w_Se_loops_b5 hQ G) x0 x1 (0 : Int64) (0 : Int32) h E
theorem m_Se_loops {l : Launch} {G : Nat} {x0 : Nat} {x1 : Int32} {h : pH} {r : pR} (E : f_Se_loops G x0 x1 h = some r) : zMet l y_Se_loops M_Se_loops 0 0 [.ref x0, .int x1] h r :=
  zMet_of (by decide) rfl (Nat.le_of_ble_eq_true rfl) (fun p e s m args below meth c D0 cT => w_Se_loops_b0 (X := (p, l, e, s, m, args, below, meth, c, D0, cT, h, _, 0, 0)) rfl x0 x1 h E)
def f_Se_takeIn_b49 (G : Nat) (x0 : Nat) (x1 : Nat) (x2 : Int32) (x3 : Int32) (x4 : Int32) (x5 : Int32) (h : pH) : Option pR := cI true (f_Mg_isNode G x3 h) fun v34 h31 => if v34 = 0 then ((gR h31 x0 1 5).bind fun v62 => cI true (f_Se_cell G x4 x3 h31) fun v66 h63 => (aJ h63 v62 v66).bind fun v67 => cI true (f_Se_limit G x1 (x5 - (40 : Int32)) v67 h63) fun v71 h68 => (if isZ v71 = true then some (some (.int v71), h68) else none)) else (cI true (f_Mg_isNode G x5 h31) fun v38 h35 => if v38 = 0 then ((gR h35 x0 1 6).bind fun v52 => cI true (f_Se_cell G x4 x5 h35) fun v56 h53 => (aJ h53 v52 v56).bind fun v57 => cI true (f_Se_limit G x1 (x3 - (40 : Int32)) v57 h53) fun v61 h58 => (if isZ v61 = true then some (some (.int v61), h58) else none)) else (if x3 = x5 then (cJ (oC h35 x0 1) (f_Se_loops G x0 x4 h35) fun v47 h44 => cI true (f_Se_limit G x1 (x3 - (40 : Int32)) v47 h44) fun v51 h48 => (if isZ v51 = true then some (some (.int v51), h48) else none)) else ((gR h35 x0 1 2).bind fun v39 => (gI h35 x0 1 3).bind fun v40 => (sI h35 v39 v40 x2).bind fun h41 => (gI h41 x0 1 3).bind fun v42 => (oP h41 x0 1 3 (.int (v42 + (1 : Int32)))).bind fun h43 => (if isZ (1 : Int32) = true then some (some (.int (1 : Int32)), h43) else none))))
theorem f_Se_takeIn_b49_eq (G : Nat) (x0 : Nat) (x1 : Nat) (x2 : Int32) (x3 : Int32) (x4 : Int32) (x5 : Int32) (h : pH) : f_Se_takeIn_b49 G x0 x1 x2 x3 x4 x5 h = (cI true (f_Mg_isNode G x3 h) fun v34 h31 => if v34 = 0 then ((gR h31 x0 1 5).bind fun v62 => cI true (f_Se_cell G x4 x3 h31) fun v66 h63 => (aJ h63 v62 v66).bind fun v67 => cI true (f_Se_limit G x1 (x5 - (40 : Int32)) v67 h63) fun v71 h68 => (if isZ v71 = true then some (some (.int v71), h68) else none)) else (cI true (f_Mg_isNode G x5 h31) fun v38 h35 => if v38 = 0 then ((gR h35 x0 1 6).bind fun v52 => cI true (f_Se_cell G x4 x5 h35) fun v56 h53 => (aJ h53 v52 v56).bind fun v57 => cI true (f_Se_limit G x1 (x3 - (40 : Int32)) v57 h53) fun v61 h58 => (if isZ v61 = true then some (some (.int v61), h58) else none)) else (if x3 = x5 then (cJ (oC h35 x0 1) (f_Se_loops G x0 x4 h35) fun v47 h44 => cI true (f_Se_limit G x1 (x3 - (40 : Int32)) v47 h44) fun v51 h48 => (if isZ v51 = true then some (some (.int v51), h48) else none)) else ((gR h35 x0 1 2).bind fun v39 => (gI h35 x0 1 3).bind fun v40 => (sI h35 v39 v40 x2).bind fun h41 => (gI h41 x0 1 3).bind fun v42 => (oP h41 x0 1 3 (.int (v42 + (1 : Int32)))).bind fun h43 => (if isZ (1 : Int32) = true then some (some (.int (1 : Int32)), h43) else none))))) := rfl
def f_Se_takeIn (G : Nat) (x0 : Nat) (x1 : Nat) (x2 : Int32) (h : pH) : Option pR := cI true (f_Mg_subjectOf G x2 h) fun v4 h1 => cI true (f_Mg_verbOf G x2 h1) fun v8 h5 => cI true (f_Mg_objectOf G x2 h5) fun v12 h9 => cI true (f_Mg_isNode G v4 h9) fun v16 h13 => if v16 = 0 then (cI true (f_Mg_isNode G v12 h13) fun v20 h17 => if v20 = 0 then ((gR h17 x0 1 5).bind fun v21 => cI true (f_Se_cell G v8 v4 h17) fun v25 h22 => (aJ h22 v21 v25).bind fun v26 => cI true (f_Mg_isIn G v26 v12 h22) fun v30 h27 => (if isZ v30 = true then some (some (.int v30), h27) else none)) else ((f_Se_takeIn_b49 G) x0 x1 x2 v4 v8 v12 h17)) else ((f_Se_takeIn_b49 G) x0 x1 x2 v4 v8 v12 h13)
theorem f_Se_takeIn_eq (G : Nat) (x0 : Nat) (x1 : Nat) (x2 : Int32) (h : pH) : f_Se_takeIn G x0 x1 x2 h = (cI true (f_Mg_subjectOf G x2 h) fun v4 h1 => cI true (f_Mg_verbOf G x2 h1) fun v8 h5 => cI true (f_Mg_objectOf G x2 h5) fun v12 h9 => cI true (f_Mg_isNode G v4 h9) fun v16 h13 => if v16 = 0 then (cI true (f_Mg_isNode G v12 h13) fun v20 h17 => if v20 = 0 then ((gR h17 x0 1 5).bind fun v21 => cI true (f_Se_cell G v8 v4 h17) fun v25 h22 => (aJ h22 v21 v25).bind fun v26 => cI true (f_Mg_isIn G v26 v12 h22) fun v30 h27 => (if isZ v30 = true then some (some (.int v30), h27) else none)) else ((f_Se_takeIn_b49 G) x0 x1 x2 v4 v8 v12 h17)) else ((f_Se_takeIn_b49 G) x0 x1 x2 v4 v8 v12 h13)) := rfl
set_option maxRecDepth 100000 in
set_option maxHeartbeats 4000000 in
theorem w_Se_takeIn_b49 {X : zX} {r : pR} {G : Nat} (hQ : zQ X r) : ∀ (x0 : Nat) (x1 : Nat) (x2 : Int32) (x3 : Int32) (x4 : Int32) (x5 : Int32) (h : pH), f_Se_takeIn_b49 G x0 x1 x2 x3 x4 x5 h = some r → Z X M_Se_takeIn 0 0 h 49 [(0, .ref x0), (1, .ref x1), (2, .int x2), (3, .int x3), (4, .int x4), (5, .int x5)] [] := by
  intro x0 x1 x2 x3 x4 x5 h E
  rw [f_Se_takeIn_b49_eq] at E
  refine z_iload_n 3 d_Se_takeIn_49 rfl rfl ?_
  obtain ⟨g32, v34, h31, e33, E⟩ := cI_some E
  refine z_invSN (y := y_Mg_isNode) (Mc := M_Mg_isNode) (av := [.int x3]) (rest := []) ⟨(List.mem_of_getElem? (i := 11) rfl), zt_398, zt_47⟩ zk_Mg_isNode zy_Mg_isNode (by decide) (Nat.le_of_ble_eq_true rfl) z00 rfl (Nat.le_of_ble_eq_true rfl) d_Se_takeIn_50 (m_Mg_isNode e33) ?_
  show Z X M_Se_takeIn 0 0 h31 53 [(0, .ref x0), (1, .ref x1), (2, .int x2), (3, .int x3), (4, .int x4), (5, .int x5)] [.int v34]
  refine z_if_ne (y := 0) (tgt := 77) d_Se_takeIn_53 (by decide) E (fun E => ?_) (fun E => ?_)
  · refine z_iload 5 d_Se_takeIn_77 rfl ?_
    obtain ⟨g36, v38, h35, e37, E⟩ := cI_some E
    refine z_invSN (y := y_Mg_isNode) (Mc := M_Mg_isNode) (av := [.int x5]) (rest := []) ⟨(List.mem_of_getElem? (i := 11) rfl), zt_398, zt_47⟩ zk_Mg_isNode zy_Mg_isNode (by decide) (Nat.le_of_ble_eq_true rfl) z00 rfl (Nat.le_of_ble_eq_true rfl) d_Se_takeIn_79 (m_Mg_isNode e37) ?_
    show Z X M_Se_takeIn 0 0 h35 82 [(0, .ref x0), (1, .ref x1), (2, .int x2), (3, .int x3), (4, .int x4), (5, .int x5)] [.int v38]
    refine z_if_ne (y := 0) (tgt := 106) d_Se_takeIn_82 (by decide) E (fun E => ?_) (fun E => ?_)
    · refine z_iload_n 3 d_Se_takeIn_106 rfl rfl ?_
      refine z_iload 5 d_Se_takeIn_107 rfl ?_
      refine z_ic_ne (tgt := 127) d_Se_takeIn_109 (by decide) E (fun E => ?_) (fun E => ?_)
      · refine z_aload_n 0 d_Se_takeIn_127 rfl rfl ?_
        refine z_getR (ci := 1) (j := 2) rfl (by decide) zf_Se_22 d_Se_takeIn_128 E (fun v39 _ E => ?_)
        refine z_aload_n 0 d_Se_takeIn_131 rfl rfl ?_
        refine z_getI (ci := 1) (j := 3) rfl (by decide) zf_Se_26 d_Se_takeIn_132 E (fun v40 _ E => ?_)
        refine z_iload_n 2 d_Se_takeIn_135 rfl rfl ?_
        refine z_iastore d_Se_takeIn_136 E (fun h41 _ E => ?_)
        refine z_aload_n 0 d_Se_takeIn_137 rfl rfl ?_
        refine z_dup d_Se_takeIn_138 rfl ?_
        refine z_getI (ci := 1) (j := 3) rfl (by decide) zf_Se_26 d_Se_takeIn_139 E (fun v42 _ E => ?_)
        refine z_iconst (v := (1 : Int32)) d_Se_takeIn_142 (by decide) ?_
        refine z_iadd d_Se_takeIn_143 ?_
        refine z_putI (ci := 1) (j := 3) rfl (by decide) zf_Se_26 rfl rfl d_Se_takeIn_144 E (fun h43 _ E => ?_)
        refine z_iconst (v := (1 : Int32)) d_Se_takeIn_147 (by decide) ?_
        exact z_zreturn hQ rfl z00 d_Se_takeIn_148 E
      · refine z_aload_n 1 d_Se_takeIn_112 rfl rfl ?_
        refine z_iload_n 3 d_Se_takeIn_113 rfl rfl ?_
        refine z_bipush (v := (40 : Int32)) d_Se_takeIn_114 (by decide) ?_
        refine z_isub d_Se_takeIn_116 ?_
        refine z_aload_n 0 d_Se_takeIn_117 rfl rfl ?_
        refine z_iload 4 d_Se_takeIn_118 rfl ?_
        obtain ⟨g45, v47, h44, e46, E⟩ := cJ_some E
        refine z_invV (ci := 1) (y := y_Se_loops) (Mc := M_Se_loops) (av := [.int x4]) (rest := [.int (x3 - (40 : Int32)), .ref x1]) rfl rfl ⟨zt_403, zt_405, zt_7, zt_49⟩ zk_Se_loops zy_Se_loops (by decide) (Nat.le_of_ble_eq_true rfl) z00 rfl (Nat.le_of_ble_eq_true rfl) d_Se_takeIn_120 g45 (m_Se_loops e46) ?_
        show Z X M_Se_takeIn 0 0 h44 123 [(0, .ref x0), (1, .ref x1), (2, .int x2), (3, .int x3), (4, .int x4), (5, .int x5)] [.long v47, .int (x3 - (40 : Int32)), .ref x1]
        obtain ⟨g49, v51, h48, e50, E⟩ := cI_some E
        refine z_invS (y := y_Se_limit) (Mc := M_Se_limit) (av := [.ref x1, .int (x3 - (40 : Int32)), .long v47]) (rest := []) ⟨zt_400, zt_401, zt_49⟩ zk_Se_limit zy_Se_limit (by decide) (Nat.le_of_ble_eq_true rfl) z00 rfl (Nat.le_of_ble_eq_true rfl) d_Se_takeIn_123 (m_Se_limit e50) ?_
        show Z X M_Se_takeIn 0 0 h48 126 [(0, .ref x0), (1, .ref x1), (2, .int x2), (3, .int x3), (4, .int x4), (5, .int x5)] [.int v51]
        exact z_zreturn hQ rfl z00 d_Se_takeIn_126 E
    · refine z_aload_n 1 d_Se_takeIn_85 rfl rfl ?_
      refine z_iload_n 3 d_Se_takeIn_86 rfl rfl ?_
      refine z_bipush (v := (40 : Int32)) d_Se_takeIn_87 (by decide) ?_
      refine z_isub d_Se_takeIn_89 ?_
      refine z_aload_n 0 d_Se_takeIn_90 rfl rfl ?_
      refine z_getR (ci := 1) (j := 6) rfl (by decide) zf_Se_39 d_Se_takeIn_91 E (fun v52 _ E => ?_)
      refine z_iload 4 d_Se_takeIn_94 rfl ?_
      refine z_iload 5 d_Se_takeIn_96 rfl ?_
      obtain ⟨g54, v56, h53, e55, E⟩ := cI_some E
      refine z_invS (y := y_Se_cell) (Mc := M_Se_cell) (av := [.int x4, .int x5]) (rest := [.ref v52, .int (x3 - (40 : Int32)), .ref x1]) ⟨zt_382, zt_383, zt_49⟩ zk_Se_cell zy_Se_cell (by decide) (Nat.le_of_ble_eq_true rfl) z00 rfl (Nat.le_of_ble_eq_true rfl) d_Se_takeIn_98 (m_Se_cell e55) ?_
      show Z X M_Se_takeIn 0 0 h53 101 [(0, .ref x0), (1, .ref x1), (2, .int x2), (3, .int x3), (4, .int x4), (5, .int x5)] [.int v56, .ref v52, .int (x3 - (40 : Int32)), .ref x1]
      refine z_laload d_Se_takeIn_101 E (fun v57 _ E => ?_)
      obtain ⟨g59, v61, h58, e60, E⟩ := cI_some E
      refine z_invS (y := y_Se_limit) (Mc := M_Se_limit) (av := [.ref x1, .int (x3 - (40 : Int32)), .long v57]) (rest := []) ⟨zt_400, zt_401, zt_49⟩ zk_Se_limit zy_Se_limit (by decide) (Nat.le_of_ble_eq_true rfl) z00 rfl (Nat.le_of_ble_eq_true rfl) d_Se_takeIn_102 (m_Se_limit e60) ?_
      show Z X M_Se_takeIn 0 0 h58 105 [(0, .ref x0), (1, .ref x1), (2, .int x2), (3, .int x3), (4, .int x4), (5, .int x5)] [.int v61]
      exact z_zreturn hQ rfl z00 d_Se_takeIn_105 E
  · refine z_aload_n 1 d_Se_takeIn_56 rfl rfl ?_
    refine z_iload 5 d_Se_takeIn_57 rfl ?_
    refine z_bipush (v := (40 : Int32)) d_Se_takeIn_59 (by decide) ?_
    refine z_isub d_Se_takeIn_61 ?_
    refine z_aload_n 0 d_Se_takeIn_62 rfl rfl ?_
    refine z_getR (ci := 1) (j := 5) rfl (by decide) zf_Se_35 d_Se_takeIn_63 E (fun v62 _ E => ?_)
    refine z_iload 4 d_Se_takeIn_66 rfl ?_
    refine z_iload_n 3 d_Se_takeIn_68 rfl rfl ?_
    obtain ⟨g64, v66, h63, e65, E⟩ := cI_some E
    refine z_invS (y := y_Se_cell) (Mc := M_Se_cell) (av := [.int x4, .int x3]) (rest := [.ref v62, .int (x5 - (40 : Int32)), .ref x1]) ⟨zt_382, zt_383, zt_49⟩ zk_Se_cell zy_Se_cell (by decide) (Nat.le_of_ble_eq_true rfl) z00 rfl (Nat.le_of_ble_eq_true rfl) d_Se_takeIn_69 (m_Se_cell e65) ?_
    show Z X M_Se_takeIn 0 0 h63 72 [(0, .ref x0), (1, .ref x1), (2, .int x2), (3, .int x3), (4, .int x4), (5, .int x5)] [.int v66, .ref v62, .int (x5 - (40 : Int32)), .ref x1]
    refine z_laload d_Se_takeIn_72 E (fun v67 _ E => ?_)
    obtain ⟨g69, v71, h68, e70, E⟩ := cI_some E
    refine z_invS (y := y_Se_limit) (Mc := M_Se_limit) (av := [.ref x1, .int (x5 - (40 : Int32)), .long v67]) (rest := []) ⟨zt_400, zt_401, zt_49⟩ zk_Se_limit zy_Se_limit (by decide) (Nat.le_of_ble_eq_true rfl) z00 rfl (Nat.le_of_ble_eq_true rfl) d_Se_takeIn_73 (m_Se_limit e70) ?_
    show Z X M_Se_takeIn 0 0 h68 76 [(0, .ref x0), (1, .ref x1), (2, .int x2), (3, .int x3), (4, .int x4), (5, .int x5)] [.int v71]
    exact z_zreturn hQ rfl z00 d_Se_takeIn_76 E
set_option maxRecDepth 100000 in
set_option maxHeartbeats 4000000 in
theorem w_Se_takeIn_b0 {X : zX} {r : pR} {G : Nat} (hQ : zQ X r) : ∀ (x0 : Nat) (x1 : Nat) (x2 : Int32) (h : pH), f_Se_takeIn G x0 x1 x2 h = some r → Z X M_Se_takeIn 0 0 h 0 [(0, .ref x0), (1, .ref x1), (2, .int x2)] [] := by
  intro x0 x1 x2 h E
  rw [f_Se_takeIn_eq] at E
  refine z_iload_n 2 d_Se_takeIn_0 rfl rfl ?_
  obtain ⟨g2, v4, h1, e3, E⟩ := cI_some E
  refine z_invSN (y := y_Mg_subjectOf) (Mc := M_Mg_subjectOf) (av := [.int x2]) (rest := []) ⟨(List.mem_of_getElem? (i := 7) rfl), zt_329, zt_47⟩ zk_Mg_subjectOf zy_Mg_subjectOf (by decide) (Nat.le_of_ble_eq_true rfl) z00 rfl (Nat.le_of_ble_eq_true rfl) d_Se_takeIn_1 (m_Mg_subjectOf e3) ?_
  show Z X M_Se_takeIn 0 0 h1 4 [(0, .ref x0), (1, .ref x1), (2, .int x2)] [.int v4]
  refine z_istore_n (lv2 := [(3, .int v4), (0, .ref x0), (1, .ref x1), (2, .int x2)]) d_Se_takeIn_4 rfl (Nat.le_of_ble_eq_true rfl) rfl ?_
  refine z_iload_n 3 d_Se_takeIn_5 rfl rfl ?_
  obtain ⟨g6, v8, h5, e7, E⟩ := cI_some E
  refine z_invSN (y := y_Mg_verbOf) (Mc := M_Mg_verbOf) (av := [.int x2]) (rest := []) ⟨(List.mem_of_getElem? (i := 9) rfl), zt_380, zt_47⟩ zk_Mg_verbOf zy_Mg_verbOf (by decide) (Nat.le_of_ble_eq_true rfl) z00 rfl (Nat.le_of_ble_eq_true rfl) d_Se_takeIn_6 (m_Mg_verbOf e7) ?_
  show Z X M_Se_takeIn 0 0 h5 9 [(3, .int v4), (0, .ref x0), (1, .ref x1), (2, .int x2)] [.int v8]
  refine z_istore (lv2 := [(4, .int v8), (3, .int v4), (0, .ref x0), (1, .ref x1), (2, .int x2)]) d_Se_takeIn_9 (Nat.le_of_ble_eq_true rfl) rfl ?_
  refine z_iload_n 4 d_Se_takeIn_11 rfl rfl ?_
  obtain ⟨g10, v12, h9, e11, E⟩ := cI_some E
  refine z_invSN (y := y_Mg_objectOf) (Mc := M_Mg_objectOf) (av := [.int x2]) (rest := []) ⟨(List.mem_of_getElem? (i := 8) rfl), zt_332, zt_47⟩ zk_Mg_objectOf zy_Mg_objectOf (by decide) (Nat.le_of_ble_eq_true rfl) z00 rfl (Nat.le_of_ble_eq_true rfl) d_Se_takeIn_12 (m_Mg_objectOf e11) ?_
  show Z X M_Se_takeIn 0 0 h9 15 [(4, .int v8), (3, .int v4), (0, .ref x0), (1, .ref x1), (2, .int x2)] [.int v12]
  refine z_istore (lv2 := [(5, .int v12), (4, .int v8), (3, .int v4), (0, .ref x0), (1, .ref x1), (2, .int x2)]) d_Se_takeIn_15 (Nat.le_of_ble_eq_true rfl) rfl ?_
  refine z_iload_n 2 d_Se_takeIn_17 rfl rfl ?_
  obtain ⟨g14, v16, h13, e15, E⟩ := cI_some E
  refine z_invSN (y := y_Mg_isNode) (Mc := M_Mg_isNode) (av := [.int v4]) (rest := []) ⟨(List.mem_of_getElem? (i := 11) rfl), zt_398, zt_47⟩ zk_Mg_isNode zy_Mg_isNode (by decide) (Nat.le_of_ble_eq_true rfl) z00 rfl (Nat.le_of_ble_eq_true rfl) d_Se_takeIn_18 (m_Mg_isNode e15) ?_
  show Z X M_Se_takeIn 0 0 h13 21 [(5, .int v12), (4, .int v8), (3, .int v4), (0, .ref x0), (1, .ref x1), (2, .int x2)] [.int v16]
  refine z_if_ne (y := 0) (tgt := 49) d_Se_takeIn_21 (by decide) E (fun E => ?_) (fun E => ?_)
  · refine z_lv [3, 4, 5, 2, 1, 0] rfl ?_
    exact (w_Se_takeIn_b49 hQ) x0 x1 x2 v4 v8 v12 h13 E
  · refine z_iload 0 d_Se_takeIn_24 rfl ?_
    obtain ⟨g18, v20, h17, e19, E⟩ := cI_some E
    refine z_invSN (y := y_Mg_isNode) (Mc := M_Mg_isNode) (av := [.int v12]) (rest := []) ⟨(List.mem_of_getElem? (i := 11) rfl), zt_398, zt_47⟩ zk_Mg_isNode zy_Mg_isNode (by decide) (Nat.le_of_ble_eq_true rfl) z00 rfl (Nat.le_of_ble_eq_true rfl) d_Se_takeIn_26 (m_Mg_isNode e19) ?_
    show Z X M_Se_takeIn 0 0 h17 29 [(5, .int v12), (4, .int v8), (3, .int v4), (0, .ref x0), (1, .ref x1), (2, .int x2)] [.int v20]
    refine z_if_ne (y := 0) (tgt := 49) d_Se_takeIn_29 (by decide) E (fun E => ?_) (fun E => ?_)
    · refine z_lv [3, 4, 5, 2, 1, 0] rfl ?_
      exact (w_Se_takeIn_b49 hQ) x0 x1 x2 v4 v8 v12 h17 E
    · refine z_aload_n 3 d_Se_takeIn_32 rfl rfl ?_
      refine z_getR (ci := 1) (j := 5) rfl (by decide) zf_Se_35 d_Se_takeIn_33 E (fun v21 _ E => ?_)
      refine z_iload 1 d_Se_takeIn_36 rfl ?_
      refine z_iload_n 2 d_Se_takeIn_38 rfl rfl ?_
      obtain ⟨g23, v25, h22, e24, E⟩ := cI_some E
      refine z_invS (y := y_Se_cell) (Mc := M_Se_cell) (av := [.int v8, .int v4]) (rest := [.ref v21]) ⟨zt_382, zt_383, zt_49⟩ zk_Se_cell zy_Se_cell (by decide) (Nat.le_of_ble_eq_true rfl) z00 rfl (Nat.le_of_ble_eq_true rfl) d_Se_takeIn_39 (m_Se_cell e24) ?_
      show Z X M_Se_takeIn 0 0 h22 42 [(5, .int v12), (4, .int v8), (3, .int v4), (0, .ref x0), (1, .ref x1), (2, .int x2)] [.int v25, .ref v21]
      refine z_laload d_Se_takeIn_42 E (fun v26 _ E => ?_)
      refine z_iload 0 d_Se_takeIn_43 rfl ?_
      obtain ⟨g28, v30, h27, e29, E⟩ := cI_some E
      refine z_invSN (y := y_Mg_isIn) (Mc := M_Mg_isIn) (av := [.long v26, .int v12]) (rest := []) ⟨(List.mem_of_getElem? (i := 10) rfl), zt_391, zt_47⟩ zk_Mg_isIn zy_Mg_isIn (by decide) (Nat.le_of_ble_eq_true rfl) z00 rfl (Nat.le_of_ble_eq_true rfl) d_Se_takeIn_45 (m_Mg_isIn e29) ?_
      show Z X M_Se_takeIn 0 0 h27 48 [(5, .int v12), (4, .int v8), (3, .int v4), (0, .ref x0), (1, .ref x1), (2, .int x2)] [.int v30]
      exact z_zreturn hQ rfl z00 d_Se_takeIn_48 E
theorem m_Se_takeIn {l : Launch} {G : Nat} {x0 : Nat} {x1 : Nat} {x2 : Int32} {h : pH} {r : pR} (E : f_Se_takeIn G x0 x1 x2 h = some r) : zMet l y_Se_takeIn M_Se_takeIn 0 0 [.ref x0, .ref x1, .int x2] h r :=
  zMet_of (by decide) rfl (Nat.le_of_ble_eq_true rfl) (fun p e s m args below meth c D0 cT => w_Se_takeIn_b0 (X := (p, l, e, s, m, args, below, meth, c, D0, cT, h, _, 0, 0)) rfl x0 x1 x2 h E)
def f_Se_keepOnly (G : Nat) (x0 : Nat) (x1 : Int32) (x2 : Int64) (h : pH) : Option pR := (aJ h x0 x1).bind fun v1 => if (lg_cmp (v1 &&& x2) (0 : Int64)) = 0 then (some (some (.int (-1 : Int32)), h)) else ((aJ h x0 x1).bind fun v2 => if (lg_cmp (v1 &&& x2) v2) = 0 then (some (some (.int (0 : Int32)), h)) else ((sJ h x0 x1 (v1 &&& x2)).bind fun h3 => some (some (.int ((1 : Int32) <<< (x1 &&& 31))), h3)))
theorem f_Se_keepOnly_eq (G : Nat) (x0 : Nat) (x1 : Int32) (x2 : Int64) (h : pH) : f_Se_keepOnly G x0 x1 x2 h = ((aJ h x0 x1).bind fun v1 => if (lg_cmp (v1 &&& x2) (0 : Int64)) = 0 then (some (some (.int (-1 : Int32)), h)) else ((aJ h x0 x1).bind fun v2 => if (lg_cmp (v1 &&& x2) v2) = 0 then (some (some (.int (0 : Int32)), h)) else ((sJ h x0 x1 (v1 &&& x2)).bind fun h3 => some (some (.int ((1 : Int32) <<< (x1 &&& 31))), h3)))) := rfl
set_option maxRecDepth 100000 in
set_option maxHeartbeats 4000000 in
theorem w_Se_keepOnly_b0 {X : zX} {r : pR} {G : Nat} (hQ : zQ X r) : ∀ (x0 : Nat) (x1 : Int32) (x2 : Int64) (h : pH), f_Se_keepOnly G x0 x1 x2 h = some r → Z X M_Se_keepOnly 0 0 h 0 [(0, .ref x0), (1, .int x1), (2, .long x2)] [] := by
  intro x0 x1 x2 h E
  rw [f_Se_keepOnly_eq] at E
  refine z_aload_n 0 d_Se_keepOnly_0 rfl rfl ?_
  refine z_iload_n 1 d_Se_keepOnly_1 rfl rfl ?_
  refine z_laload d_Se_keepOnly_2 E (fun v1 _ E => ?_)
  refine z_lload_n 2 d_Se_keepOnly_3 rfl rfl ?_
  refine z_land d_Se_keepOnly_4 ?_
  refine z_lstore (lv2 := [(4, .long (v1 &&& x2)), (0, .ref x0), (1, .int x1), (2, .long x2)]) d_Se_keepOnly_5 (Nat.le_of_ble_eq_true rfl) rfl ?_
  refine z_lload 0 d_Se_keepOnly_7 rfl ?_
  refine z_lconst (v := (0 : Int64)) d_Se_keepOnly_9 (by decide) ?_
  refine z_lcmp d_Se_keepOnly_10 ?_
  refine z_if_ne (y := 0) (tgt := 16) d_Se_keepOnly_11 (by decide) E (fun E => ?_) (fun E => ?_)
  · refine z_lload 0 d_Se_keepOnly_16 rfl ?_
    refine z_aload_n 1 d_Se_keepOnly_18 rfl rfl ?_
    refine z_iload_n 2 d_Se_keepOnly_19 rfl rfl ?_
    refine z_laload d_Se_keepOnly_20 E (fun v2 _ E => ?_)
    refine z_lcmp d_Se_keepOnly_21 ?_
    refine z_if_ne (y := 0) (tgt := 27) d_Se_keepOnly_22 (by decide) E (fun E => ?_) (fun E => ?_)
    · refine z_aload_n 1 d_Se_keepOnly_27 rfl rfl ?_
      refine z_iload_n 2 d_Se_keepOnly_28 rfl rfl ?_
      refine z_lload 0 d_Se_keepOnly_29 rfl ?_
      refine z_lastore d_Se_keepOnly_31 E (fun h3 _ E => ?_)
      refine z_iconst (v := (1 : Int32)) d_Se_keepOnly_32 (by decide) ?_
      refine z_iload_n 2 d_Se_keepOnly_33 rfl rfl ?_
      refine z_ishl d_Se_keepOnly_34 ?_
      exact z_ireturn hQ rfl z00 d_Se_keepOnly_35 E
    · refine z_iconst (v := (0 : Int32)) d_Se_keepOnly_25 (by decide) ?_
      exact z_ireturn hQ rfl z00 d_Se_keepOnly_26 E
  · refine z_iconst (v := (-1 : Int32)) d_Se_keepOnly_14 (by decide) ?_
    exact z_ireturn hQ rfl z00 d_Se_keepOnly_15 E
theorem m_Se_keepOnly {l : Launch} {G : Nat} {x0 : Nat} {x1 : Int32} {x2 : Int64} {h : pH} {r : pR} (E : f_Se_keepOnly G x0 x1 x2 h = some r) : zMet l y_Se_keepOnly M_Se_keepOnly 0 0 [.ref x0, .int x1, .long x2] h r :=
  zMet_of (by decide) rfl (Nat.le_of_ble_eq_true rfl) (fun p e s m args below meth c D0 cT => w_Se_keepOnly_b0 (X := (p, l, e, s, m, args, below, meth, c, D0, cT, h, _, 0, 0)) rfl x0 x1 x2 h E)
def f_Se_reach_b13 (G : Nat) : Nat → Nat → Int32 → Int64 → Int64 → Int32 → pH → Option pR
  | 0 => fun _ _ _ _ _ _ => none
  | F + 1 => fun x0 x1 x4 x6 x8 h => if x8 ≤ 0 then (some (some (.long x4), h)) else (cI true (f_Lo_bitCount G ((x6 &&& (-x6)) - (1 : Int64)) h) fun v8 h5 => cI true (f_Se_cell G x1 v8 h5) fun v12 h9 => (aJ h9 x0 v12).bind fun v13 => (f_Se_reach_b13 G F) x0 x1 (x4 ||| v13) (x6 &&& (x6 - (1 : Int64))) (x8 + (-1)) h9)
theorem f_Se_reach_b13_eq (G : Nat) (F : Nat) (x0 : Nat) (x1 : Int32) (x4 : Int64) (x6 : Int64) (x8 : Int32) (h : pH) : f_Se_reach_b13 G (F + 1) x0 x1 x4 x6 x8 h = (if x8 ≤ 0 then (some (some (.long x4), h)) else (cI true (f_Lo_bitCount G ((x6 &&& (-x6)) - (1 : Int64)) h) fun v8 h5 => cI true (f_Se_cell G x1 v8 h5) fun v12 h9 => (aJ h9 x0 v12).bind fun v13 => (f_Se_reach_b13 G F) x0 x1 (x4 ||| v13) (x6 &&& (x6 - (1 : Int64))) (x8 + (-1)) h9)) := rfl
def f_Se_reach (G : Nat) (x0 : Nat) (x1 : Int32) (x2 : Int64) (h : pH) : Option pR := cI true (f_Lo_bitCount G x2 h) fun v4 h1 => (f_Se_reach_b13 G G) x0 x1 (0 : Int64) x2 v4 h1
theorem f_Se_reach_eq (G : Nat) (x0 : Nat) (x1 : Int32) (x2 : Int64) (h : pH) : f_Se_reach G x0 x1 x2 h = (cI true (f_Lo_bitCount G x2 h) fun v4 h1 => (f_Se_reach_b13 G G) x0 x1 (0 : Int64) x2 v4 h1) := rfl
set_option maxRecDepth 100000 in
set_option maxHeartbeats 4000000 in
theorem w_Se_reach_b13 {X : zX} {r : pR} {G : Nat} (hQ : zQ X r) : ∀ (F : Nat) (x0 : Nat) (x1 : Int32) (x4 : Int64) (x6 : Int64) (x8 : Int32) (h : pH), f_Se_reach_b13 G F x0 x1 x4 x6 x8 h = some r → Z X M_Se_reach 0 0 h 13 [(0, .ref x0), (1, .int x1), (4, .long x4), (6, .long x6), (8, .int x8)] [] := by
  intro F
  induction F with
  | zero => intro x0 x1 x4 x6 x8 h E; exact nomatch (show (none : Option pR) = some _ from E)
  | succ F ih =>
    intro x0 x1 x4 x6 x8 h E
    rw [f_Se_reach_b13_eq] at E
    refine z_iload 4 d_Se_reach_13 rfl ?_
    refine z_if_le (y := 0) (tgt := 55) d_Se_reach_15 (by decide) E (fun E => ?_) (fun E => ?_)
    · refine z_lload 2 d_Se_reach_55 rfl ?_
      exact z_lreturn hQ rfl z00 d_Se_reach_57 E
    · refine z_lload 2 d_Se_reach_18 rfl ?_
      refine z_aload_n 0 d_Se_reach_20 rfl rfl ?_
      refine z_iload_n 1 d_Se_reach_21 rfl rfl ?_
      refine z_lload 3 d_Se_reach_22 rfl ?_
      refine z_lload 3 d_Se_reach_24 rfl ?_
      refine z_lneg d_Se_reach_26 ?_
      refine z_land d_Se_reach_27 ?_
      refine z_lconst (v := (1 : Int64)) d_Se_reach_28 (by decide) ?_
      refine z_lsub d_Se_reach_29 ?_
      obtain ⟨g6, v8, h5, e7, E⟩ := cI_some E
      refine z_invS (y := y_Lo_bitCount) (Mc := M_Lo_bitCount) (av := [.long ((x6 &&& (-x6)) - (1 : Int64))]) (rest := [.int x1, .ref x0, .long x4]) ⟨zt_421, zt_336, zt_57⟩ zk_Lo_bitCount zy_Lo_bitCount (by decide) (Nat.le_of_ble_eq_true rfl) z00 rfl (Nat.le_of_ble_eq_true rfl) d_Se_reach_30 (m_Lo_bitCount e7) ?_
      show Z X M_Se_reach 0 0 h5 33 [(0, .ref x0), (1, .int x1), (4, .long x4), (6, .long x6), (8, .int x8)] [.int v8, .int x1, .ref x0, .long x4]
      obtain ⟨g10, v12, h9, e11, E⟩ := cI_some E
      refine z_invS (y := y_Se_cell) (Mc := M_Se_cell) (av := [.int x1, .int v8]) (rest := [.ref x0, .long x4]) ⟨zt_382, zt_383, zt_49⟩ zk_Se_cell zy_Se_cell (by decide) (Nat.le_of_ble_eq_true rfl) z00 rfl (Nat.le_of_ble_eq_true rfl) d_Se_reach_33 (m_Se_cell e11) ?_
      show Z X M_Se_reach 0 0 h9 36 [(0, .ref x0), (1, .int x1), (4, .long x4), (6, .long x6), (8, .int x8)] [.int v12, .ref x0, .long x4]
      refine z_laload d_Se_reach_36 E (fun v13 _ E => ?_)
      refine z_lor d_Se_reach_37 ?_
      refine z_lstore (lv2 := [(4, .long (x4 ||| v13)), (0, .ref x0), (1, .int x1), (6, .long x6), (8, .int x8)]) d_Se_reach_38 (Nat.le_of_ble_eq_true rfl) rfl ?_
      refine z_lload 3 d_Se_reach_40 rfl ?_
      refine z_lload 3 d_Se_reach_42 rfl ?_
      refine z_lconst (v := (1 : Int64)) d_Se_reach_44 (by decide) ?_
      refine z_lsub d_Se_reach_45 ?_
      refine z_land d_Se_reach_46 ?_
      refine z_lstore (lv2 := [(6, .long (x6 &&& (x6 - (1 : Int64)))), (4, .long (x4 ||| v13)), (0, .ref x0), (1, .int x1), (8, .int x8)]) d_Se_reach_47 (Nat.le_of_ble_eq_true rfl) rfl ?_
      refine z_iinc (v := (x8 + (-1))) (lv2 := [(8, .int (x8 + (-1))), (6, .long (x6 &&& (x6 - (1 : Int64)))), (4, .long (x4 ||| v13)), (0, .ref x0), (1, .int x1)]) 4 d_Se_reach_49 rfl rfl (Nat.le_of_ble_eq_true rfl) rfl ?_
      refine z_goto (tgt := 13) d_Se_reach_52 (by decide) ?_
      refine z_lv [3, 4, 2, 1, 0] rfl ?_
      exact ih x0 x1 (x4 ||| v13) (x6 &&& (x6 - (1 : Int64))) (x8 + (-1)) h9 E
set_option maxRecDepth 100000 in
set_option maxHeartbeats 4000000 in
theorem w_Se_reach_b0 {X : zX} {r : pR} {G : Nat} (hQ : zQ X r) : ∀ (x0 : Nat) (x1 : Int32) (x2 : Int64) (h : pH), f_Se_reach G x0 x1 x2 h = some r → Z X M_Se_reach 0 0 h 0 [(0, .ref x0), (1, .int x1), (2, .long x2)] [] := by
  intro x0 x1 x2 h E
  rw [f_Se_reach_eq] at E
  refine z_lconst (v := (0 : Int64)) d_Se_reach_0 (by decide) ?_
  refine z_lstore (lv2 := [(4, .long (0 : Int64)), (0, .ref x0), (1, .int x1), (2, .long x2)]) d_Se_reach_1 (Nat.le_of_ble_eq_true rfl) rfl ?_
  refine z_lload_n 3 d_Se_reach_3 rfl rfl ?_
  refine z_lstore (lv2 := [(6, .long x2), (4, .long (0 : Int64)), (0, .ref x0), (1, .int x1), (2, .long x2)]) d_Se_reach_4 (Nat.le_of_ble_eq_true rfl) rfl ?_
  refine z_lload 0 d_Se_reach_6 rfl ?_
  obtain ⟨g2, v4, h1, e3, E⟩ := cI_some E
  refine z_invS (y := y_Lo_bitCount) (Mc := M_Lo_bitCount) (av := [.long x2]) (rest := []) ⟨zt_421, zt_336, zt_57⟩ zk_Lo_bitCount zy_Lo_bitCount (by decide) (Nat.le_of_ble_eq_true rfl) z00 rfl (Nat.le_of_ble_eq_true rfl) d_Se_reach_8 (m_Lo_bitCount e3) ?_
  show Z X M_Se_reach 0 0 h1 11 [(6, .long x2), (4, .long (0 : Int64)), (0, .ref x0), (1, .int x1), (2, .long x2)] [.int v4]
  refine z_istore (lv2 := [(8, .int v4), (6, .long x2), (4, .long (0 : Int64)), (0, .ref x0), (1, .int x1), (2, .long x2)]) d_Se_reach_11 (Nat.le_of_ble_eq_true rfl) rfl ?_
  refine z_lv [3, 4, 2, 1, 0] rfl ?_
  exact (w_Se_reach_b13 hQ G) x0 x1 (0 : Int64) x2 v4 h1 E
theorem m_Se_reach {l : Launch} {G : Nat} {x0 : Nat} {x1 : Int32} {x2 : Int64} {h : pH} {r : pR} (E : f_Se_reach G x0 x1 x2 h = some r) : zMet l y_Se_reach M_Se_reach 0 0 [.ref x0, .int x1, .long x2] h r :=
  zMet_of (by decide) rfl (Nat.le_of_ble_eq_true rfl) (fun p e s m args below meth c D0 cT => w_Se_reach_b0 (X := (p, l, e, s, m, args, below, meth, c, D0, cT, h, _, 0, 0)) rfl x0 x1 x2 h E)
def f_Se_narrowOthers_b38 (G : Nat) (k4 : Nat → Int32 → Int32 → Int32 → pH → Option pR) (x0 : Nat) (x1 : Int32) (x2 : Int32) (x3 : Int32) (h : pH) : Option pR := k4 x0 x1 x2 (x3 + 1) h
theorem f_Se_narrowOthers_b38_eq (G : Nat) (k4 : Nat → Int32 → Int32 → Int32 → pH → Option pR) (x0 : Nat) (x1 : Int32) (x2 : Int32) (x3 : Int32) (h : pH) : f_Se_narrowOthers_b38 G k4 x0 x1 x2 x3 h = (k4 x0 x1 x2 (x3 + 1) h) := rfl
def f_Se_narrowOthers_b4 (G : Nat) : Nat → Nat → Int32 → Int32 → Int32 → pH → Option pR
  | 0 => fun _ _ _ _ _ => none
  | F + 1 => fun x0 x1 x2 x3 h => if (6 : Int32) ≤ x3 then (some (some (.int x2), h)) else (if x3 = x1 then ((f_Se_narrowOthers_b38 G (f_Se_narrowOthers_b4 G F)) x0 x1 x2 x3 h) else ((aJ h x0 x3).bind fun v1 => if (lg_cmp v1 (0 : Int64)) = 0 then ((f_Se_narrowOthers_b38 G (f_Se_narrowOthers_b4 G F)) x0 x1 x2 x3 h) else ((aJ h x0 x1).bind fun v2 => cI true (f_Se_keepOnly G x0 x3 (v2 ^^^ (-1 : Int64)) h) fun v6 h3 => (f_Se_narrowOthers_b38 G (f_Se_narrowOthers_b4 G F)) x0 x1 (x2 ||| v6) x3 h3)))
theorem f_Se_narrowOthers_b4_eq (G : Nat) (F : Nat) (x0 : Nat) (x1 : Int32) (x2 : Int32) (x3 : Int32) (h : pH) : f_Se_narrowOthers_b4 G (F + 1) x0 x1 x2 x3 h = (if (6 : Int32) ≤ x3 then (some (some (.int x2), h)) else (if x3 = x1 then ((f_Se_narrowOthers_b38 G (f_Se_narrowOthers_b4 G F)) x0 x1 x2 x3 h) else ((aJ h x0 x3).bind fun v1 => if (lg_cmp v1 (0 : Int64)) = 0 then ((f_Se_narrowOthers_b38 G (f_Se_narrowOthers_b4 G F)) x0 x1 x2 x3 h) else ((aJ h x0 x1).bind fun v2 => cI true (f_Se_keepOnly G x0 x3 (v2 ^^^ (-1 : Int64)) h) fun v6 h3 => (f_Se_narrowOthers_b38 G (f_Se_narrowOthers_b4 G F)) x0 x1 (x2 ||| v6) x3 h3)))) := rfl
def f_Se_narrowOthers (G : Nat) (x0 : Nat) (x1 : Int32) (h : pH) : Option pR := (f_Se_narrowOthers_b4 G G) x0 x1 (0 : Int32) (0 : Int32) h
theorem f_Se_narrowOthers_eq (G : Nat) (x0 : Nat) (x1 : Int32) (h : pH) : f_Se_narrowOthers G x0 x1 h = ((f_Se_narrowOthers_b4 G G) x0 x1 (0 : Int32) (0 : Int32) h) := rfl
set_option maxRecDepth 100000 in
set_option maxHeartbeats 4000000 in
theorem w_Se_narrowOthers_b38 {X : zX} {r : pR} {G : Nat} {k4 : Nat → Int32 → Int32 → Int32 → pH → Option pR} (hQ : zQ X r) (hk4 : ∀ (x0 : Nat) (x1 : Int32) (x2 : Int32) (x3 : Int32) (h : pH), k4 x0 x1 x2 x3 h = some r → Z X M_Se_narrowOthers 0 0 h 4 [(0, .ref x0), (1, .int x1), (2, .int x2), (3, .int x3)] []) : ∀ (x0 : Nat) (x1 : Int32) (x2 : Int32) (x3 : Int32) (h : pH), f_Se_narrowOthers_b38 G k4 x0 x1 x2 x3 h = some r → Z X M_Se_narrowOthers 0 0 h 38 [(0, .ref x0), (1, .int x1), (2, .int x2), (3, .int x3)] [] := by
  intro x0 x1 x2 x3 h E
  rw [f_Se_narrowOthers_b38_eq] at E
  refine z_iinc (v := (x3 + 1)) (lv2 := [(3, .int (x3 + 1)), (0, .ref x0), (1, .int x1), (2, .int x2)]) 3 d_Se_narrowOthers_38 rfl rfl (Nat.le_of_ble_eq_true rfl) rfl ?_
  refine z_goto (tgt := 4) d_Se_narrowOthers_41 (by decide) ?_
  refine z_lv [1, 2, 3, 0] rfl ?_
  exact hk4 x0 x1 x2 (x3 + 1) h E
set_option maxRecDepth 100000 in
set_option maxHeartbeats 4000000 in
theorem w_Se_narrowOthers_b4 {X : zX} {r : pR} {G : Nat} (hQ : zQ X r) : ∀ (F : Nat) (x0 : Nat) (x1 : Int32) (x2 : Int32) (x3 : Int32) (h : pH), f_Se_narrowOthers_b4 G F x0 x1 x2 x3 h = some r → Z X M_Se_narrowOthers 0 0 h 4 [(0, .ref x0), (1, .int x1), (2, .int x2), (3, .int x3)] [] := by
  intro F
  induction F with
  | zero => intro x0 x1 x2 x3 h E; exact nomatch (show (none : Option pR) = some _ from E)
  | succ F ih =>
    intro x0 x1 x2 x3 h E
    rw [f_Se_narrowOthers_b4_eq] at E
    refine z_iload_n 3 d_Se_narrowOthers_4 rfl rfl ?_
    refine z_bipush (v := (6 : Int32)) d_Se_narrowOthers_5 (by decide) ?_
    refine z_ic_ge (tgt := 44) d_Se_narrowOthers_7 (by decide) E (fun E => ?_) (fun E => ?_)
    · refine z_iload_n 2 d_Se_narrowOthers_44 rfl rfl ?_
      exact z_ireturn hQ rfl z00 d_Se_narrowOthers_45 E
    · refine z_iload_n 3 d_Se_narrowOthers_10 rfl rfl ?_
      refine z_iload_n 1 d_Se_narrowOthers_11 rfl rfl ?_
      refine z_ic_eq (tgt := 38) d_Se_narrowOthers_12 (by decide) E (fun E => ?_) (fun E => ?_)
      · exact (w_Se_narrowOthers_b38 hQ ih) x0 x1 x2 x3 h E
      · refine z_aload_n 0 d_Se_narrowOthers_15 rfl rfl ?_
        refine z_iload_n 3 d_Se_narrowOthers_16 rfl rfl ?_
        refine z_laload d_Se_narrowOthers_17 E (fun v1 _ E => ?_)
        refine z_lconst (v := (0 : Int64)) d_Se_narrowOthers_18 (by decide) ?_
        refine z_lcmp d_Se_narrowOthers_19 ?_
        refine z_if_eq (y := 0) (tgt := 38) d_Se_narrowOthers_20 (by decide) E (fun E => ?_) (fun E => ?_)
        · exact (w_Se_narrowOthers_b38 hQ ih) x0 x1 x2 x3 h E
        · refine z_iload_n 2 d_Se_narrowOthers_23 rfl rfl ?_
          refine z_aload_n 0 d_Se_narrowOthers_24 rfl rfl ?_
          refine z_iload_n 3 d_Se_narrowOthers_25 rfl rfl ?_
          refine z_aload_n 0 d_Se_narrowOthers_26 rfl rfl ?_
          refine z_iload_n 1 d_Se_narrowOthers_27 rfl rfl ?_
          refine z_laload d_Se_narrowOthers_28 E (fun v2 _ E => ?_)
          refine z_ldc2 (v := (-1 : Int64)) d_Se_narrowOthers_29 zt_428 ?_
          refine z_lxor d_Se_narrowOthers_32 ?_
          obtain ⟨g4, v6, h3, e5, E⟩ := cI_some E
          refine z_invS (y := y_Se_keepOnly) (Mc := M_Se_keepOnly) (av := [.ref x0, .int x3, .long (v2 ^^^ (-1 : Int64))]) (rest := [.int x2]) ⟨zt_422, zt_423, zt_49⟩ zk_Se_keepOnly zy_Se_keepOnly (by decide) (Nat.le_of_ble_eq_true rfl) z00 rfl (Nat.le_of_ble_eq_true rfl) d_Se_narrowOthers_33 (m_Se_keepOnly e5) ?_
          show Z X M_Se_narrowOthers 0 0 h3 36 [(0, .ref x0), (1, .int x1), (2, .int x2), (3, .int x3)] [.int v6, .int x2]
          refine z_ior d_Se_narrowOthers_36 ?_
          refine z_istore_n (lv2 := [(2, .int (x2 ||| v6)), (0, .ref x0), (1, .int x1), (3, .int x3)]) d_Se_narrowOthers_37 rfl (Nat.le_of_ble_eq_true rfl) rfl ?_
          refine z_lv [1, 2, 0, 3] rfl ?_
          exact (w_Se_narrowOthers_b38 hQ ih) x0 x1 (x2 ||| v6) x3 h3 E
set_option maxRecDepth 100000 in
set_option maxHeartbeats 4000000 in
theorem w_Se_narrowOthers_b0 {X : zX} {r : pR} {G : Nat} (hQ : zQ X r) : ∀ (x0 : Nat) (x1 : Int32) (h : pH), f_Se_narrowOthers G x0 x1 h = some r → Z X M_Se_narrowOthers 0 0 h 0 [(0, .ref x0), (1, .int x1)] [] := by
  intro x0 x1 h E
  rw [f_Se_narrowOthers_eq] at E
  refine z_iconst (v := (0 : Int32)) d_Se_narrowOthers_0 (by decide) ?_
  refine z_istore_n (lv2 := [(2, .int (0 : Int32)), (0, .ref x0), (1, .int x1)]) d_Se_narrowOthers_1 rfl (Nat.le_of_ble_eq_true rfl) rfl ?_
  refine z_iconst (v := (0 : Int32)) d_Se_narrowOthers_2 (by decide) ?_
  refine z_istore_n (lv2 := [(3, .int (0 : Int32)), (2, .int (0 : Int32)), (0, .ref x0), (1, .int x1)]) d_Se_narrowOthers_3 rfl (Nat.le_of_ble_eq_true rfl) rfl ?_
  refine z_lv [2, 3, 1, 0] rfl ?_
  exact (w_Se_narrowOthers_b4 hQ G) x0 x1 (0 : Int32) (0 : Int32) h E
theorem m_Se_narrowOthers {l : Launch} {G : Nat} {x0 : Nat} {x1 : Int32} {h : pH} {r : pR} (E : f_Se_narrowOthers G x0 x1 h = some r) : zMet l y_Se_narrowOthers M_Se_narrowOthers 0 0 [.ref x0, .int x1] h r :=
  zMet_of (by decide) rfl (Nat.le_of_ble_eq_true rfl) (fun p e s m args below meth c D0 cT => w_Se_narrowOthers_b0 (X := (p, l, e, s, m, args, below, meth, c, D0, cT, h, _, 0, 0)) rfl x0 x1 h E)
def f_Se_narrowLinked_b117 (G : Nat) (k5 : Nat → Nat → Int32 → Int32 → Int32 → pH → Option pR) (x0 : Nat) (x1 : Nat) (x2 : Int32) (x3 : Int32) (x4 : Int32) (h : pH) : Option pR := if 0 ≤ x3 then (k5 x0 x1 x2 x3 (x4 + 1) h) else (some (some (.int (-1 : Int32)), h))
theorem f_Se_narrowLinked_b117_eq (G : Nat) (k5 : Nat → Nat → Int32 → Int32 → Int32 → pH → Option pR) (x0 : Nat) (x1 : Nat) (x2 : Int32) (x3 : Int32) (x4 : Int32) (h : pH) : f_Se_narrowLinked_b117 G k5 x0 x1 x2 x3 x4 h = (if 0 ≤ x3 then (k5 x0 x1 x2 x3 (x4 + 1) h) else (some (some (.int (-1 : Int32)), h))) := rfl
def f_Se_narrowLinked_b5 (G : Nat) : Nat → Nat → Nat → Int32 → Int32 → Int32 → pH → Option pR
  | 0 => fun _ _ _ _ _ _ => none
  | F + 1 => fun x0 x1 x2 x3 x4 h => (gI h x0 1 3).bind fun v1 => if v1 ≤ x4 then (some (some (.int x3), h)) else ((gR h x0 1 2).bind fun v2 => (aI h v2 x4).bind fun v3 => cI true (f_Mg_subjectOf G v3 h) fun v7 h4 => (gR h4 x0 1 2).bind fun v8 => (aI h4 v8 x4).bind fun v9 => cI true (f_Mg_objectOf G v9 h4) fun v13 h10 => if (v7 - (40 : Int32)) = x2 then ((gR h10 x0 1 5).bind fun v30 => (gR h10 x0 1 2).bind fun v31 => (aI h10 v31 x4).bind fun v32 => cI true (f_Mg_verbOf G v32 h10) fun v36 h33 => (aJ h33 x1 x2).bind fun v37 => cJ true (f_Se_reach G v30 v36 v37 h33) fun v41 h38 => cI true (f_Se_keepOnly G x1 (v13 - (40 : Int32)) v41 h38) fun v45 h42 => (f_Se_narrowLinked_b117 G (f_Se_narrowLinked_b5 G F)) x0 x1 x2 (x3 ||| v45) x4 h42) else (if (v13 - (40 : Int32)) = x2 then ((gR h10 x0 1 6).bind fun v14 => (gR h10 x0 1 2).bind fun v15 => (aI h10 v15 x4).bind fun v16 => cI true (f_Mg_verbOf G v16 h10) fun v20 h17 => (aJ h17 x1 x2).bind fun v21 => cJ true (f_Se_reach G v14 v20 v21 h17) fun v25 h22 => cI true (f_Se_keepOnly G x1 (v7 - (40 : Int32)) v25 h22) fun v29 h26 => (f_Se_narrowLinked_b117 G (f_Se_narrowLinked_b5 G F)) x0 x1 x2 (x3 ||| v29) x4 h26) else ((f_Se_narrowLinked_b117 G (f_Se_narrowLinked_b5 G F)) x0 x1 x2 x3 x4 h10)))
theorem f_Se_narrowLinked_b5_eq (G : Nat) (F : Nat) (x0 : Nat) (x1 : Nat) (x2 : Int32) (x3 : Int32) (x4 : Int32) (h : pH) : f_Se_narrowLinked_b5 G (F + 1) x0 x1 x2 x3 x4 h = ((gI h x0 1 3).bind fun v1 => if v1 ≤ x4 then (some (some (.int x3), h)) else ((gR h x0 1 2).bind fun v2 => (aI h v2 x4).bind fun v3 => cI true (f_Mg_subjectOf G v3 h) fun v7 h4 => (gR h4 x0 1 2).bind fun v8 => (aI h4 v8 x4).bind fun v9 => cI true (f_Mg_objectOf G v9 h4) fun v13 h10 => if (v7 - (40 : Int32)) = x2 then ((gR h10 x0 1 5).bind fun v30 => (gR h10 x0 1 2).bind fun v31 => (aI h10 v31 x4).bind fun v32 => cI true (f_Mg_verbOf G v32 h10) fun v36 h33 => (aJ h33 x1 x2).bind fun v37 => cJ true (f_Se_reach G v30 v36 v37 h33) fun v41 h38 => cI true (f_Se_keepOnly G x1 (v13 - (40 : Int32)) v41 h38) fun v45 h42 => (f_Se_narrowLinked_b117 G (f_Se_narrowLinked_b5 G F)) x0 x1 x2 (x3 ||| v45) x4 h42) else (if (v13 - (40 : Int32)) = x2 then ((gR h10 x0 1 6).bind fun v14 => (gR h10 x0 1 2).bind fun v15 => (aI h10 v15 x4).bind fun v16 => cI true (f_Mg_verbOf G v16 h10) fun v20 h17 => (aJ h17 x1 x2).bind fun v21 => cJ true (f_Se_reach G v14 v20 v21 h17) fun v25 h22 => cI true (f_Se_keepOnly G x1 (v7 - (40 : Int32)) v25 h22) fun v29 h26 => (f_Se_narrowLinked_b117 G (f_Se_narrowLinked_b5 G F)) x0 x1 x2 (x3 ||| v29) x4 h26) else ((f_Se_narrowLinked_b117 G (f_Se_narrowLinked_b5 G F)) x0 x1 x2 x3 x4 h10)))) := rfl
def f_Se_narrowLinked (G : Nat) (x0 : Nat) (x1 : Nat) (x2 : Int32) (h : pH) : Option pR := (f_Se_narrowLinked_b5 G G) x0 x1 x2 (0 : Int32) (0 : Int32) h
theorem f_Se_narrowLinked_eq (G : Nat) (x0 : Nat) (x1 : Nat) (x2 : Int32) (h : pH) : f_Se_narrowLinked G x0 x1 x2 h = ((f_Se_narrowLinked_b5 G G) x0 x1 x2 (0 : Int32) (0 : Int32) h) := rfl
set_option maxRecDepth 100000 in
set_option maxHeartbeats 4000000 in
theorem w_Se_narrowLinked_b117 {X : zX} {r : pR} {G : Nat} {k5 : Nat → Nat → Int32 → Int32 → Int32 → pH → Option pR} (hQ : zQ X r) (hk5 : ∀ (x0 : Nat) (x1 : Nat) (x2 : Int32) (x3 : Int32) (x4 : Int32) (h : pH), k5 x0 x1 x2 x3 x4 h = some r → Z X M_Se_narrowLinked 0 0 h 5 [(0, .ref x0), (1, .ref x1), (2, .int x2), (3, .int x3), (4, .int x4)] []) : ∀ (x0 : Nat) (x1 : Nat) (x2 : Int32) (x3 : Int32) (x4 : Int32) (h : pH), f_Se_narrowLinked_b117 G k5 x0 x1 x2 x3 x4 h = some r → Z X M_Se_narrowLinked 0 0 h 117 [(0, .ref x0), (1, .ref x1), (2, .int x2), (3, .int x3), (4, .int x4)] [] := by
  intro x0 x1 x2 x3 x4 h E
  rw [f_Se_narrowLinked_b117_eq] at E
  refine z_iload_n 3 d_Se_narrowLinked_117 rfl rfl ?_
  refine z_if_ge (y := 0) (tgt := 123) d_Se_narrowLinked_118 (by decide) E (fun E => ?_) (fun E => ?_)
  · refine z_iinc (v := (x4 + 1)) (lv2 := [(4, .int (x4 + 1)), (0, .ref x0), (1, .ref x1), (2, .int x2), (3, .int x3)]) 4 d_Se_narrowLinked_123 rfl rfl (Nat.le_of_ble_eq_true rfl) rfl ?_
    refine z_goto (tgt := 5) d_Se_narrowLinked_126 (by decide) ?_
    refine z_lv [1, 2, 3, 4, 0] rfl ?_
    exact hk5 x0 x1 x2 x3 (x4 + 1) h E
  · refine z_iconst (v := (-1 : Int32)) d_Se_narrowLinked_121 (by decide) ?_
    exact z_ireturn hQ rfl z00 d_Se_narrowLinked_122 E
set_option maxRecDepth 100000 in
set_option maxHeartbeats 4000000 in
theorem w_Se_narrowLinked_b5 {X : zX} {r : pR} {G : Nat} (hQ : zQ X r) : ∀ (F : Nat) (x0 : Nat) (x1 : Nat) (x2 : Int32) (x3 : Int32) (x4 : Int32) (h : pH), f_Se_narrowLinked_b5 G F x0 x1 x2 x3 x4 h = some r → Z X M_Se_narrowLinked 0 0 h 5 [(0, .ref x0), (1, .ref x1), (2, .int x2), (3, .int x3), (4, .int x4)] [] := by
  intro F
  induction F with
  | zero => intro x0 x1 x2 x3 x4 h E; exact nomatch (show (none : Option pR) = some _ from E)
  | succ F ih =>
    intro x0 x1 x2 x3 x4 h E
    rw [f_Se_narrowLinked_b5_eq] at E
    refine z_iload 4 d_Se_narrowLinked_5 rfl ?_
    refine z_aload_n 0 d_Se_narrowLinked_7 rfl rfl ?_
    refine z_getI (ci := 1) (j := 3) rfl (by decide) zf_Se_26 d_Se_narrowLinked_8 E (fun v1 _ E => ?_)
    refine z_ic_ge (tgt := 129) d_Se_narrowLinked_11 (by decide) E (fun E => ?_) (fun E => ?_)
    · refine z_iload_n 3 d_Se_narrowLinked_129 rfl rfl ?_
      exact z_ireturn hQ rfl z00 d_Se_narrowLinked_130 E
    · refine z_aload_n 0 d_Se_narrowLinked_14 rfl rfl ?_
      refine z_getR (ci := 1) (j := 2) rfl (by decide) zf_Se_22 d_Se_narrowLinked_15 E (fun v2 _ E => ?_)
      refine z_iload 4 d_Se_narrowLinked_18 rfl ?_
      refine z_iaload d_Se_narrowLinked_20 E (fun v3 _ E => ?_)
      obtain ⟨g5, v7, h4, e6, E⟩ := cI_some E
      refine z_invSN (y := y_Mg_subjectOf) (Mc := M_Mg_subjectOf) (av := [.int v3]) (rest := []) ⟨(List.mem_of_getElem? (i := 7) rfl), zt_329, zt_47⟩ zk_Mg_subjectOf zy_Mg_subjectOf (by decide) (Nat.le_of_ble_eq_true rfl) z00 rfl (Nat.le_of_ble_eq_true rfl) d_Se_narrowLinked_21 (m_Mg_subjectOf e6) ?_
      show Z X M_Se_narrowLinked 0 0 h4 24 [(0, .ref x0), (1, .ref x1), (2, .int x2), (3, .int x3), (4, .int x4)] [.int v7]
      refine z_bipush (v := (40 : Int32)) d_Se_narrowLinked_24 (by decide) ?_
      refine z_isub d_Se_narrowLinked_26 ?_
      refine z_istore (lv2 := [(5, .int (v7 - (40 : Int32))), (0, .ref x0), (1, .ref x1), (2, .int x2), (3, .int x3), (4, .int x4)]) d_Se_narrowLinked_27 (Nat.le_of_ble_eq_true rfl) rfl ?_
      refine z_aload_n 1 d_Se_narrowLinked_29 rfl rfl ?_
      refine z_getR (ci := 1) (j := 2) rfl (by decide) zf_Se_22 d_Se_narrowLinked_30 E (fun v8 _ E => ?_)
      refine z_iload 5 d_Se_narrowLinked_33 rfl ?_
      refine z_iaload d_Se_narrowLinked_35 E (fun v9 _ E => ?_)
      obtain ⟨g11, v13, h10, e12, E⟩ := cI_some E
      refine z_invSN (y := y_Mg_objectOf) (Mc := M_Mg_objectOf) (av := [.int v9]) (rest := []) ⟨(List.mem_of_getElem? (i := 8) rfl), zt_332, zt_47⟩ zk_Mg_objectOf zy_Mg_objectOf (by decide) (Nat.le_of_ble_eq_true rfl) z00 rfl (Nat.le_of_ble_eq_true rfl) d_Se_narrowLinked_36 (m_Mg_objectOf e12) ?_
      show Z X M_Se_narrowLinked 0 0 h10 39 [(5, .int (v7 - (40 : Int32))), (0, .ref x0), (1, .ref x1), (2, .int x2), (3, .int x3), (4, .int x4)] [.int v13]
      refine z_bipush (v := (40 : Int32)) d_Se_narrowLinked_39 (by decide) ?_
      refine z_isub d_Se_narrowLinked_41 ?_
      refine z_istore (lv2 := [(6, .int (v13 - (40 : Int32))), (5, .int (v7 - (40 : Int32))), (0, .ref x0), (1, .ref x1), (2, .int x2), (3, .int x3), (4, .int x4)]) d_Se_narrowLinked_42 (Nat.le_of_ble_eq_true rfl) rfl ?_
      refine z_iload 1 d_Se_narrowLinked_44 rfl ?_
      refine z_iload_n 4 d_Se_narrowLinked_46 rfl rfl ?_
      refine z_ic_ne (tgt := 82) d_Se_narrowLinked_47 (by decide) E (fun E => ?_) (fun E => ?_)
      · refine z_iload 0 d_Se_narrowLinked_82 rfl ?_
        refine z_iload_n 4 d_Se_narrowLinked_84 rfl rfl ?_
        refine z_ic_ne (tgt := 117) d_Se_narrowLinked_85 (by decide) E (fun E => ?_) (fun E => ?_)
        · refine z_lv [2, 3, 4, 5, 6] rfl ?_
          exact (w_Se_narrowLinked_b117 hQ ih) x0 x1 x2 x3 x4 h10 E
        · refine z_iload_n 5 d_Se_narrowLinked_88 rfl rfl ?_
          refine z_aload_n 3 d_Se_narrowLinked_89 rfl rfl ?_
          refine z_iload 1 d_Se_narrowLinked_90 rfl ?_
          refine z_aload_n 2 d_Se_narrowLinked_92 rfl rfl ?_
          refine z_getR (ci := 1) (j := 6) rfl (by decide) zf_Se_39 d_Se_narrowLinked_93 E (fun v14 _ E => ?_)
          refine z_aload_n 2 d_Se_narrowLinked_96 rfl rfl ?_
          refine z_getR (ci := 1) (j := 2) rfl (by decide) zf_Se_22 d_Se_narrowLinked_97 E (fun v15 _ E => ?_)
          refine z_iload 6 d_Se_narrowLinked_100 rfl ?_
          refine z_iaload d_Se_narrowLinked_102 E (fun v16 _ E => ?_)
          obtain ⟨g18, v20, h17, e19, E⟩ := cI_some E
          refine z_invSN (y := y_Mg_verbOf) (Mc := M_Mg_verbOf) (av := [.int v16]) (rest := [.ref v14, .int (v7 - (40 : Int32)), .ref x1, .int x3]) ⟨(List.mem_of_getElem? (i := 9) rfl), zt_380, zt_47⟩ zk_Mg_verbOf zy_Mg_verbOf (by decide) (Nat.le_of_ble_eq_true rfl) z00 rfl (Nat.le_of_ble_eq_true rfl) d_Se_narrowLinked_103 (m_Mg_verbOf e19) ?_
          show Z X M_Se_narrowLinked 0 0 h17 106 [(6, .int (v13 - (40 : Int32))), (5, .int (v7 - (40 : Int32))), (0, .ref x0), (1, .ref x1), (2, .int x2), (3, .int x3), (4, .int x4)] [.int v20, .ref v14, .int (v7 - (40 : Int32)), .ref x1, .int x3]
          refine z_aload_n 3 d_Se_narrowLinked_106 rfl rfl ?_
          refine z_iload_n 4 d_Se_narrowLinked_107 rfl rfl ?_
          refine z_laload d_Se_narrowLinked_108 E (fun v21 _ E => ?_)
          obtain ⟨g23, v25, h22, e24, E⟩ := cJ_some E
          refine z_invS (y := y_Se_reach) (Mc := M_Se_reach) (av := [.ref v14, .int v20, .long v21]) (rest := [.int (v7 - (40 : Int32)), .ref x1, .int x3]) ⟨zt_418, zt_419, zt_49⟩ zk_Se_reach zy_Se_reach (by decide) (Nat.le_of_ble_eq_true rfl) z00 rfl (Nat.le_of_ble_eq_true rfl) d_Se_narrowLinked_109 (m_Se_reach e24) ?_
          show Z X M_Se_narrowLinked 0 0 h22 112 [(6, .int (v13 - (40 : Int32))), (5, .int (v7 - (40 : Int32))), (0, .ref x0), (1, .ref x1), (2, .int x2), (3, .int x3), (4, .int x4)] [.long v25, .int (v7 - (40 : Int32)), .ref x1, .int x3]
          obtain ⟨g27, v29, h26, e28, E⟩ := cI_some E
          refine z_invS (y := y_Se_keepOnly) (Mc := M_Se_keepOnly) (av := [.ref x1, .int (v7 - (40 : Int32)), .long v25]) (rest := [.int x3]) ⟨zt_422, zt_423, zt_49⟩ zk_Se_keepOnly zy_Se_keepOnly (by decide) (Nat.le_of_ble_eq_true rfl) z00 rfl (Nat.le_of_ble_eq_true rfl) d_Se_narrowLinked_112 (m_Se_keepOnly e28) ?_
          show Z X M_Se_narrowLinked 0 0 h26 115 [(6, .int (v13 - (40 : Int32))), (5, .int (v7 - (40 : Int32))), (0, .ref x0), (1, .ref x1), (2, .int x2), (3, .int x3), (4, .int x4)] [.int v29, .int x3]
          refine z_ior d_Se_narrowLinked_115 ?_
          refine z_istore_n (lv2 := [(3, .int (x3 ||| v29)), (6, .int (v13 - (40 : Int32))), (5, .int (v7 - (40 : Int32))), (0, .ref x0), (1, .ref x1), (2, .int x2), (4, .int x4)]) d_Se_narrowLinked_116 rfl (Nat.le_of_ble_eq_true rfl) rfl ?_
          refine z_lv [3, 4, 5, 0, 6] rfl ?_
          exact (w_Se_narrowLinked_b117 hQ ih) x0 x1 x2 (x3 ||| v29) x4 h26 E
      · refine z_iload_n 5 d_Se_narrowLinked_50 rfl rfl ?_
        refine z_aload_n 3 d_Se_narrowLinked_51 rfl rfl ?_
        refine z_iload 0 d_Se_narrowLinked_52 rfl ?_
        refine z_aload_n 2 d_Se_narrowLinked_54 rfl rfl ?_
        refine z_getR (ci := 1) (j := 5) rfl (by decide) zf_Se_35 d_Se_narrowLinked_55 E (fun v30 _ E => ?_)
        refine z_aload_n 2 d_Se_narrowLinked_58 rfl rfl ?_
        refine z_getR (ci := 1) (j := 2) rfl (by decide) zf_Se_22 d_Se_narrowLinked_59 E (fun v31 _ E => ?_)
        refine z_iload 6 d_Se_narrowLinked_62 rfl ?_
        refine z_iaload d_Se_narrowLinked_64 E (fun v32 _ E => ?_)
        obtain ⟨g34, v36, h33, e35, E⟩ := cI_some E
        refine z_invSN (y := y_Mg_verbOf) (Mc := M_Mg_verbOf) (av := [.int v32]) (rest := [.ref v30, .int (v13 - (40 : Int32)), .ref x1, .int x3]) ⟨(List.mem_of_getElem? (i := 9) rfl), zt_380, zt_47⟩ zk_Mg_verbOf zy_Mg_verbOf (by decide) (Nat.le_of_ble_eq_true rfl) z00 rfl (Nat.le_of_ble_eq_true rfl) d_Se_narrowLinked_65 (m_Mg_verbOf e35) ?_
        show Z X M_Se_narrowLinked 0 0 h33 68 [(6, .int (v13 - (40 : Int32))), (5, .int (v7 - (40 : Int32))), (0, .ref x0), (1, .ref x1), (2, .int x2), (3, .int x3), (4, .int x4)] [.int v36, .ref v30, .int (v13 - (40 : Int32)), .ref x1, .int x3]
        refine z_aload_n 3 d_Se_narrowLinked_68 rfl rfl ?_
        refine z_iload_n 4 d_Se_narrowLinked_69 rfl rfl ?_
        refine z_laload d_Se_narrowLinked_70 E (fun v37 _ E => ?_)
        obtain ⟨g39, v41, h38, e40, E⟩ := cJ_some E
        refine z_invS (y := y_Se_reach) (Mc := M_Se_reach) (av := [.ref v30, .int v36, .long v37]) (rest := [.int (v13 - (40 : Int32)), .ref x1, .int x3]) ⟨zt_418, zt_419, zt_49⟩ zk_Se_reach zy_Se_reach (by decide) (Nat.le_of_ble_eq_true rfl) z00 rfl (Nat.le_of_ble_eq_true rfl) d_Se_narrowLinked_71 (m_Se_reach e40) ?_
        show Z X M_Se_narrowLinked 0 0 h38 74 [(6, .int (v13 - (40 : Int32))), (5, .int (v7 - (40 : Int32))), (0, .ref x0), (1, .ref x1), (2, .int x2), (3, .int x3), (4, .int x4)] [.long v41, .int (v13 - (40 : Int32)), .ref x1, .int x3]
        obtain ⟨g43, v45, h42, e44, E⟩ := cI_some E
        refine z_invS (y := y_Se_keepOnly) (Mc := M_Se_keepOnly) (av := [.ref x1, .int (v13 - (40 : Int32)), .long v41]) (rest := [.int x3]) ⟨zt_422, zt_423, zt_49⟩ zk_Se_keepOnly zy_Se_keepOnly (by decide) (Nat.le_of_ble_eq_true rfl) z00 rfl (Nat.le_of_ble_eq_true rfl) d_Se_narrowLinked_74 (m_Se_keepOnly e44) ?_
        show Z X M_Se_narrowLinked 0 0 h42 77 [(6, .int (v13 - (40 : Int32))), (5, .int (v7 - (40 : Int32))), (0, .ref x0), (1, .ref x1), (2, .int x2), (3, .int x3), (4, .int x4)] [.int v45, .int x3]
        refine z_ior d_Se_narrowLinked_77 ?_
        refine z_istore_n (lv2 := [(3, .int (x3 ||| v45)), (6, .int (v13 - (40 : Int32))), (5, .int (v7 - (40 : Int32))), (0, .ref x0), (1, .ref x1), (2, .int x2), (4, .int x4)]) d_Se_narrowLinked_78 rfl (Nat.le_of_ble_eq_true rfl) rfl ?_
        refine z_goto (tgt := 117) d_Se_narrowLinked_79 (by decide) ?_
        refine z_lv [3, 4, 5, 0, 6] rfl ?_
        exact (w_Se_narrowLinked_b117 hQ ih) x0 x1 x2 (x3 ||| v45) x4 h42 E
set_option maxRecDepth 100000 in
set_option maxHeartbeats 4000000 in
theorem w_Se_narrowLinked_b0 {X : zX} {r : pR} {G : Nat} (hQ : zQ X r) : ∀ (x0 : Nat) (x1 : Nat) (x2 : Int32) (h : pH), f_Se_narrowLinked G x0 x1 x2 h = some r → Z X M_Se_narrowLinked 0 0 h 0 [(0, .ref x0), (1, .ref x1), (2, .int x2)] [] := by
  intro x0 x1 x2 h E
  rw [f_Se_narrowLinked_eq] at E
  refine z_iconst (v := (0 : Int32)) d_Se_narrowLinked_0 (by decide) ?_
  refine z_istore_n (lv2 := [(3, .int (0 : Int32)), (0, .ref x0), (1, .ref x1), (2, .int x2)]) d_Se_narrowLinked_1 rfl (Nat.le_of_ble_eq_true rfl) rfl ?_
  refine z_iconst (v := (0 : Int32)) d_Se_narrowLinked_2 (by decide) ?_
  refine z_istore (lv2 := [(4, .int (0 : Int32)), (3, .int (0 : Int32)), (0, .ref x0), (1, .ref x1), (2, .int x2)]) d_Se_narrowLinked_3 (Nat.le_of_ble_eq_true rfl) rfl ?_
  refine z_lv [2, 3, 4, 1, 0] rfl ?_
  exact (w_Se_narrowLinked_b5 hQ G) x0 x1 x2 (0 : Int32) (0 : Int32) h E
theorem m_Se_narrowLinked {l : Launch} {G : Nat} {x0 : Nat} {x1 : Nat} {x2 : Int32} {h : pH} {r : pR} (E : f_Se_narrowLinked G x0 x1 x2 h = some r) : zMet l y_Se_narrowLinked M_Se_narrowLinked 0 0 [.ref x0, .ref x1, .int x2] h r :=
  zMet_of (by decide) rfl (Nat.le_of_ble_eq_true rfl) (fun p e s m args below meth c D0 cT => w_Se_narrowLinked_b0 (X := (p, l, e, s, m, args, below, meth, c, D0, cT, h, _, 0, 0)) rfl x0 x1 x2 h E)
def f_Se_narrow_b114 (G : Nat) (k128 : Nat → Nat → Int32 → Int32 → Int32 → pH → Option pR) (x0 : Nat) (x1 : Nat) (x3 : Int32) (x4 : Int32) (x5 : Int32) (x8 : Int32) (h : pH) : Option pR := if 0 ≤ x8 then (k128 x0 x1 x3 (x4 ||| x8) x5 h) else ((if isZ (0 : Int32) = true then some (some (.int (0 : Int32)), h) else none))
theorem f_Se_narrow_b114_eq (G : Nat) (k128 : Nat → Nat → Int32 → Int32 → Int32 → pH → Option pR) (x0 : Nat) (x1 : Nat) (x3 : Int32) (x4 : Int32) (x5 : Int32) (x8 : Int32) (h : pH) : f_Se_narrow_b114 G k128 x0 x1 x3 x4 x5 x8 h = (if 0 ≤ x8 then (k128 x0 x1 x3 (x4 ||| x8) x5 h) else ((if isZ (0 : Int32) = true then some (some (.int (0 : Int32)), h) else none))) := rfl
def f_Se_narrow_b77 (G : Nat) (k128 : Nat → Nat → Int32 → Int32 → Int32 → pH → Option pR) (x0 : Nat) (x1 : Nat) (x3 : Int32) (x4 : Int32) (x5 : Int32) (x6 : Int32) (x7 : Int32) (h : pH) : Option pR := cI (oC h x0 1) (f_Se_narrowLinked G x0 x1 x6 h) fun v11 h8 => if v11 < 0 then ((f_Se_narrow_b114 G k128) x0 x1 x3 x4 x5 v11 h8) else (if x7 = 0 then ((f_Se_narrow_b114 G k128) x0 x1 x3 x4 x5 v11 h8) else ((gI h8 x0 1 1).bind fun v12 => if v12 = 0 then ((f_Se_narrow_b114 G k128) x0 x1 x3 x4 x5 v11 h8) else (cI true (f_Se_narrowOthers G x1 x6 h8) fun v16 h13 => (f_Se_narrow_b114 G k128) x0 x1 x3 x4 x5 (v11 ||| v16) h13)))
theorem f_Se_narrow_b77_eq (G : Nat) (k128 : Nat → Nat → Int32 → Int32 → Int32 → pH → Option pR) (x0 : Nat) (x1 : Nat) (x3 : Int32) (x4 : Int32) (x5 : Int32) (x6 : Int32) (x7 : Int32) (h : pH) : f_Se_narrow_b77 G k128 x0 x1 x3 x4 x5 x6 x7 h = (cI (oC h x0 1) (f_Se_narrowLinked G x0 x1 x6 h) fun v11 h8 => if v11 < 0 then ((f_Se_narrow_b114 G k128) x0 x1 x3 x4 x5 v11 h8) else (if x7 = 0 then ((f_Se_narrow_b114 G k128) x0 x1 x3 x4 x5 v11 h8) else ((gI h8 x0 1 1).bind fun v12 => if v12 = 0 then ((f_Se_narrow_b114 G k128) x0 x1 x3 x4 x5 v11 h8) else (cI true (f_Se_narrowOthers G x1 x6 h8) fun v16 h13 => (f_Se_narrow_b114 G k128) x0 x1 x3 x4 x5 (v11 ||| v16) h13)))) := rfl
def f_Se_narrow_b128 (G : Nat) (k6 : Nat → Nat → Int32 → Int32 → Int32 → pH → Option pR) (x0 : Nat) (x1 : Nat) (x3 : Int32) (x4 : Int32) (x5 : Int32) (h : pH) : Option pR := k6 x0 x1 x3 x4 (x5 + 1) h
theorem f_Se_narrow_b128_eq (G : Nat) (k6 : Nat → Nat → Int32 → Int32 → Int32 → pH → Option pR) (x0 : Nat) (x1 : Nat) (x3 : Int32) (x4 : Int32) (x5 : Int32) (h : pH) : f_Se_narrow_b128 G k6 x0 x1 x3 x4 x5 h = (k6 x0 x1 x3 x4 (x5 + 1) h) := rfl
def f_Se_narrow_b57 (G : Nat) (k6 : Nat → Nat → Int32 → Int32 → Int32 → pH → Option pR) (x0 : Nat) (x1 : Nat) (x3 : Int32) (x4 : Int32) (x5 : Int32) (x6 : Int32) (s0 : Int32) (h : pH) : Option pR := (aJ h x1 x6).bind fun v7 => if (lg_cmp v7 (0 : Int64)) = 0 then ((f_Se_narrow_b128 G k6) x0 x1 x3 x4 x5 h) else (if x3 = 0 then (if s0 = 0 then ((f_Se_narrow_b128 G k6) x0 x1 x3 x4 x5 h) else ((f_Se_narrow_b77 G (f_Se_narrow_b128 G k6)) x0 x1 x3 x4 x5 x6 s0 h)) else ((f_Se_narrow_b77 G (f_Se_narrow_b128 G k6)) x0 x1 x3 x4 x5 x6 s0 h))
theorem f_Se_narrow_b57_eq (G : Nat) (k6 : Nat → Nat → Int32 → Int32 → Int32 → pH → Option pR) (x0 : Nat) (x1 : Nat) (x3 : Int32) (x4 : Int32) (x5 : Int32) (x6 : Int32) (s0 : Int32) (h : pH) : f_Se_narrow_b57 G k6 x0 x1 x3 x4 x5 x6 s0 h = ((aJ h x1 x6).bind fun v7 => if (lg_cmp v7 (0 : Int64)) = 0 then ((f_Se_narrow_b128 G k6) x0 x1 x3 x4 x5 h) else (if x3 = 0 then (if s0 = 0 then ((f_Se_narrow_b128 G k6) x0 x1 x3 x4 x5 h) else ((f_Se_narrow_b77 G (f_Se_narrow_b128 G k6)) x0 x1 x3 x4 x5 x6 s0 h)) else ((f_Se_narrow_b77 G (f_Se_narrow_b128 G k6)) x0 x1 x3 x4 x5 x6 s0 h))) := rfl
def f_Se_narrow_b134 (G : Nat) (h : pH) : Option pR := (if isZ (1 : Int32) = true then some (some (.int (1 : Int32)), h) else none)
theorem f_Se_narrow_b134_eq (G : Nat) (h : pH) : f_Se_narrow_b134 G h = ((if isZ (1 : Int32) = true then some (some (.int (1 : Int32)), h) else none)) := rfl
def f_Se_narrow_b6 (G : Nat) : Nat → Nat → Nat → Int32 → Int32 → Int32 → pH → Option pR
  | 0 => fun _ _ _ _ _ _ => none
  | F + 1 => fun x0 x1 x3 x4 x5 h => if (282 : Int32) ≤ x5 then ((f_Se_narrow_b134 G) h) else (if x4 = 0 then ((f_Se_narrow_b134 G) h) else (cI true (f_Mg_lowestOf G (x4).toInt64 h) fun v4 h1 => (aJ h1 x1 v4).bind fun v5 => (aJ h1 x1 v4).bind fun v6 => if (lg_cmp (v5 &&& (v6 - (1 : Int64))) (0 : Int64)) = 0 then ((f_Se_narrow_b57 G (f_Se_narrow_b6 G F)) x0 x1 x3 (x4 &&& (x4 - (1 : Int32))) x5 v4 (1 : Int32) h1) else ((f_Se_narrow_b57 G (f_Se_narrow_b6 G F)) x0 x1 x3 (x4 &&& (x4 - (1 : Int32))) x5 v4 (0 : Int32) h1)))
theorem f_Se_narrow_b6_eq (G : Nat) (F : Nat) (x0 : Nat) (x1 : Nat) (x3 : Int32) (x4 : Int32) (x5 : Int32) (h : pH) : f_Se_narrow_b6 G (F + 1) x0 x1 x3 x4 x5 h = (if (282 : Int32) ≤ x5 then ((f_Se_narrow_b134 G) h) else (if x4 = 0 then ((f_Se_narrow_b134 G) h) else (cI true (f_Mg_lowestOf G (x4).toInt64 h) fun v4 h1 => (aJ h1 x1 v4).bind fun v5 => (aJ h1 x1 v4).bind fun v6 => if (lg_cmp (v5 &&& (v6 - (1 : Int64))) (0 : Int64)) = 0 then ((f_Se_narrow_b57 G (f_Se_narrow_b6 G F)) x0 x1 x3 (x4 &&& (x4 - (1 : Int32))) x5 v4 (1 : Int32) h1) else ((f_Se_narrow_b57 G (f_Se_narrow_b6 G F)) x0 x1 x3 (x4 &&& (x4 - (1 : Int32))) x5 v4 (0 : Int32) h1)))) := rfl
def f_Se_narrow (G : Nat) (x0 : Nat) (x1 : Nat) (x2 : Int32) (x3 : Int32) (h : pH) : Option pR := (f_Se_narrow_b6 G G) x0 x1 x3 x2 (0 : Int32) h
theorem f_Se_narrow_eq (G : Nat) (x0 : Nat) (x1 : Nat) (x2 : Int32) (x3 : Int32) (h : pH) : f_Se_narrow G x0 x1 x2 x3 h = ((f_Se_narrow_b6 G G) x0 x1 x3 x2 (0 : Int32) h) := rfl
set_option maxRecDepth 100000 in
set_option maxHeartbeats 4000000 in
theorem w_Se_narrow_b114 {X : zX} {r : pR} {G : Nat} {k128 : Nat → Nat → Int32 → Int32 → Int32 → pH → Option pR} (hQ : zQ X r) (hk128 : ∀ (x0 : Nat) (x1 : Nat) (x3 : Int32) (x4 : Int32) (x5 : Int32) (h : pH), k128 x0 x1 x3 x4 x5 h = some r → Z X M_Se_narrow 0 0 h 128 [(0, .ref x0), (1, .ref x1), (3, .int x3), (4, .int x4), (5, .int x5)] []) : ∀ (x0 : Nat) (x1 : Nat) (x3 : Int32) (x4 : Int32) (x5 : Int32) (x8 : Int32) (h : pH), f_Se_narrow_b114 G k128 x0 x1 x3 x4 x5 x8 h = some r → Z X M_Se_narrow 0 0 h 114 [(0, .ref x0), (1, .ref x1), (3, .int x3), (4, .int x4), (5, .int x5), (8, .int x8)] [] := by
  intro x0 x1 x3 x4 x5 x8 h E
  rw [f_Se_narrow_b114_eq] at E
  refine z_iload 5 d_Se_narrow_114 rfl ?_
  refine z_if_ge (y := 0) (tgt := 121) d_Se_narrow_116 (by decide) E (fun E => ?_) (fun E => ?_)
  · refine z_iload 3 d_Se_narrow_121 rfl ?_
    refine z_iload 5 d_Se_narrow_123 rfl ?_
    refine z_ior d_Se_narrow_125 ?_
    refine z_istore (lv2 := [(4, .int (x4 ||| x8)), (0, .ref x0), (1, .ref x1), (3, .int x3), (5, .int x5), (8, .int x8)]) d_Se_narrow_126 (Nat.le_of_ble_eq_true rfl) rfl ?_
    refine z_lv [1, 2, 3, 0, 4] rfl ?_
    exact hk128 x0 x1 x3 (x4 ||| x8) x5 h E
  · refine z_iconst (v := (0 : Int32)) d_Se_narrow_119 (by decide) ?_
    exact z_zreturn hQ rfl z00 d_Se_narrow_120 E
set_option maxRecDepth 100000 in
set_option maxHeartbeats 4000000 in
theorem w_Se_narrow_b77 {X : zX} {r : pR} {G : Nat} {k128 : Nat → Nat → Int32 → Int32 → Int32 → pH → Option pR} (hQ : zQ X r) (hk128 : ∀ (x0 : Nat) (x1 : Nat) (x3 : Int32) (x4 : Int32) (x5 : Int32) (h : pH), k128 x0 x1 x3 x4 x5 h = some r → Z X M_Se_narrow 0 0 h 128 [(0, .ref x0), (1, .ref x1), (3, .int x3), (4, .int x4), (5, .int x5)] []) : ∀ (x0 : Nat) (x1 : Nat) (x3 : Int32) (x4 : Int32) (x5 : Int32) (x6 : Int32) (x7 : Int32) (h : pH), f_Se_narrow_b77 G k128 x0 x1 x3 x4 x5 x6 x7 h = some r → Z X M_Se_narrow 0 0 h 77 [(0, .ref x0), (1, .ref x1), (3, .int x3), (4, .int x4), (5, .int x5), (6, .int x6), (7, .int x7)] [] := by
  intro x0 x1 x3 x4 x5 x6 x7 h E
  rw [f_Se_narrow_b77_eq] at E
  refine z_aload_n 0 d_Se_narrow_77 rfl rfl ?_
  refine z_aload_n 1 d_Se_narrow_78 rfl rfl ?_
  refine z_iload 5 d_Se_narrow_79 rfl ?_
  obtain ⟨g9, v11, h8, e10, E⟩ := cI_some E
  refine z_invV (ci := 1) (y := y_Se_narrowLinked) (Mc := M_Se_narrowLinked) (av := [.ref x1, .int x6]) (rest := []) rfl rfl ⟨zt_414, zt_416, zt_9, zt_49⟩ zk_Se_narrowLinked zy_Se_narrowLinked (by decide) (Nat.le_of_ble_eq_true rfl) z00 rfl (Nat.le_of_ble_eq_true rfl) d_Se_narrow_81 g9 (m_Se_narrowLinked e10) ?_
  show Z X M_Se_narrow 0 0 h8 84 [(0, .ref x0), (1, .ref x1), (3, .int x3), (4, .int x4), (5, .int x5), (6, .int x6), (7, .int x7)] [.int v11]
  refine z_istore (lv2 := [(8, .int v11), (0, .ref x0), (1, .ref x1), (3, .int x3), (4, .int x4), (5, .int x5), (6, .int x6), (7, .int x7)]) d_Se_narrow_84 (Nat.le_of_ble_eq_true rfl) rfl ?_
  refine z_iload 0 d_Se_narrow_86 rfl ?_
  refine z_if_lt (y := 0) (tgt := 114) d_Se_narrow_88 (by decide) E (fun E => ?_) (fun E => ?_)
  · refine z_lv [1, 2, 3, 4, 5, 0] rfl ?_
    exact (w_Se_narrow_b114 hQ hk128) x0 x1 x3 x4 x5 v11 h8 E
  · refine z_iload 7 d_Se_narrow_91 rfl ?_
    refine z_if_eq (y := 0) (tgt := 114) d_Se_narrow_93 (by decide) E (fun E => ?_) (fun E => ?_)
    · refine z_lv [1, 2, 3, 4, 5, 0] rfl ?_
      exact (w_Se_narrow_b114 hQ hk128) x0 x1 x3 x4 x5 v11 h8 E
    · refine z_aload_n 1 d_Se_narrow_96 rfl rfl ?_
      refine z_getI (ci := 1) (j := 1) rfl (by decide) zf_Se_18 d_Se_narrow_97 E (fun v12 _ E => ?_)
      refine z_if_eq (y := 0) (tgt := 114) d_Se_narrow_100 (by decide) E (fun E => ?_) (fun E => ?_)
      · refine z_lv [1, 2, 3, 4, 5, 0] rfl ?_
        exact (w_Se_narrow_b114 hQ hk128) x0 x1 x3 x4 x5 v11 h8 E
      · refine z_iload 0 d_Se_narrow_103 rfl ?_
        refine z_aload_n 2 d_Se_narrow_105 rfl rfl ?_
        refine z_iload 6 d_Se_narrow_106 rfl ?_
        obtain ⟨g14, v16, h13, e15, E⟩ := cI_some E
        refine z_invS (y := y_Se_narrowOthers) (Mc := M_Se_narrowOthers) (av := [.ref x1, .int x6]) (rest := [.int v11]) ⟨zt_425, zt_426, zt_49⟩ zk_Se_narrowOthers zy_Se_narrowOthers (by decide) (Nat.le_of_ble_eq_true rfl) z00 rfl (Nat.le_of_ble_eq_true rfl) d_Se_narrow_108 (m_Se_narrowOthers e15) ?_
        show Z X M_Se_narrow 0 0 h13 111 [(8, .int v11), (0, .ref x0), (1, .ref x1), (3, .int x3), (4, .int x4), (5, .int x5), (6, .int x6), (7, .int x7)] [.int v16, .int v11]
        refine z_ior d_Se_narrow_111 ?_
        refine z_istore (lv2 := [(8, .int (v11 ||| v16)), (0, .ref x0), (1, .ref x1), (3, .int x3), (4, .int x4), (5, .int x5), (6, .int x6), (7, .int x7)]) d_Se_narrow_112 (Nat.le_of_ble_eq_true rfl) rfl ?_
        refine z_lv [1, 2, 3, 4, 5, 0] rfl ?_
        exact (w_Se_narrow_b114 hQ hk128) x0 x1 x3 x4 x5 (v11 ||| v16) h13 E
set_option maxRecDepth 100000 in
set_option maxHeartbeats 4000000 in
theorem w_Se_narrow_b128 {X : zX} {r : pR} {G : Nat} {k6 : Nat → Nat → Int32 → Int32 → Int32 → pH → Option pR} (hQ : zQ X r) (hk6 : ∀ (x0 : Nat) (x1 : Nat) (x3 : Int32) (x4 : Int32) (x5 : Int32) (h : pH), k6 x0 x1 x3 x4 x5 h = some r → Z X M_Se_narrow 0 0 h 6 [(0, .ref x0), (1, .ref x1), (3, .int x3), (4, .int x4), (5, .int x5)] []) : ∀ (x0 : Nat) (x1 : Nat) (x3 : Int32) (x4 : Int32) (x5 : Int32) (h : pH), f_Se_narrow_b128 G k6 x0 x1 x3 x4 x5 h = some r → Z X M_Se_narrow 0 0 h 128 [(0, .ref x0), (1, .ref x1), (3, .int x3), (4, .int x4), (5, .int x5)] [] := by
  intro x0 x1 x3 x4 x5 h E
  rw [f_Se_narrow_b128_eq] at E
  refine z_iinc (v := (x5 + 1)) (lv2 := [(5, .int (x5 + 1)), (0, .ref x0), (1, .ref x1), (3, .int x3), (4, .int x4)]) 4 d_Se_narrow_128 rfl rfl (Nat.le_of_ble_eq_true rfl) rfl ?_
  refine z_goto (tgt := 6) d_Se_narrow_131 (by decide) ?_
  refine z_lv [1, 2, 3, 4, 0] rfl ?_
  exact hk6 x0 x1 x3 x4 (x5 + 1) h E
set_option maxRecDepth 100000 in
set_option maxHeartbeats 4000000 in
theorem w_Se_narrow_b57 {X : zX} {r : pR} {G : Nat} {k6 : Nat → Nat → Int32 → Int32 → Int32 → pH → Option pR} (hQ : zQ X r) (hk6 : ∀ (x0 : Nat) (x1 : Nat) (x3 : Int32) (x4 : Int32) (x5 : Int32) (h : pH), k6 x0 x1 x3 x4 x5 h = some r → Z X M_Se_narrow 0 0 h 6 [(0, .ref x0), (1, .ref x1), (3, .int x3), (4, .int x4), (5, .int x5)] []) : ∀ (x0 : Nat) (x1 : Nat) (x3 : Int32) (x4 : Int32) (x5 : Int32) (x6 : Int32) (s0 : Int32) (h : pH), f_Se_narrow_b57 G k6 x0 x1 x3 x4 x5 x6 s0 h = some r → Z X M_Se_narrow 0 0 h 57 [(0, .ref x0), (1, .ref x1), (3, .int x3), (4, .int x4), (5, .int x5), (6, .int x6)] [.int s0] := by
  intro x0 x1 x3 x4 x5 x6 s0 h E
  rw [f_Se_narrow_b57_eq] at E
  refine z_istore (lv2 := [(7, .int s0), (0, .ref x0), (1, .ref x1), (3, .int x3), (4, .int x4), (5, .int x5), (6, .int x6)]) d_Se_narrow_57 (Nat.le_of_ble_eq_true rfl) rfl ?_
  refine z_aload_n 2 d_Se_narrow_59 rfl rfl ?_
  refine z_iload 6 d_Se_narrow_60 rfl ?_
  refine z_laload d_Se_narrow_62 E (fun v7 _ E => ?_)
  refine z_lconst (v := (0 : Int64)) d_Se_narrow_63 (by decide) ?_
  refine z_lcmp d_Se_narrow_64 ?_
  refine z_if_eq (y := 0) (tgt := 128) d_Se_narrow_65 (by decide) E (fun E => ?_) (fun E => ?_)
  · refine z_lv [1, 2, 3, 4, 5] rfl ?_
    exact (w_Se_narrow_b128 hQ hk6) x0 x1 x3 x4 x5 h E
  · refine z_iload_n 3 d_Se_narrow_68 rfl rfl ?_
    refine z_if_ne (y := 0) (tgt := 77) d_Se_narrow_69 (by decide) E (fun E => ?_) (fun E => ?_)
    · refine z_lv [1, 2, 3, 4, 5, 6, 0] rfl ?_
      exact (w_Se_narrow_b77 hQ (w_Se_narrow_b128 hQ hk6)) x0 x1 x3 x4 x5 x6 s0 h E
    · refine z_iload 0 d_Se_narrow_72 rfl ?_
      refine z_if_eq (y := 0) (tgt := 128) d_Se_narrow_74 (by decide) E (fun E => ?_) (fun E => ?_)
      · refine z_lv [1, 2, 3, 4, 5] rfl ?_
        exact (w_Se_narrow_b128 hQ hk6) x0 x1 x3 x4 x5 h E
      · refine z_lv [1, 2, 3, 4, 5, 6, 0] rfl ?_
        exact (w_Se_narrow_b77 hQ (w_Se_narrow_b128 hQ hk6)) x0 x1 x3 x4 x5 x6 s0 h E
set_option maxRecDepth 100000 in
set_option maxHeartbeats 4000000 in
theorem w_Se_narrow_b134 {X : zX} {r : pR} {G : Nat} (hQ : zQ X r) : ∀ (h : pH), f_Se_narrow_b134 G h = some r → Z X M_Se_narrow 0 0 h 134 [] [] := by
  intro h E
  rw [f_Se_narrow_b134_eq] at E
  refine z_iconst (v := (1 : Int32)) d_Se_narrow_134 (by decide) ?_
  exact z_zreturn hQ rfl z00 d_Se_narrow_135 E
set_option maxRecDepth 100000 in
set_option maxHeartbeats 4000000 in
theorem w_Se_narrow_b6 {X : zX} {r : pR} {G : Nat} (hQ : zQ X r) : ∀ (F : Nat) (x0 : Nat) (x1 : Nat) (x3 : Int32) (x4 : Int32) (x5 : Int32) (h : pH), f_Se_narrow_b6 G F x0 x1 x3 x4 x5 h = some r → Z X M_Se_narrow 0 0 h 6 [(0, .ref x0), (1, .ref x1), (3, .int x3), (4, .int x4), (5, .int x5)] [] := by
  intro F
  induction F with
  | zero => intro x0 x1 x3 x4 x5 h E; exact nomatch (show (none : Option pR) = some _ from E)
  | succ F ih =>
    intro x0 x1 x3 x4 x5 h E
    rw [f_Se_narrow_b6_eq] at E
    refine z_iload 4 d_Se_narrow_6 rfl ?_
    refine z_sipush (v := (282 : Int32)) d_Se_narrow_8 (by decide) ?_
    refine z_ic_ge (tgt := 134) d_Se_narrow_11 (by decide) E (fun E => ?_) (fun E => ?_)
    · refine z_lv [] rfl ?_
      exact (w_Se_narrow_b134 hQ) h E
    · refine z_iload 3 d_Se_narrow_14 rfl ?_
      refine z_if_eq (y := 0) (tgt := 134) d_Se_narrow_16 (by decide) E (fun E => ?_) (fun E => ?_)
      · refine z_lv [] rfl ?_
        exact (w_Se_narrow_b134 hQ) h E
      · refine z_iload 3 d_Se_narrow_19 rfl ?_
        refine z_i2l d_Se_narrow_21 ?_
        obtain ⟨g2, v4, h1, e3, E⟩ := cI_some E
        refine z_invSN (y := y_Mg_lowestOf) (Mc := M_Mg_lowestOf) (av := [.long (x4).toInt64]) (rest := []) ⟨(List.mem_of_getElem? (i := 12) rfl), zt_412, zt_47⟩ zk_Mg_lowestOf zy_Mg_lowestOf (by decide) (Nat.le_of_ble_eq_true rfl) z00 rfl (Nat.le_of_ble_eq_true rfl) d_Se_narrow_22 (m_Mg_lowestOf e3) ?_
        show Z X M_Se_narrow 0 0 h1 25 [(0, .ref x0), (1, .ref x1), (3, .int x3), (4, .int x4), (5, .int x5)] [.int v4]
        refine z_istore (lv2 := [(6, .int v4), (0, .ref x0), (1, .ref x1), (3, .int x3), (4, .int x4), (5, .int x5)]) d_Se_narrow_25 (Nat.le_of_ble_eq_true rfl) rfl ?_
        refine z_iload 4 d_Se_narrow_27 rfl ?_
        refine z_iload 4 d_Se_narrow_29 rfl ?_
        refine z_iconst (v := (1 : Int32)) d_Se_narrow_31 (by decide) ?_
        refine z_isub d_Se_narrow_32 ?_
        refine z_iand d_Se_narrow_33 ?_
        refine z_istore (lv2 := [(4, .int (x4 &&& (x4 - (1 : Int32)))), (6, .int v4), (0, .ref x0), (1, .ref x1), (3, .int x3), (5, .int x5)]) d_Se_narrow_34 (Nat.le_of_ble_eq_true rfl) rfl ?_
        refine z_aload_n 3 d_Se_narrow_36 rfl rfl ?_
        refine z_iload 1 d_Se_narrow_37 rfl ?_
        refine z_laload d_Se_narrow_39 E (fun v5 _ E => ?_)
        refine z_aload_n 3 d_Se_narrow_40 rfl rfl ?_
        refine z_iload 1 d_Se_narrow_41 rfl ?_
        refine z_laload d_Se_narrow_43 E (fun v6 _ E => ?_)
        refine z_lconst (v := (1 : Int64)) d_Se_narrow_44 (by decide) ?_
        refine z_lsub d_Se_narrow_45 ?_
        refine z_land d_Se_narrow_46 ?_
        refine z_lconst (v := (0 : Int64)) d_Se_narrow_47 (by decide) ?_
        refine z_lcmp d_Se_narrow_48 ?_
        refine z_if_ne (y := 0) (tgt := 56) d_Se_narrow_49 (by decide) E (fun E => ?_) (fun E => ?_)
        · refine z_iconst (v := (0 : Int32)) d_Se_narrow_56 (by decide) ?_
          refine z_lv [2, 3, 4, 0, 5, 1] rfl ?_
          exact (w_Se_narrow_b57 hQ ih) x0 x1 x3 (x4 &&& (x4 - (1 : Int32))) x5 v4 (0 : Int32) h1 E
        · refine z_iconst (v := (1 : Int32)) d_Se_narrow_52 (by decide) ?_
          refine z_goto (tgt := 57) d_Se_narrow_53 (by decide) ?_
          refine z_lv [2, 3, 4, 0, 5, 1] rfl ?_
          exact (w_Se_narrow_b57 hQ ih) x0 x1 x3 (x4 &&& (x4 - (1 : Int32))) x5 v4 (1 : Int32) h1 E
set_option maxRecDepth 100000 in
set_option maxHeartbeats 4000000 in
theorem w_Se_narrow_b0 {X : zX} {r : pR} {G : Nat} (hQ : zQ X r) : ∀ (x0 : Nat) (x1 : Nat) (x2 : Int32) (x3 : Int32) (h : pH), f_Se_narrow G x0 x1 x2 x3 h = some r → Z X M_Se_narrow 0 0 h 0 [(0, .ref x0), (1, .ref x1), (2, .int x2), (3, .int x3)] [] := by
  intro x0 x1 x2 x3 h E
  rw [f_Se_narrow_eq] at E
  refine z_iload_n 2 d_Se_narrow_0 rfl rfl ?_
  refine z_istore (lv2 := [(4, .int x2), (0, .ref x0), (1, .ref x1), (2, .int x2), (3, .int x3)]) d_Se_narrow_1 (Nat.le_of_ble_eq_true rfl) rfl ?_
  refine z_iconst (v := (0 : Int32)) d_Se_narrow_3 (by decide) ?_
  refine z_istore (lv2 := [(5, .int (0 : Int32)), (4, .int x2), (0, .ref x0), (1, .ref x1), (2, .int x2), (3, .int x3)]) d_Se_narrow_4 (Nat.le_of_ble_eq_true rfl) rfl ?_
  refine z_lv [2, 3, 5, 1, 0] rfl ?_
  exact (w_Se_narrow_b6 hQ G) x0 x1 x3 x2 (0 : Int32) h E
theorem m_Se_narrow {l : Launch} {G : Nat} {x0 : Nat} {x1 : Nat} {x2 : Int32} {x3 : Int32} {h : pH} {r : pR} (E : f_Se_narrow G x0 x1 x2 x3 h = some r) : zMet l y_Se_narrow M_Se_narrow 0 0 [.ref x0, .ref x1, .int x2, .int x3] h r :=
  zMet_of (by decide) rfl (Nat.le_of_ble_eq_true rfl) (fun p e s m args below meth c D0 cT => w_Se_narrow_b0 (X := (p, l, e, s, m, args, below, meth, c, D0, cT, h, _, 0, 0)) rfl x0 x1 x2 x3 h E)
def f_Se_copyChoices_b2 (G : Nat) : Nat → Nat → Int32 → Int32 → pH → Option pR
  | 0 => fun _ _ _ _ => none
  | F + 1 => fun x0 x1 x2 h => if (6 : Int32) ≤ x2 then (some (none, h)) else ((gR h x0 1 4).bind fun v1 => (aR h 3 v1 (x1 + (1 : Int32))).bind fun v2 => (gR h x0 1 4).bind fun v3 => (aR h 3 v3 x1).bind fun v4 => (aJ h v4 x2).bind fun v5 => (sJ h v2 x2 v5).bind fun h6 => (f_Se_copyChoices_b2 G F) x0 x1 (x2 + 1) h6)
theorem f_Se_copyChoices_b2_eq (G : Nat) (F : Nat) (x0 : Nat) (x1 : Int32) (x2 : Int32) (h : pH) : f_Se_copyChoices_b2 G (F + 1) x0 x1 x2 h = (if (6 : Int32) ≤ x2 then (some (none, h)) else ((gR h x0 1 4).bind fun v1 => (aR h 3 v1 (x1 + (1 : Int32))).bind fun v2 => (gR h x0 1 4).bind fun v3 => (aR h 3 v3 x1).bind fun v4 => (aJ h v4 x2).bind fun v5 => (sJ h v2 x2 v5).bind fun h6 => (f_Se_copyChoices_b2 G F) x0 x1 (x2 + 1) h6)) := rfl
def f_Se_copyChoices (G : Nat) (x0 : Nat) (x1 : Int32) (h : pH) : Option pR := (f_Se_copyChoices_b2 G G) x0 x1 (0 : Int32) h
theorem f_Se_copyChoices_eq (G : Nat) (x0 : Nat) (x1 : Int32) (h : pH) : f_Se_copyChoices G x0 x1 h = ((f_Se_copyChoices_b2 G G) x0 x1 (0 : Int32) h) := rfl
set_option maxRecDepth 100000 in
set_option maxHeartbeats 4000000 in
theorem w_Se_copyChoices_b2 {X : zX} {r : pR} {G : Nat} (hQ : zQ X r) : ∀ (F : Nat) (x0 : Nat) (x1 : Int32) (x2 : Int32) (h : pH), f_Se_copyChoices_b2 G F x0 x1 x2 h = some r → Z X M_Se_copyChoices 0 0 h 2 [(0, .ref x0), (1, .int x1), (2, .int x2)] [] := by
  intro F
  induction F with
  | zero => intro x0 x1 x2 h E; exact nomatch (show (none : Option pR) = some _ from E)
  | succ F ih =>
    intro x0 x1 x2 h E
    rw [f_Se_copyChoices_b2_eq] at E
    refine z_iload_n 2 d_Se_copyChoices_2 rfl rfl ?_
    refine z_bipush (v := (6 : Int32)) d_Se_copyChoices_3 (by decide) ?_
    refine z_ic_ge (tgt := 32) d_Se_copyChoices_5 (by decide) E (fun E => ?_) (fun E => ?_)
    · exact z_return hQ rfl z00 d_Se_copyChoices_32 E
    · refine z_aload_n 0 d_Se_copyChoices_8 rfl rfl ?_
      refine z_getR (ci := 1) (j := 4) rfl (by decide) zf_Se_32 d_Se_copyChoices_9 E (fun v1 _ E => ?_)
      refine z_iload_n 1 d_Se_copyChoices_12 rfl rfl ?_
      refine z_iconst (v := (1 : Int32)) d_Se_copyChoices_13 (by decide) ?_
      refine z_iadd d_Se_copyChoices_14 ?_
      refine z_aaload 3 (fun _ => rfl) rfl d_Se_copyChoices_15 E (fun v2 _ E => ?_)
      refine z_iload_n 2 d_Se_copyChoices_16 rfl rfl ?_
      refine z_aload_n 0 d_Se_copyChoices_17 rfl rfl ?_
      refine z_getR (ci := 1) (j := 4) rfl (by decide) zf_Se_32 d_Se_copyChoices_18 E (fun v3 _ E => ?_)
      refine z_iload_n 1 d_Se_copyChoices_21 rfl rfl ?_
      refine z_aaload 3 (fun _ => rfl) rfl d_Se_copyChoices_22 E (fun v4 _ E => ?_)
      refine z_iload_n 2 d_Se_copyChoices_23 rfl rfl ?_
      refine z_laload d_Se_copyChoices_24 E (fun v5 _ E => ?_)
      refine z_lastore d_Se_copyChoices_25 E (fun h6 _ E => ?_)
      refine z_iinc (v := (x2 + 1)) (lv2 := [(2, .int (x2 + 1)), (0, .ref x0), (1, .int x1)]) 2 d_Se_copyChoices_26 rfl rfl (Nat.le_of_ble_eq_true rfl) rfl ?_
      refine z_goto (tgt := 2) d_Se_copyChoices_29 (by decide) ?_
      refine z_lv [1, 2, 0] rfl ?_
      exact ih x0 x1 (x2 + 1) h6 E
set_option maxRecDepth 100000 in
set_option maxHeartbeats 4000000 in
theorem w_Se_copyChoices_b0 {X : zX} {r : pR} {G : Nat} (hQ : zQ X r) : ∀ (x0 : Nat) (x1 : Int32) (h : pH), f_Se_copyChoices G x0 x1 h = some r → Z X M_Se_copyChoices 0 0 h 0 [(0, .ref x0), (1, .int x1)] [] := by
  intro x0 x1 h E
  rw [f_Se_copyChoices_eq] at E
  refine z_iconst (v := (0 : Int32)) d_Se_copyChoices_0 (by decide) ?_
  refine z_istore_n (lv2 := [(2, .int (0 : Int32)), (0, .ref x0), (1, .int x1)]) d_Se_copyChoices_1 rfl (Nat.le_of_ble_eq_true rfl) rfl ?_
  refine z_lv [1, 2, 0] rfl ?_
  exact (w_Se_copyChoices_b2 hQ G) x0 x1 (0 : Int32) h E
theorem m_Se_copyChoices {l : Launch} {G : Nat} {x0 : Nat} {x1 : Int32} {h : pH} {r : pR} (E : f_Se_copyChoices G x0 x1 h = some r) : zMet l y_Se_copyChoices M_Se_copyChoices 0 0 [.ref x0, .int x1] h r :=
  zMet_of (by decide) rfl (Nat.le_of_ble_eq_true rfl) (fun p e s m args below meth c D0 cT => w_Se_copyChoices_b0 (X := (p, l, e, s, m, args, below, meth, c, D0, cT, h, _, 0, 0)) rfl x0 x1 h E)
def f_Se_writeRow_b43 (G : Nat) (k2 : Nat → Int32 → pH → Option pR) (x0 : Nat) (x1 : Int32) (s0 : Nat) (s1 : Int32) (s2 : Int32) (h : pH) : Option pR := (sI h s0 s1 s2).bind fun h12 => k2 x0 (x1 + 1) h12
theorem f_Se_writeRow_b43_eq (G : Nat) (k2 : Nat → Int32 → pH → Option pR) (x0 : Nat) (x1 : Int32) (s0 : Nat) (s1 : Int32) (s2 : Int32) (h : pH) : f_Se_writeRow_b43 G k2 x0 x1 s0 s1 s2 h = ((sI h s0 s1 s2).bind fun h12 => k2 x0 (x1 + 1) h12) := rfl
def f_Se_writeRow_b2 (G : Nat) : Nat → Nat → Int32 → pH → Option pR
  | 0 => fun _ _ _ => none
  | F + 1 => fun x0 x1 h => if (6 : Int32) ≤ x1 then (some (none, h)) else ((gR h x0 1 7).bind fun v1 => (gR h x0 1 4).bind fun v2 => (aR h 3 v2 (6 : Int32)).bind fun v3 => (aJ h v3 x1).bind fun v4 => if (lg_cmp v4 (0 : Int64)) = 0 then ((f_Se_writeRow_b43 G (f_Se_writeRow_b2 G F)) x0 x1 v1 x1 (-1 : Int32) h) else ((gR h x0 1 4).bind fun v5 => (aR h 3 v5 (6 : Int32)).bind fun v6 => (aJ h v6 x1).bind fun v7 => cI true (f_Mg_lowestOf G v7 h) fun v11 h8 => (f_Se_writeRow_b43 G (f_Se_writeRow_b2 G F)) x0 x1 v1 x1 v11 h8))
theorem f_Se_writeRow_b2_eq (G : Nat) (F : Nat) (x0 : Nat) (x1 : Int32) (h : pH) : f_Se_writeRow_b2 G (F + 1) x0 x1 h = (if (6 : Int32) ≤ x1 then (some (none, h)) else ((gR h x0 1 7).bind fun v1 => (gR h x0 1 4).bind fun v2 => (aR h 3 v2 (6 : Int32)).bind fun v3 => (aJ h v3 x1).bind fun v4 => if (lg_cmp v4 (0 : Int64)) = 0 then ((f_Se_writeRow_b43 G (f_Se_writeRow_b2 G F)) x0 x1 v1 x1 (-1 : Int32) h) else ((gR h x0 1 4).bind fun v5 => (aR h 3 v5 (6 : Int32)).bind fun v6 => (aJ h v6 x1).bind fun v7 => cI true (f_Mg_lowestOf G v7 h) fun v11 h8 => (f_Se_writeRow_b43 G (f_Se_writeRow_b2 G F)) x0 x1 v1 x1 v11 h8))) := rfl
def f_Se_writeRow (G : Nat) (x0 : Nat) (h : pH) : Option pR := (f_Se_writeRow_b2 G G) x0 (0 : Int32) h
theorem f_Se_writeRow_eq (G : Nat) (x0 : Nat) (h : pH) : f_Se_writeRow G x0 h = ((f_Se_writeRow_b2 G G) x0 (0 : Int32) h) := rfl
set_option maxRecDepth 100000 in
set_option maxHeartbeats 4000000 in
theorem w_Se_writeRow_b43 {X : zX} {r : pR} {G : Nat} {k2 : Nat → Int32 → pH → Option pR} (hQ : zQ X r) (hk2 : ∀ (x0 : Nat) (x1 : Int32) (h : pH), k2 x0 x1 h = some r → Z X M_Se_writeRow 0 0 h 2 [(0, .ref x0), (1, .int x1)] []) : ∀ (x0 : Nat) (x1 : Int32) (s0 : Nat) (s1 : Int32) (s2 : Int32) (h : pH), f_Se_writeRow_b43 G k2 x0 x1 s0 s1 s2 h = some r → Z X M_Se_writeRow 0 0 h 43 [(0, .ref x0), (1, .int x1)] [.int s2, .int s1, .ref s0] := by
  intro x0 x1 s0 s1 s2 h E
  rw [f_Se_writeRow_b43_eq] at E
  refine z_iastore d_Se_writeRow_43 E (fun h12 _ E => ?_)
  refine z_iinc (v := (x1 + 1)) (lv2 := [(1, .int (x1 + 1)), (0, .ref x0)]) 1 d_Se_writeRow_44 rfl rfl (Nat.le_of_ble_eq_true rfl) rfl ?_
  refine z_goto (tgt := 2) d_Se_writeRow_47 (by decide) ?_
  refine z_lv [1, 0] rfl ?_
  exact hk2 x0 (x1 + 1) h12 E
set_option maxRecDepth 100000 in
set_option maxHeartbeats 4000000 in
theorem w_Se_writeRow_b2 {X : zX} {r : pR} {G : Nat} (hQ : zQ X r) : ∀ (F : Nat) (x0 : Nat) (x1 : Int32) (h : pH), f_Se_writeRow_b2 G F x0 x1 h = some r → Z X M_Se_writeRow 0 0 h 2 [(0, .ref x0), (1, .int x1)] [] := by
  intro F
  induction F with
  | zero => intro x0 x1 h E; exact nomatch (show (none : Option pR) = some _ from E)
  | succ F ih =>
    intro x0 x1 h E
    rw [f_Se_writeRow_b2_eq] at E
    refine z_iload_n 1 d_Se_writeRow_2 rfl rfl ?_
    refine z_bipush (v := (6 : Int32)) d_Se_writeRow_3 (by decide) ?_
    refine z_ic_ge (tgt := 50) d_Se_writeRow_5 (by decide) E (fun E => ?_) (fun E => ?_)
    · exact z_return hQ rfl z00 d_Se_writeRow_50 E
    · refine z_aload_n 0 d_Se_writeRow_8 rfl rfl ?_
      refine z_getR (ci := 1) (j := 7) rfl (by decide) zf_Se_42 d_Se_writeRow_9 E (fun v1 _ E => ?_)
      refine z_iload_n 1 d_Se_writeRow_12 rfl rfl ?_
      refine z_aload_n 0 d_Se_writeRow_13 rfl rfl ?_
      refine z_getR (ci := 1) (j := 4) rfl (by decide) zf_Se_32 d_Se_writeRow_14 E (fun v2 _ E => ?_)
      refine z_bipush (v := (6 : Int32)) d_Se_writeRow_17 (by decide) ?_
      refine z_aaload 3 (fun _ => rfl) rfl d_Se_writeRow_19 E (fun v3 _ E => ?_)
      refine z_iload_n 1 d_Se_writeRow_20 rfl rfl ?_
      refine z_laload d_Se_writeRow_21 E (fun v4 _ E => ?_)
      refine z_lconst (v := (0 : Int64)) d_Se_writeRow_22 (by decide) ?_
      refine z_lcmp d_Se_writeRow_23 ?_
      refine z_if_ne (y := 0) (tgt := 31) d_Se_writeRow_24 (by decide) E (fun E => ?_) (fun E => ?_)
      · refine z_aload_n 0 d_Se_writeRow_31 rfl rfl ?_
        refine z_getR (ci := 1) (j := 4) rfl (by decide) zf_Se_32 d_Se_writeRow_32 E (fun v5 _ E => ?_)
        refine z_bipush (v := (6 : Int32)) d_Se_writeRow_35 (by decide) ?_
        refine z_aaload 3 (fun _ => rfl) rfl d_Se_writeRow_37 E (fun v6 _ E => ?_)
        refine z_iload_n 1 d_Se_writeRow_38 rfl rfl ?_
        refine z_laload d_Se_writeRow_39 E (fun v7 _ E => ?_)
        obtain ⟨g9, v11, h8, e10, E⟩ := cI_some E
        refine z_invSN (y := y_Mg_lowestOf) (Mc := M_Mg_lowestOf) (av := [.long v7]) (rest := [.int x1, .ref v1]) ⟨(List.mem_of_getElem? (i := 12) rfl), zt_412, zt_47⟩ zk_Mg_lowestOf zy_Mg_lowestOf (by decide) (Nat.le_of_ble_eq_true rfl) z00 rfl (Nat.le_of_ble_eq_true rfl) d_Se_writeRow_40 (m_Mg_lowestOf e10) ?_
        show Z X M_Se_writeRow 0 0 h8 43 [(0, .ref x0), (1, .int x1)] [.int v11, .int x1, .ref v1]
        exact (w_Se_writeRow_b43 hQ ih) x0 x1 v1 x1 v11 h8 E
      · refine z_iconst (v := (-1 : Int32)) d_Se_writeRow_27 (by decide) ?_
        refine z_goto (tgt := 43) d_Se_writeRow_28 (by decide) ?_
        exact (w_Se_writeRow_b43 hQ ih) x0 x1 v1 x1 (-1 : Int32) h E
set_option maxRecDepth 100000 in
set_option maxHeartbeats 4000000 in
theorem w_Se_writeRow_b0 {X : zX} {r : pR} {G : Nat} (hQ : zQ X r) : ∀ (x0 : Nat) (h : pH), f_Se_writeRow G x0 h = some r → Z X M_Se_writeRow 0 0 h 0 [(0, .ref x0)] [] := by
  intro x0 h E
  rw [f_Se_writeRow_eq] at E
  refine z_iconst (v := (0 : Int32)) d_Se_writeRow_0 (by decide) ?_
  refine z_istore_n (lv2 := [(1, .int (0 : Int32)), (0, .ref x0)]) d_Se_writeRow_1 rfl (Nat.le_of_ble_eq_true rfl) rfl ?_
  refine z_lv [1, 0] rfl ?_
  exact (w_Se_writeRow_b2 hQ G) x0 (0 : Int32) h E
theorem m_Se_writeRow {l : Launch} {G : Nat} {x0 : Nat} {h : pH} {r : pR} (E : f_Se_writeRow G x0 h = some r) : zMet l y_Se_writeRow M_Se_writeRow 0 0 [.ref x0] h r :=
  zMet_of (by decide) rfl (Nat.le_of_ble_eq_true rfl) (fun p e s m args below meth c D0 cT => w_Se_writeRow_b0 (X := (p, l, e, s, m, args, below, meth, c, D0, cT, h, _, 0, 0)) rfl x0 h E)
def f_Se_settle_b110 (G : Nat) (rec : Nat → Int32 → pH → Option pR) (k46 : Nat → Int32 → Int64 → Int32 → pH → Option pR) (x0 : Nat) (x1 : Int32) (x2 : Int64) (x4 : Int32) (h : pH) : Option pR := k46 x0 x1 x2 (x4 + (-1)) h
theorem f_Se_settle_b110_eq (G : Nat) (rec : Nat → Int32 → pH → Option pR) (k46 : Nat → Int32 → Int64 → Int32 → pH → Option pR) (x0 : Nat) (x1 : Int32) (x2 : Int64) (x4 : Int32) (h : pH) : f_Se_settle_b110 G rec k46 x0 x1 x2 x4 h = (k46 x0 x1 x2 (x4 + (-1)) h) := rfl
def f_Se_settle_b46 (G : Nat) (rec : Nat → Int32 → pH → Option pR) : Nat → Nat → Int32 → Int64 → Int32 → pH → Option pR
  | 0 => fun _ _ _ _ _ => none
  | F + 1 => fun x0 x1 x2 x4 h => if x4 ≤ 0 then ((if isZ (0 : Int32) = true then some (some (.int (0 : Int32)), h) else none)) else (cV (oC h x0 1) (f_Se_copyChoices G x0 x1 h) fun h18 => (gR h18 x0 1 4).bind fun v21 => (aR h18 3 v21 (x1 + (1 : Int32))).bind fun v22 => (sJ h18 v22 x1 (x2 &&& (-x2))).bind fun h23 => (gR h23 x0 1 4).bind fun v24 => (aR h23 3 v24 (x1 + (1 : Int32))).bind fun v25 => cI (oC h23 x0 1) (f_Se_narrow G x0 v25 ((1 : Int32) <<< (x1 &&& 31)) (0 : Int32) h23) fun v29 h26 => if v29 = 0 then ((f_Se_settle_b110 G rec (f_Se_settle_b46 G rec F)) x0 x1 (x2 ^^^ (x2 &&& (-x2))) x4 h26) else (cI (oC h26 x0 1) (rec x0 (x1 + (1 : Int32)) h26) fun v33 h30 => if v33 = 0 then ((f_Se_settle_b110 G rec (f_Se_settle_b46 G rec F)) x0 x1 (x2 ^^^ (x2 &&& (-x2))) x4 h30) else ((if isZ (1 : Int32) = true then some (some (.int (1 : Int32)), h30) else none))))
theorem f_Se_settle_b46_eq (G : Nat) (rec : Nat → Int32 → pH → Option pR) (F : Nat) (x0 : Nat) (x1 : Int32) (x2 : Int64) (x4 : Int32) (h : pH) : f_Se_settle_b46 G rec (F + 1) x0 x1 x2 x4 h = (if x4 ≤ 0 then ((if isZ (0 : Int32) = true then some (some (.int (0 : Int32)), h) else none)) else (cV (oC h x0 1) (f_Se_copyChoices G x0 x1 h) fun h18 => (gR h18 x0 1 4).bind fun v21 => (aR h18 3 v21 (x1 + (1 : Int32))).bind fun v22 => (sJ h18 v22 x1 (x2 &&& (-x2))).bind fun h23 => (gR h23 x0 1 4).bind fun v24 => (aR h23 3 v24 (x1 + (1 : Int32))).bind fun v25 => cI (oC h23 x0 1) (f_Se_narrow G x0 v25 ((1 : Int32) <<< (x1 &&& 31)) (0 : Int32) h23) fun v29 h26 => if v29 = 0 then ((f_Se_settle_b110 G rec (f_Se_settle_b46 G rec F)) x0 x1 (x2 ^^^ (x2 &&& (-x2))) x4 h26) else (cI (oC h26 x0 1) (rec x0 (x1 + (1 : Int32)) h26) fun v33 h30 => if v33 = 0 then ((f_Se_settle_b110 G rec (f_Se_settle_b46 G rec F)) x0 x1 (x2 ^^^ (x2 &&& (-x2))) x4 h30) else ((if isZ (1 : Int32) = true then some (some (.int (1 : Int32)), h30) else none))))) := rfl
def f_Se_settle_rec (G : Nat) (rec : Nat → Int32 → pH → Option pR) (x0 : Nat) (x1 : Int32) (h : pH) : Option pR := if x1 < (6 : Int32) then ((gR h x0 1 4).bind fun v1 => (aR h 3 v1 x1).bind fun v2 => (aJ h v2 x1).bind fun v3 => if (lg_cmp v3 (0 : Int64)) = 0 then (cV (oC h x0 1) (f_Se_copyChoices G x0 x1 h) fun h8 => cI (oC h8 x0 1) (rec x0 (x1 + (1 : Int32)) h8) fun v14 h11 => (if isZ v14 = true then some (some (.int v14), h11) else none)) else (cI true (f_Lo_bitCount G v3 h) fun v7 h4 => (f_Se_settle_b46 G rec G) x0 x1 v3 v7 h4)) else (cV (oC h x0 1) (f_Se_writeRow G x0 h) fun h15 => (if isZ (1 : Int32) = true then some (some (.int (1 : Int32)), h15) else none))
theorem f_Se_settle_rec_eq (G : Nat) (rec : Nat → Int32 → pH → Option pR) (x0 : Nat) (x1 : Int32) (h : pH) : f_Se_settle_rec G rec x0 x1 h = (if x1 < (6 : Int32) then ((gR h x0 1 4).bind fun v1 => (aR h 3 v1 x1).bind fun v2 => (aJ h v2 x1).bind fun v3 => if (lg_cmp v3 (0 : Int64)) = 0 then (cV (oC h x0 1) (f_Se_copyChoices G x0 x1 h) fun h8 => cI (oC h8 x0 1) (rec x0 (x1 + (1 : Int32)) h8) fun v14 h11 => (if isZ v14 = true then some (some (.int v14), h11) else none)) else (cI true (f_Lo_bitCount G v3 h) fun v7 h4 => (f_Se_settle_b46 G rec G) x0 x1 v3 v7 h4)) else (cV (oC h x0 1) (f_Se_writeRow G x0 h) fun h15 => (if isZ (1 : Int32) = true then some (some (.int (1 : Int32)), h15) else none))) := rfl
def f_Se_settle (G : Nat) : Nat → Nat → Int32 → pH → Option pR
  | 0 => fun _ _ _ => none
  | D + 1 => f_Se_settle_rec G (f_Se_settle G D)
theorem f_Se_settle_eq (G D : Nat) : f_Se_settle G (D + 1) = f_Se_settle_rec G (f_Se_settle G D) := rfl
set_option maxRecDepth 100000 in
set_option maxHeartbeats 4000000 in
theorem w_Se_settle_b110 {X : zX} {r : pR} {G : Nat} {rec : Nat → Int32 → pH → Option pR} {D : Nat} {k46 : Nat → Int32 → Int64 → Int32 → pH → Option pR} (hQ : zQ X r) (hrec : ∀ {x0 : Nat} {x1 : Int32} {h : pH} {r : pR}, rec x0 x1 h = some r → zMet (zl X) y_Se_settle (M_Se_settle D) 0 0 [.ref x0, .int x1] h r) (hk46 : ∀ (x0 : Nat) (x1 : Int32) (x2 : Int64) (x4 : Int32) (h : pH), k46 x0 x1 x2 x4 h = some r → Z X (M_Se_settle (D + 1)) 0 0 h 46 [(0, .ref x0), (1, .int x1), (2, .long x2), (4, .int x4)] []) : ∀ (x0 : Nat) (x1 : Int32) (x2 : Int64) (x4 : Int32) (h : pH), f_Se_settle_b110 G rec k46 x0 x1 x2 x4 h = some r → Z X (M_Se_settle (D + 1)) 0 0 h 110 [(0, .ref x0), (1, .int x1), (2, .long x2), (4, .int x4)] [] := by
  intro x0 x1 x2 x4 h E
  rw [f_Se_settle_b110_eq] at E
  refine z_iinc (v := (x4 + (-1))) (lv2 := [(4, .int (x4 + (-1))), (0, .ref x0), (1, .int x1), (2, .long x2)]) 3 d_Se_settle_110 rfl rfl (Nat.le_of_ble_eq_true rfl) rfl ?_
  refine z_goto (tgt := 46) d_Se_settle_113 (by decide) ?_
  refine z_lv [1, 2, 3, 0] rfl ?_
  exact hk46 x0 x1 x2 (x4 + (-1)) h E
set_option maxRecDepth 100000 in
set_option maxHeartbeats 4000000 in
theorem w_Se_settle_b46 {X : zX} {r : pR} {G : Nat} {rec : Nat → Int32 → pH → Option pR} {D : Nat} (hQ : zQ X r) (hrec : ∀ {x0 : Nat} {x1 : Int32} {h : pH} {r : pR}, rec x0 x1 h = some r → zMet (zl X) y_Se_settle (M_Se_settle D) 0 0 [.ref x0, .int x1] h r) : ∀ (F : Nat) (x0 : Nat) (x1 : Int32) (x2 : Int64) (x4 : Int32) (h : pH), f_Se_settle_b46 G rec F x0 x1 x2 x4 h = some r → Z X (M_Se_settle (D + 1)) 0 0 h 46 [(0, .ref x0), (1, .int x1), (2, .long x2), (4, .int x4)] [] := by
  intro F
  induction F with
  | zero => intro x0 x1 x2 x4 h E; exact nomatch (show (none : Option pR) = some _ from E)
  | succ F ih =>
    intro x0 x1 x2 x4 h E
    rw [f_Se_settle_b46_eq] at E
    refine z_iload 3 d_Se_settle_46 rfl ?_
    refine z_if_le (y := 0) (tgt := 116) d_Se_settle_48 (by decide) E (fun E => ?_) (fun E => ?_)
    · refine z_iconst (v := (0 : Int32)) d_Se_settle_116 (by decide) ?_
      exact z_zreturn hQ rfl z00 d_Se_settle_117 E
    · refine z_lload_n 2 d_Se_settle_51 rfl rfl ?_
      refine z_lload_n 2 d_Se_settle_52 rfl rfl ?_
      refine z_lneg d_Se_settle_53 ?_
      refine z_land d_Se_settle_54 ?_
      refine z_lstore (lv2 := [(5, .long (x2 &&& (-x2))), (0, .ref x0), (1, .int x1), (2, .long x2), (4, .int x4)]) d_Se_settle_55 (Nat.le_of_ble_eq_true rfl) rfl ?_
      refine z_lload_n 3 d_Se_settle_57 rfl rfl ?_
      refine z_lload 0 d_Se_settle_58 rfl ?_
      refine z_lxor d_Se_settle_60 ?_
      refine z_lstore_n (lv2 := [(2, .long (x2 ^^^ (x2 &&& (-x2)))), (5, .long (x2 &&& (-x2))), (0, .ref x0), (1, .int x1), (4, .int x4)]) d_Se_settle_61 rfl (Nat.le_of_ble_eq_true rfl) rfl ?_
      refine z_aload_n 2 d_Se_settle_62 rfl rfl ?_
      refine z_iload_n 3 d_Se_settle_63 rfl rfl ?_
      obtain ⟨g19, h18, e20, E⟩ := cV_some E
      refine z_invV (ci := 1) (y := y_Se_copyChoices) (Mc := M_Se_copyChoices) (av := [.int x1]) (rest := []) rfl rfl ⟨zt_437, zt_439, zt_12, zt_49⟩ zk_Se_copyChoices zy_Se_copyChoices (Nat.lt_of_lt_of_le (show (0 : Nat) < 4 by decide) (Nat.le_add_right _ _)) (Nat.le_of_ble_eq_true rfl) z00 rfl (Nat.le_of_ble_eq_true rfl) d_Se_settle_64 g19 (m_Se_copyChoices e20) ?_
      show Z X (M_Se_settle (D + 1)) 0 0 h18 67 [(2, .long (x2 ^^^ (x2 &&& (-x2)))), (5, .long (x2 &&& (-x2))), (0, .ref x0), (1, .int x1), (4, .int x4)] []
      refine z_aload_n 2 d_Se_settle_67 rfl rfl ?_
      refine z_getR (ci := 1) (j := 4) rfl (by decide) zf_Se_32 d_Se_settle_68 E (fun v21 _ E => ?_)
      refine z_iload_n 3 d_Se_settle_71 rfl rfl ?_
      refine z_iconst (v := (1 : Int32)) d_Se_settle_72 (by decide) ?_
      refine z_iadd d_Se_settle_73 ?_
      refine z_aaload 3 (fun _ => rfl) rfl d_Se_settle_74 E (fun v22 _ E => ?_)
      refine z_iload_n 3 d_Se_settle_75 rfl rfl ?_
      refine z_lload 1 d_Se_settle_76 rfl ?_
      refine z_lastore d_Se_settle_78 E (fun h23 _ E => ?_)
      refine z_aload_n 2 d_Se_settle_79 rfl rfl ?_
      refine z_aload_n 2 d_Se_settle_80 rfl rfl ?_
      refine z_getR (ci := 1) (j := 4) rfl (by decide) zf_Se_32 d_Se_settle_81 E (fun v24 _ E => ?_)
      refine z_iload_n 3 d_Se_settle_84 rfl rfl ?_
      refine z_iconst (v := (1 : Int32)) d_Se_settle_85 (by decide) ?_
      refine z_iadd d_Se_settle_86 ?_
      refine z_aaload 3 (fun _ => rfl) rfl d_Se_settle_87 E (fun v25 _ E => ?_)
      refine z_iconst (v := (1 : Int32)) d_Se_settle_88 (by decide) ?_
      refine z_iload_n 3 d_Se_settle_89 rfl rfl ?_
      refine z_ishl d_Se_settle_90 ?_
      refine z_iconst (v := (0 : Int32)) d_Se_settle_91 (by decide) ?_
      obtain ⟨g27, v29, h26, e28, E⟩ := cI_some E
      refine z_invV (ci := 1) (y := y_Se_narrow) (Mc := M_Se_narrow) (av := [.ref v25, .int ((1 : Int32) <<< (x1 &&& 31)), .int (0 : Int32)]) (rest := []) rfl rfl ⟨zt_407, zt_409, zt_8, zt_49⟩ zk_Se_narrow zy_Se_narrow (Nat.lt_of_lt_of_le (show (3 : Nat) < 4 by decide) (Nat.le_add_right _ _)) (Nat.le_of_ble_eq_true rfl) z00 rfl (Nat.le_of_ble_eq_true rfl) d_Se_settle_92 g27 (m_Se_narrow e28) ?_
      show Z X (M_Se_settle (D + 1)) 0 0 h26 95 [(2, .long (x2 ^^^ (x2 &&& (-x2)))), (5, .long (x2 &&& (-x2))), (0, .ref x0), (1, .int x1), (4, .int x4)] [.int v29]
      refine z_if_eq (y := 0) (tgt := 110) d_Se_settle_95 (by decide) E (fun E => ?_) (fun E => ?_)
      · refine z_lv [2, 3, 0, 4] rfl ?_
        exact (w_Se_settle_b110 hQ hrec ih) x0 x1 (x2 ^^^ (x2 &&& (-x2))) x4 h26 E
      · refine z_aload_n 2 d_Se_settle_98 rfl rfl ?_
        refine z_iload_n 3 d_Se_settle_99 rfl rfl ?_
        refine z_iconst (v := (1 : Int32)) d_Se_settle_100 (by decide) ?_
        refine z_iadd d_Se_settle_101 ?_
        obtain ⟨g31, v33, h30, e32, E⟩ := cI_some E
        refine z_invV (ci := 1) (y := y_Se_settle) (Mc := (M_Se_settle D)) (av := [.int (x1 + (1 : Int32))]) (rest := []) rfl rfl ⟨zt_429, zt_431, zt_10, zt_49⟩ (zk_Se_settle _) zy_Se_settle (Nat.lt_succ_self _) (Nat.le_of_ble_eq_true rfl) z00 rfl (Nat.le_of_ble_eq_true rfl) d_Se_settle_102 g31 (hrec e32) ?_
        show Z X (M_Se_settle (D + 1)) 0 0 h30 105 [(2, .long (x2 ^^^ (x2 &&& (-x2)))), (5, .long (x2 &&& (-x2))), (0, .ref x0), (1, .int x1), (4, .int x4)] [.int v33]
        refine z_if_eq (y := 0) (tgt := 110) d_Se_settle_105 (by decide) E (fun E => ?_) (fun E => ?_)
        · refine z_lv [2, 3, 0, 4] rfl ?_
          exact (w_Se_settle_b110 hQ hrec ih) x0 x1 (x2 ^^^ (x2 &&& (-x2))) x4 h30 E
        · refine z_iconst (v := (1 : Int32)) d_Se_settle_108 (by decide) ?_
          exact z_zreturn hQ rfl z00 d_Se_settle_109 E
set_option maxRecDepth 100000 in
set_option maxHeartbeats 4000000 in
theorem w_Se_settle_b0 {X : zX} {r : pR} {G : Nat} {rec : Nat → Int32 → pH → Option pR} {D : Nat} (hQ : zQ X r) (hrec : ∀ {x0 : Nat} {x1 : Int32} {h : pH} {r : pR}, rec x0 x1 h = some r → zMet (zl X) y_Se_settle (M_Se_settle D) 0 0 [.ref x0, .int x1] h r) : ∀ (x0 : Nat) (x1 : Int32) (h : pH), f_Se_settle_rec G rec x0 x1 h = some r → Z X (M_Se_settle (D + 1)) 0 0 h 0 [(0, .ref x0), (1, .int x1)] [] := by
  intro x0 x1 h E
  rw [f_Se_settle_rec_eq] at E
  refine z_iload_n 1 d_Se_settle_0 rfl rfl ?_
  refine z_bipush (v := (6 : Int32)) d_Se_settle_1 (by decide) ?_
  refine z_ic_lt (tgt := 12) d_Se_settle_3 (by decide) E (fun E => ?_) (fun E => ?_)
  · refine z_aload_n 0 d_Se_settle_12 rfl rfl ?_
    refine z_getR (ci := 1) (j := 4) rfl (by decide) zf_Se_32 d_Se_settle_13 E (fun v1 _ E => ?_)
    refine z_iload_n 1 d_Se_settle_16 rfl rfl ?_
    refine z_aaload 3 (fun _ => rfl) rfl d_Se_settle_17 E (fun v2 _ E => ?_)
    refine z_iload_n 1 d_Se_settle_18 rfl rfl ?_
    refine z_laload d_Se_settle_19 E (fun v3 _ E => ?_)
    refine z_lstore_n (lv2 := [(2, .long v3), (0, .ref x0), (1, .int x1)]) d_Se_settle_20 rfl (Nat.le_of_ble_eq_true rfl) rfl ?_
    refine z_lload_n 0 d_Se_settle_21 rfl rfl ?_
    refine z_lconst (v := (0 : Int64)) d_Se_settle_22 (by decide) ?_
    refine z_lcmp d_Se_settle_23 ?_
    refine z_if_ne (y := 0) (tgt := 40) d_Se_settle_24 (by decide) E (fun E => ?_) (fun E => ?_)
    · refine z_lload_n 0 d_Se_settle_40 rfl rfl ?_
      obtain ⟨g5, v7, h4, e6, E⟩ := cI_some E
      refine z_invS (y := y_Lo_bitCount) (Mc := M_Lo_bitCount) (av := [.long v3]) (rest := []) ⟨zt_421, zt_336, zt_57⟩ zk_Lo_bitCount zy_Lo_bitCount (Nat.lt_of_lt_of_le (show (0 : Nat) < 4 by decide) (Nat.le_add_right _ _)) (Nat.le_of_ble_eq_true rfl) z00 rfl (Nat.le_of_ble_eq_true rfl) d_Se_settle_41 (m_Lo_bitCount e6) ?_
      show Z X (M_Se_settle (D + 1)) 0 0 h4 44 [(2, .long v3), (0, .ref x0), (1, .int x1)] [.int v7]
      refine z_istore (lv2 := [(4, .int v7), (2, .long v3), (0, .ref x0), (1, .int x1)]) d_Se_settle_44 (Nat.le_of_ble_eq_true rfl) rfl ?_
      refine z_lv [2, 3, 1, 0] rfl ?_
      exact (w_Se_settle_b46 hQ hrec G) x0 x1 v3 v7 h4 E
    · refine z_aload_n 1 d_Se_settle_27 rfl rfl ?_
      refine z_iload_n 2 d_Se_settle_28 rfl rfl ?_
      obtain ⟨g9, h8, e10, E⟩ := cV_some E
      refine z_invV (ci := 1) (y := y_Se_copyChoices) (Mc := M_Se_copyChoices) (av := [.int x1]) (rest := []) rfl rfl ⟨zt_437, zt_439, zt_12, zt_49⟩ zk_Se_copyChoices zy_Se_copyChoices (Nat.lt_of_lt_of_le (show (0 : Nat) < 4 by decide) (Nat.le_add_right _ _)) (Nat.le_of_ble_eq_true rfl) z00 rfl (Nat.le_of_ble_eq_true rfl) d_Se_settle_29 g9 (m_Se_copyChoices e10) ?_
      show Z X (M_Se_settle (D + 1)) 0 0 h8 32 [(2, .long v3), (0, .ref x0), (1, .int x1)] []
      refine z_aload_n 1 d_Se_settle_32 rfl rfl ?_
      refine z_iload_n 2 d_Se_settle_33 rfl rfl ?_
      refine z_iconst (v := (1 : Int32)) d_Se_settle_34 (by decide) ?_
      refine z_iadd d_Se_settle_35 ?_
      obtain ⟨g12, v14, h11, e13, E⟩ := cI_some E
      refine z_invV (ci := 1) (y := y_Se_settle) (Mc := (M_Se_settle D)) (av := [.int (x1 + (1 : Int32))]) (rest := []) rfl rfl ⟨zt_429, zt_431, zt_10, zt_49⟩ (zk_Se_settle _) zy_Se_settle (Nat.lt_succ_self _) (Nat.le_of_ble_eq_true rfl) z00 rfl (Nat.le_of_ble_eq_true rfl) d_Se_settle_36 g12 (hrec e13) ?_
      show Z X (M_Se_settle (D + 1)) 0 0 h11 39 [(2, .long v3), (0, .ref x0), (1, .int x1)] [.int v14]
      exact z_zreturn hQ rfl z00 d_Se_settle_39 E
  · refine z_aload_n 0 d_Se_settle_6 rfl rfl ?_
    obtain ⟨g16, h15, e17, E⟩ := cV_some E
    refine z_invV (ci := 1) (y := y_Se_writeRow) (Mc := M_Se_writeRow) (av := []) (rest := []) rfl rfl ⟨zt_433, zt_435, zt_11, zt_49⟩ zk_Se_writeRow zy_Se_writeRow (Nat.lt_of_lt_of_le (show (2 : Nat) < 4 by decide) (Nat.le_add_right _ _)) (Nat.le_of_ble_eq_true rfl) z00 rfl (Nat.le_of_ble_eq_true rfl) d_Se_settle_7 g16 (m_Se_writeRow e17) ?_
    show Z X (M_Se_settle (D + 1)) 0 0 h15 10 [(0, .ref x0), (1, .int x1)] []
    refine z_iconst (v := (1 : Int32)) d_Se_settle_10 (by decide) ?_
    exact z_zreturn hQ rfl z00 d_Se_settle_11 E
theorem m_Se_settle {l : Launch} {G : Nat} : ∀ {D : Nat} {x0 : Nat} {x1 : Int32} {h : pH} {r : pR}, f_Se_settle G D x0 x1 h = some r → zMet l y_Se_settle (M_Se_settle D) 0 0 [.ref x0, .int x1] h r := by
  intro D
  induction D with
  | zero => intro x0 x1 h r E; exact nomatch (show (none : Option pR) = some _ from E)
  | succ D ih =>
    intro x0 x1 h r E
    exact zMet_of (M := M_Se_settle (D + 1)) (by decide) rfl (Nat.le_of_ble_eq_true rfl) (fun p e s m args below meth c D0 cT => w_Se_settle_b0 (X := (p, l, e, s, m, args, below, meth, c, D0, cT, h, _, 0, 0)) (D := D) rfl (fun E => ih E) x0 x1 h E)
def f_Se_start_b62 (G : Nat) (k34 : Nat → Int64 → Nat → Int64 → Int32 → pH → Option pR) (x0 : Nat) (x1 : Int64) (x3 : Nat) (x4 : Int64) (x6 : Int32) (s0 : Nat) (s1 : Int32) (s2 : Int64) (h : pH) : Option pR := (sJ h s0 s1 s2).bind fun h31 => k34 x0 x1 x3 x4 (x6 + 1) h31
theorem f_Se_start_b62_eq (G : Nat) (k34 : Nat → Int64 → Nat → Int64 → Int32 → pH → Option pR) (x0 : Nat) (x1 : Int64) (x3 : Nat) (x4 : Int64) (x6 : Int32) (s0 : Nat) (s1 : Int32) (s2 : Int64) (h : pH) : f_Se_start_b62 G k34 x0 x1 x3 x4 x6 s0 s1 s2 h = ((sJ h s0 s1 s2).bind fun h31 => k34 x0 x1 x3 x4 (x6 + 1) h31) := rfl
def f_Se_start_b77 (G : Nat) : Nat → Nat → Nat → Int32 → pH → Option pR
  | 0 => fun _ _ _ _ => none
  | F + 1 => fun x0 x3 x6 h => (gR h x0 1 0).bind fun v13 => cI (oC h v13 0) (f_Gr_count G v13 h) fun v17 h14 => if v17 ≤ x6 then (cI (oC h14 x0 1) (f_Se_narrow G x0 x3 (63 : Int32) (1 : Int32) h14) fun v21 h18 => (if isZ v21 = true then some (some (.int v21), h18) else none)) else ((gR h14 x0 1 0).bind fun v22 => cI (oC h14 v22 0) (f_Gr_at G v22 x6 h14) fun v26 h23 => cI (oC h23 x0 1) (f_Se_takeIn G x0 x3 v26 h23) fun v30 h27 => if v30 = 0 then ((if isZ (0 : Int32) = true then some (some (.int (0 : Int32)), h27) else none)) else ((f_Se_start_b77 G F) x0 x3 (x6 + 1) h27))
theorem f_Se_start_b77_eq (G : Nat) (F : Nat) (x0 : Nat) (x3 : Nat) (x6 : Int32) (h : pH) : f_Se_start_b77 G (F + 1) x0 x3 x6 h = ((gR h x0 1 0).bind fun v13 => cI (oC h v13 0) (f_Gr_count G v13 h) fun v17 h14 => if v17 ≤ x6 then (cI (oC h14 x0 1) (f_Se_narrow G x0 x3 (63 : Int32) (1 : Int32) h14) fun v21 h18 => (if isZ v21 = true then some (some (.int v21), h18) else none)) else ((gR h14 x0 1 0).bind fun v22 => cI (oC h14 v22 0) (f_Gr_at G v22 x6 h14) fun v26 h23 => cI (oC h23 x0 1) (f_Se_takeIn G x0 x3 v26 h23) fun v30 h27 => if v30 = 0 then ((if isZ (0 : Int32) = true then some (some (.int (0 : Int32)), h27) else none)) else ((f_Se_start_b77 G F) x0 x3 (x6 + 1) h27))) := rfl
def f_Se_start_b34 (G : Nat) : Nat → Nat → Int64 → Nat → Int64 → Int32 → pH → Option pR
  | 0 => fun _ _ _ _ _ _ => none
  | F + 1 => fun x0 x1 x3 x4 x6 h => if (6 : Int32) ≤ x6 then ((oP h x0 1 3 (.int (0 : Int32))).bind fun h8 => (f_Se_start_b77 G G) x0 x3 (0 : Int32) h8) else (cI true (f_Mg_isIn G x4 ((40 : Int32) + x6) h) fun v12 h9 => if v12 = 0 then ((f_Se_start_b62 G (f_Se_start_b34 G F)) x0 x1 x3 x4 x6 x3 x6 (0 : Int64) h9) else ((f_Se_start_b62 G (f_Se_start_b34 G F)) x0 x1 x3 x4 x6 x3 x6 x1 h9))
theorem f_Se_start_b34_eq (G : Nat) (F : Nat) (x0 : Nat) (x1 : Int64) (x3 : Nat) (x4 : Int64) (x6 : Int32) (h : pH) : f_Se_start_b34 G (F + 1) x0 x1 x3 x4 x6 h = (if (6 : Int32) ≤ x6 then ((oP h x0 1 3 (.int (0 : Int32))).bind fun h8 => (f_Se_start_b77 G G) x0 x3 (0 : Int32) h8) else (cI true (f_Mg_isIn G x4 ((40 : Int32) + x6) h) fun v12 h9 => if v12 = 0 then ((f_Se_start_b62 G (f_Se_start_b34 G F)) x0 x1 x3 x4 x6 x3 x6 (0 : Int64) h9) else ((f_Se_start_b62 G (f_Se_start_b34 G F)) x0 x1 x3 x4 x6 x3 x6 x1 h9))) := rfl
def f_Se_start_b31 (G : Nat) (x0 : Nat) (x1 : Int64) (x3 : Nat) (x4 : Int64) (h : pH) : Option pR := (f_Se_start_b34 G G) x0 x1 x3 x4 (0 : Int32) h
theorem f_Se_start_b31_eq (G : Nat) (x0 : Nat) (x1 : Int64) (x3 : Nat) (x4 : Int64) (h : pH) : f_Se_start_b31 G x0 x1 x3 x4 h = ((f_Se_start_b34 G G) x0 x1 x3 x4 (0 : Int32) h) := rfl
def f_Se_start (G : Nat) (x0 : Nat) (x1 : Int64) (h : pH) : Option pR := (gR h x0 1 4).bind fun v1 => (aR h 3 v1 (0 : Int32)).bind fun v2 => (gR h x0 1 0).bind fun v3 => cJ (oC h v3 0) (f_Gr_nodes G v3 h) fun v7 h4 => if (lg_cmp v7 (0 : Int64)) = 0 then ((f_Se_start_b31 G) x0 x1 v2 v7 h4) else (if (lg_cmp x1 (0 : Int64)) = 0 then ((if isZ (0 : Int32) = true then some (some (.int (0 : Int32)), h4) else none)) else ((f_Se_start_b31 G) x0 x1 v2 v7 h4))
theorem f_Se_start_eq (G : Nat) (x0 : Nat) (x1 : Int64) (h : pH) : f_Se_start G x0 x1 h = ((gR h x0 1 4).bind fun v1 => (aR h 3 v1 (0 : Int32)).bind fun v2 => (gR h x0 1 0).bind fun v3 => cJ (oC h v3 0) (f_Gr_nodes G v3 h) fun v7 h4 => if (lg_cmp v7 (0 : Int64)) = 0 then ((f_Se_start_b31 G) x0 x1 v2 v7 h4) else (if (lg_cmp x1 (0 : Int64)) = 0 then ((if isZ (0 : Int32) = true then some (some (.int (0 : Int32)), h4) else none)) else ((f_Se_start_b31 G) x0 x1 v2 v7 h4))) := rfl
set_option maxRecDepth 100000 in
set_option maxHeartbeats 4000000 in
theorem w_Se_start_b62 {X : zX} {r : pR} {G : Nat} {k34 : Nat → Int64 → Nat → Int64 → Int32 → pH → Option pR} (hQ : zQ X r) (hk34 : ∀ (x0 : Nat) (x1 : Int64) (x3 : Nat) (x4 : Int64) (x6 : Int32) (h : pH), k34 x0 x1 x3 x4 x6 h = some r → Z X M_Se_start 0 0 h 34 [(0, .ref x0), (1, .long x1), (3, .ref x3), (4, .long x4), (6, .int x6)] []) : ∀ (x0 : Nat) (x1 : Int64) (x3 : Nat) (x4 : Int64) (x6 : Int32) (s0 : Nat) (s1 : Int32) (s2 : Int64) (h : pH), f_Se_start_b62 G k34 x0 x1 x3 x4 x6 s0 s1 s2 h = some r → Z X M_Se_start 0 0 h 62 [(0, .ref x0), (1, .long x1), (3, .ref x3), (4, .long x4), (6, .int x6)] [.long s2, .int s1, .ref s0] := by
  intro x0 x1 x3 x4 x6 s0 s1 s2 h E
  rw [f_Se_start_b62_eq] at E
  refine z_lastore d_Se_start_62 E (fun h31 _ E => ?_)
  refine z_iinc (v := (x6 + 1)) (lv2 := [(6, .int (x6 + 1)), (0, .ref x0), (1, .long x1), (3, .ref x3), (4, .long x4)]) 4 d_Se_start_63 rfl rfl (Nat.le_of_ble_eq_true rfl) rfl ?_
  refine z_goto (tgt := 34) d_Se_start_66 (by decide) ?_
  refine z_lv [1, 2, 3, 4, 0] rfl ?_
  exact hk34 x0 x1 x3 x4 (x6 + 1) h31 E
set_option maxRecDepth 100000 in
set_option maxHeartbeats 4000000 in
theorem w_Se_start_b77 {X : zX} {r : pR} {G : Nat} (hQ : zQ X r) : ∀ (F : Nat) (x0 : Nat) (x3 : Nat) (x6 : Int32) (h : pH), f_Se_start_b77 G F x0 x3 x6 h = some r → Z X M_Se_start 0 0 h 77 [(0, .ref x0), (3, .ref x3), (6, .int x6)] [] := by
  intro F
  induction F with
  | zero => intro x0 x3 x6 h E; exact nomatch (show (none : Option pR) = some _ from E)
  | succ F ih =>
    intro x0 x3 x6 h E
    rw [f_Se_start_b77_eq] at E
    refine z_iload 2 d_Se_start_77 rfl ?_
    refine z_aload_n 0 d_Se_start_79 rfl rfl ?_
    refine z_getR (ci := 1) (j := 0) rfl (by decide) zf_Se_12 d_Se_start_80 E (fun v13 _ E => ?_)
    obtain ⟨g15, v17, h14, e16, E⟩ := cI_some E
    refine z_invV (ci := 0) (y := y_Gr_count) (Mc := M_Gr_count) (av := []) (rest := [.int x6]) rfl rfl ⟨zt_375, zt_310, zt_311, zt_48⟩ zk_Gr_count zy_Gr_count (by decide) (Nat.le_of_ble_eq_true rfl) z00 rfl (Nat.le_of_ble_eq_true rfl) d_Se_start_83 g15 (m_Gr_count e16) ?_
    show Z X M_Se_start 0 0 h14 86 [(0, .ref x0), (3, .ref x3), (6, .int x6)] [.int v17, .int x6]
    refine z_ic_ge (tgt := 114) d_Se_start_86 (by decide) E (fun E => ?_) (fun E => ?_)
    · refine z_aload_n 0 d_Se_start_114 rfl rfl ?_
      refine z_aload_n 1 d_Se_start_115 rfl rfl ?_
      refine z_bipush (v := (63 : Int32)) d_Se_start_116 (by decide) ?_
      refine z_iconst (v := (1 : Int32)) d_Se_start_118 (by decide) ?_
      obtain ⟨g19, v21, h18, e20, E⟩ := cI_some E
      refine z_invV (ci := 1) (y := y_Se_narrow) (Mc := M_Se_narrow) (av := [.ref x3, .int (63 : Int32), .int (1 : Int32)]) (rest := []) rfl rfl ⟨zt_407, zt_409, zt_8, zt_49⟩ zk_Se_narrow zy_Se_narrow (by decide) (Nat.le_of_ble_eq_true rfl) z00 rfl (Nat.le_of_ble_eq_true rfl) d_Se_start_119 g19 (m_Se_narrow e20) ?_
      show Z X M_Se_start 0 0 h18 122 [(0, .ref x0), (3, .ref x3), (6, .int x6)] [.int v21]
      exact z_zreturn hQ rfl z00 d_Se_start_122 E
    · refine z_aload_n 0 d_Se_start_89 rfl rfl ?_
      refine z_aload_n 1 d_Se_start_90 rfl rfl ?_
      refine z_aload_n 0 d_Se_start_91 rfl rfl ?_
      refine z_getR (ci := 1) (j := 0) rfl (by decide) zf_Se_12 d_Se_start_92 E (fun v22 _ E => ?_)
      refine z_iload 2 d_Se_start_95 rfl ?_
      obtain ⟨g24, v26, h23, e25, E⟩ := cI_some E
      refine z_invV (ci := 0) (y := y_Gr_at) (Mc := M_Gr_at) (av := [.int x6]) (rest := [.ref x3, .ref x0]) rfl rfl ⟨zt_376, zt_284, zt_285, zt_48⟩ zk_Gr_at zy_Gr_at (by decide) (Nat.le_of_ble_eq_true rfl) z00 rfl (Nat.le_of_ble_eq_true rfl) d_Se_start_97 g24 (m_Gr_at e25) ?_
      show Z X M_Se_start 0 0 h23 100 [(0, .ref x0), (3, .ref x3), (6, .int x6)] [.int v26, .ref x3, .ref x0]
      obtain ⟨g28, v30, h27, e29, E⟩ := cI_some E
      refine z_invV (ci := 1) (y := y_Se_takeIn) (Mc := M_Se_takeIn) (av := [.ref x3, .int v26]) (rest := []) rfl rfl ⟨zt_393, zt_395, zt_6, zt_49⟩ zk_Se_takeIn zy_Se_takeIn (by decide) (Nat.le_of_ble_eq_true rfl) z00 rfl (Nat.le_of_ble_eq_true rfl) d_Se_start_100 g28 (m_Se_takeIn e29) ?_
      show Z X M_Se_start 0 0 h27 103 [(0, .ref x0), (3, .ref x3), (6, .int x6)] [.int v30]
      refine z_if_ne (y := 0) (tgt := 108) d_Se_start_103 (by decide) E (fun E => ?_) (fun E => ?_)
      · refine z_iinc (v := (x6 + 1)) (lv2 := [(6, .int (x6 + 1)), (0, .ref x0), (3, .ref x3)]) 2 d_Se_start_108 rfl rfl (Nat.le_of_ble_eq_true rfl) rfl ?_
        refine z_goto (tgt := 77) d_Se_start_111 (by decide) ?_
        refine z_lv [1, 2, 0] rfl ?_
        exact ih x0 x3 (x6 + 1) h27 E
      · refine z_iconst (v := (0 : Int32)) d_Se_start_106 (by decide) ?_
        exact z_zreturn hQ rfl z00 d_Se_start_107 E
set_option maxRecDepth 100000 in
set_option maxHeartbeats 4000000 in
theorem w_Se_start_b34 {X : zX} {r : pR} {G : Nat} (hQ : zQ X r) : ∀ (F : Nat) (x0 : Nat) (x1 : Int64) (x3 : Nat) (x4 : Int64) (x6 : Int32) (h : pH), f_Se_start_b34 G F x0 x1 x3 x4 x6 h = some r → Z X M_Se_start 0 0 h 34 [(0, .ref x0), (1, .long x1), (3, .ref x3), (4, .long x4), (6, .int x6)] [] := by
  intro F
  induction F with
  | zero => intro x0 x1 x3 x4 x6 h E; exact nomatch (show (none : Option pR) = some _ from E)
  | succ F ih =>
    intro x0 x1 x3 x4 x6 h E
    rw [f_Se_start_b34_eq] at E
    refine z_iload 4 d_Se_start_34 rfl ?_
    refine z_bipush (v := (6 : Int32)) d_Se_start_36 (by decide) ?_
    refine z_ic_ge (tgt := 69) d_Se_start_38 (by decide) E (fun E => ?_) (fun E => ?_)
    · refine z_aload_n 0 d_Se_start_69 rfl rfl ?_
      refine z_iconst (v := (0 : Int32)) d_Se_start_70 (by decide) ?_
      refine z_putI (ci := 1) (j := 3) rfl (by decide) zf_Se_26 rfl rfl d_Se_start_71 E (fun h8 _ E => ?_)
      refine z_iconst (v := (0 : Int32)) d_Se_start_74 (by decide) ?_
      refine z_istore (lv2 := [(6, .int (0 : Int32)), (0, .ref x0), (1, .long x1), (3, .ref x3), (4, .long x4)]) d_Se_start_75 (Nat.le_of_ble_eq_true rfl) rfl ?_
      refine z_lv [1, 3, 0] rfl ?_
      exact (w_Se_start_b77 hQ G) x0 x3 (0 : Int32) h8 E
    · refine z_aload_n 2 d_Se_start_41 rfl rfl ?_
      refine z_iload 4 d_Se_start_42 rfl ?_
      refine z_lload 3 d_Se_start_44 rfl ?_
      refine z_bipush (v := (40 : Int32)) d_Se_start_46 (by decide) ?_
      refine z_iload 4 d_Se_start_48 rfl ?_
      refine z_iadd d_Se_start_50 ?_
      obtain ⟨g10, v12, h9, e11, E⟩ := cI_some E
      refine z_invSN (y := y_Mg_isIn) (Mc := M_Mg_isIn) (av := [.long x4, .int ((40 : Int32) + x6)]) (rest := [.int x6, .ref x3]) ⟨(List.mem_of_getElem? (i := 10) rfl), zt_391, zt_47⟩ zk_Mg_isIn zy_Mg_isIn (by decide) (Nat.le_of_ble_eq_true rfl) z00 rfl (Nat.le_of_ble_eq_true rfl) d_Se_start_51 (m_Mg_isIn e11) ?_
      show Z X M_Se_start 0 0 h9 54 [(0, .ref x0), (1, .long x1), (3, .ref x3), (4, .long x4), (6, .int x6)] [.int v12, .int x6, .ref x3]
      refine z_if_eq (y := 0) (tgt := 61) d_Se_start_54 (by decide) E (fun E => ?_) (fun E => ?_)
      · refine z_lconst (v := (0 : Int64)) d_Se_start_61 (by decide) ?_
        exact (w_Se_start_b62 hQ ih) x0 x1 x3 x4 x6 x3 x6 (0 : Int64) h9 E
      · refine z_lload_n 1 d_Se_start_57 rfl rfl ?_
        refine z_goto (tgt := 62) d_Se_start_58 (by decide) ?_
        exact (w_Se_start_b62 hQ ih) x0 x1 x3 x4 x6 x3 x6 x1 h9 E
set_option maxRecDepth 100000 in
set_option maxHeartbeats 4000000 in
theorem w_Se_start_b31 {X : zX} {r : pR} {G : Nat} (hQ : zQ X r) : ∀ (x0 : Nat) (x1 : Int64) (x3 : Nat) (x4 : Int64) (h : pH), f_Se_start_b31 G x0 x1 x3 x4 h = some r → Z X M_Se_start 0 0 h 31 [(0, .ref x0), (1, .long x1), (3, .ref x3), (4, .long x4)] [] := by
  intro x0 x1 x3 x4 h E
  rw [f_Se_start_b31_eq] at E
  refine z_iconst (v := (0 : Int32)) d_Se_start_31 (by decide) ?_
  refine z_istore (lv2 := [(6, .int (0 : Int32)), (0, .ref x0), (1, .long x1), (3, .ref x3), (4, .long x4)]) d_Se_start_32 (Nat.le_of_ble_eq_true rfl) rfl ?_
  refine z_lv [1, 2, 3, 4, 0] rfl ?_
  exact (w_Se_start_b34 hQ G) x0 x1 x3 x4 (0 : Int32) h E
set_option maxRecDepth 100000 in
set_option maxHeartbeats 4000000 in
theorem w_Se_start_b0 {X : zX} {r : pR} {G : Nat} (hQ : zQ X r) : ∀ (x0 : Nat) (x1 : Int64) (h : pH), f_Se_start G x0 x1 h = some r → Z X M_Se_start 0 0 h 0 [(0, .ref x0), (1, .long x1)] [] := by
  intro x0 x1 h E
  rw [f_Se_start_eq] at E
  refine z_aload_n 0 d_Se_start_0 rfl rfl ?_
  refine z_getR (ci := 1) (j := 4) rfl (by decide) zf_Se_32 d_Se_start_1 E (fun v1 _ E => ?_)
  refine z_iconst (v := (0 : Int32)) d_Se_start_4 (by decide) ?_
  refine z_aaload 3 (fun _ => rfl) rfl d_Se_start_5 E (fun v2 _ E => ?_)
  refine z_astore_n (lv2 := [(3, .ref v2), (0, .ref x0), (1, .long x1)]) d_Se_start_6 rfl (Nat.le_of_ble_eq_true rfl) rfl ?_
  refine z_aload_n 1 d_Se_start_7 rfl rfl ?_
  refine z_getR (ci := 1) (j := 0) rfl (by decide) zf_Se_12 d_Se_start_8 E (fun v3 _ E => ?_)
  obtain ⟨g5, v7, h4, e6, E⟩ := cJ_some E
  refine z_invV (ci := 0) (y := y_Gr_nodes) (Mc := M_Gr_nodes) (av := []) (rest := []) rfl rfl ⟨zt_389, zt_321, zt_322, zt_48⟩ zk_Gr_nodes zy_Gr_nodes (by decide) (Nat.le_of_ble_eq_true rfl) z00 rfl (Nat.le_of_ble_eq_true rfl) d_Se_start_11 g5 (m_Gr_nodes e6) ?_
  show Z X M_Se_start 0 0 h4 14 [(3, .ref v2), (0, .ref x0), (1, .long x1)] [.long v7]
  refine z_lstore (lv2 := [(4, .long v7), (3, .ref v2), (0, .ref x0), (1, .long x1)]) d_Se_start_14 (Nat.le_of_ble_eq_true rfl) rfl ?_
  refine z_lload 0 d_Se_start_16 rfl ?_
  refine z_lconst (v := (0 : Int64)) d_Se_start_18 (by decide) ?_
  refine z_lcmp d_Se_start_19 ?_
  refine z_if_eq (y := 0) (tgt := 31) d_Se_start_20 (by decide) E (fun E => ?_) (fun E => ?_)
  · refine z_lv [2, 3, 1, 0] rfl ?_
    exact (w_Se_start_b31 hQ) x0 x1 v2 v7 h4 E
  · refine z_lload_n 3 d_Se_start_23 rfl rfl ?_
    refine z_lconst (v := (0 : Int64)) d_Se_start_24 (by decide) ?_
    refine z_lcmp d_Se_start_25 ?_
    refine z_if_ne (y := 0) (tgt := 31) d_Se_start_26 (by decide) E (fun E => ?_) (fun E => ?_)
    · refine z_lv [2, 3, 1, 0] rfl ?_
      exact (w_Se_start_b31 hQ) x0 x1 v2 v7 h4 E
    · refine z_iconst (v := (0 : Int32)) d_Se_start_29 (by decide) ?_
      exact z_zreturn hQ rfl z00 d_Se_start_30 E
theorem m_Se_start {l : Launch} {G : Nat} {x0 : Nat} {x1 : Int64} {h : pH} {r : pR} (E : f_Se_start G x0 x1 h = some r) : zMet l y_Se_start M_Se_start 0 0 [.ref x0, .long x1] h r :=
  zMet_of (by decide) rfl (Nat.le_of_ble_eq_true rfl) (fun p e s m args below meth c D0 cT => w_Se_start_b0 (X := (p, l, e, s, m, args, below, meth, c, D0, cT, h, _, 0, 0)) rfl x0 x1 h E)
def f_Se_find_b39 (G : Nat) (k40 : Nat → Nat → Int32 → pH → Option pR) (x0 : Nat) (x2 : Nat) (h : pH) : Option pR := k40 x0 x2 (0 : Int32) h
theorem f_Se_find_b39_eq (G : Nat) (k40 : Nat → Nat → Int32 → pH → Option pR) (x0 : Nat) (x2 : Nat) (h : pH) : f_Se_find_b39 G k40 x0 x2 h = (k40 x0 x2 (0 : Int32) h) := rfl
def f_Se_find_b40 (G : Nat) (x0 : Nat) (x2 : Nat) (s0 : Int32) (h : pH) : Option pR := cV (oC h x0 1) (f_Se_unmark G x0 x2 h) fun h17 => (if isZ s0 = true then some (some (.int s0), h17) else none)
theorem f_Se_find_b40_eq (G : Nat) (x0 : Nat) (x2 : Nat) (s0 : Int32) (h : pH) : f_Se_find_b40 G x0 x2 s0 h = (cV (oC h x0 1) (f_Se_unmark G x0 x2 h) fun h17 => (if isZ s0 = true then some (some (.int s0), h17) else none)) := rfl
def f_Se_find (G : Nat) (x0 : Nat) (x1 : Nat) (x2 : Nat) (x3 : Int64) (x5 : Int32) (h : pH) : Option pR := (gR h x0 1 0).bind fun v1 => cV (oC h v1 0) (f_Gr_become G v1 x1 h) fun h2 => (oZ h2 x0 1 1 x5).bind fun h5 => cV (oC h5 x0 1) (f_Se_mark G x0 x2 h5) fun h6 => cI (oC h6 x0 1) (f_Se_start G x0 x3 h6) fun v12 h9 => if v12 = 0 then ((f_Se_find_b39 G (f_Se_find_b40 G)) x0 x2 h9) else (cI (oC h9 x0 1) (f_Se_settle G 8 x0 (0 : Int32) h9) fun v16 h13 => if v16 = 0 then ((f_Se_find_b39 G (f_Se_find_b40 G)) x0 x2 h13) else ((f_Se_find_b40 G) x0 x2 (1 : Int32) h13))
theorem f_Se_find_eq (G : Nat) (x0 : Nat) (x1 : Nat) (x2 : Nat) (x3 : Int64) (x5 : Int32) (h : pH) : f_Se_find G x0 x1 x2 x3 x5 h = ((gR h x0 1 0).bind fun v1 => cV (oC h v1 0) (f_Gr_become G v1 x1 h) fun h2 => (oZ h2 x0 1 1 x5).bind fun h5 => cV (oC h5 x0 1) (f_Se_mark G x0 x2 h5) fun h6 => cI (oC h6 x0 1) (f_Se_start G x0 x3 h6) fun v12 h9 => if v12 = 0 then ((f_Se_find_b39 G (f_Se_find_b40 G)) x0 x2 h9) else (cI (oC h9 x0 1) (f_Se_settle G 8 x0 (0 : Int32) h9) fun v16 h13 => if v16 = 0 then ((f_Se_find_b39 G (f_Se_find_b40 G)) x0 x2 h13) else ((f_Se_find_b40 G) x0 x2 (1 : Int32) h13))) := rfl
set_option maxRecDepth 100000 in
set_option maxHeartbeats 4000000 in
theorem w_Se_find_b39 {X : zX} {r : pR} {G : Nat} {k40 : Nat → Nat → Int32 → pH → Option pR} (hQ : zQ X r) (hk40 : ∀ (x0 : Nat) (x2 : Nat) (s0 : Int32) (h : pH), k40 x0 x2 s0 h = some r → Z X M_Se_find 0 0 h 40 [(0, .ref x0), (2, .ref x2)] [.int s0]) : ∀ (x0 : Nat) (x2 : Nat) (h : pH), f_Se_find_b39 G k40 x0 x2 h = some r → Z X M_Se_find 0 0 h 39 [(0, .ref x0), (2, .ref x2)] [] := by
  intro x0 x2 h E
  rw [f_Se_find_b39_eq] at E
  refine z_iconst (v := (0 : Int32)) d_Se_find_39 (by decide) ?_
  exact hk40 x0 x2 (0 : Int32) h E
set_option maxRecDepth 100000 in
set_option maxHeartbeats 4000000 in
theorem w_Se_find_b40 {X : zX} {r : pR} {G : Nat} (hQ : zQ X r) : ∀ (x0 : Nat) (x2 : Nat) (s0 : Int32) (h : pH), f_Se_find_b40 G x0 x2 s0 h = some r → Z X M_Se_find 0 0 h 40 [(0, .ref x0), (2, .ref x2)] [.int s0] := by
  intro x0 x2 s0 h E
  rw [f_Se_find_b40_eq] at E
  refine z_istore (lv2 := [(6, .int s0), (0, .ref x0), (2, .ref x2)]) d_Se_find_40 (Nat.le_of_ble_eq_true rfl) rfl ?_
  refine z_aload_n 1 d_Se_find_42 rfl rfl ?_
  refine z_aload_n 2 d_Se_find_43 rfl rfl ?_
  obtain ⟨g18, h17, e19, E⟩ := cV_some E
  refine z_invV (ci := 1) (y := y_Se_unmark) (Mc := M_Se_unmark) (av := [.ref x2]) (rest := []) rfl rfl ⟨zt_441, zt_443, zt_13, zt_49⟩ zk_Se_unmark zy_Se_unmark (by decide) (Nat.le_of_ble_eq_true rfl) z00 rfl (Nat.le_of_ble_eq_true rfl) d_Se_find_44 g18 (m_Se_unmark e19) ?_
  show Z X M_Se_find 0 0 h17 47 [(6, .int s0), (0, .ref x0), (2, .ref x2)] []
  refine z_iload 0 d_Se_find_47 rfl ?_
  exact z_zreturn hQ rfl z00 d_Se_find_49 E
set_option maxRecDepth 100000 in
set_option maxHeartbeats 4000000 in
theorem w_Se_find_b0 {X : zX} {r : pR} {G : Nat} (hQ : zQ X r) : ∀ (x0 : Nat) (x1 : Nat) (x2 : Nat) (x3 : Int64) (x5 : Int32) (h : pH), f_Se_find G x0 x1 x2 x3 x5 h = some r → Z X M_Se_find 0 0 h 0 [(0, .ref x0), (1, .ref x1), (2, .ref x2), (3, .long x3), (5, .int x5)] [] := by
  intro x0 x1 x2 x3 x5 h E
  rw [f_Se_find_eq] at E
  refine z_aload_n 0 d_Se_find_0 rfl rfl ?_
  refine z_getR (ci := 1) (j := 0) rfl (by decide) zf_Se_12 d_Se_find_1 E (fun v1 _ E => ?_)
  refine z_aload_n 1 d_Se_find_4 rfl rfl ?_
  obtain ⟨g3, h2, e4, E⟩ := cV_some E
  refine z_invV (ci := 0) (y := y_Gr_become) (Mc := M_Gr_become) (av := [.ref x1]) (rest := []) rfl rfl ⟨zt_370, zt_306, zt_307, zt_48⟩ zk_Gr_become zy_Gr_become (by decide) (Nat.le_of_ble_eq_true rfl) z00 rfl (Nat.le_of_ble_eq_true rfl) d_Se_find_5 g3 (m_Gr_become e4) ?_
  show Z X M_Se_find 0 0 h2 8 [(0, .ref x0), (1, .ref x1), (2, .ref x2), (3, .long x3), (5, .int x5)] []
  refine z_aload_n 0 d_Se_find_8 rfl rfl ?_
  refine z_iload 4 d_Se_find_9 rfl ?_
  refine z_putZ (ci := 1) (j := 1) rfl (by decide) zf_Se_18 rfl rfl d_Se_find_11 E (fun h5 _ E => ?_)
  refine z_aload_n 0 d_Se_find_14 rfl rfl ?_
  refine z_aload_n 2 d_Se_find_15 rfl rfl ?_
  obtain ⟨g7, h6, e8, E⟩ := cV_some E
  refine z_invV (ci := 1) (y := y_Se_mark) (Mc := M_Se_mark) (av := [.ref x2]) (rest := []) rfl rfl ⟨zt_371, zt_373, zt_4, zt_49⟩ zk_Se_mark zy_Se_mark (by decide) (Nat.le_of_ble_eq_true rfl) z00 rfl (Nat.le_of_ble_eq_true rfl) d_Se_find_16 g7 (m_Se_mark e8) ?_
  show Z X M_Se_find 0 0 h6 19 [(0, .ref x0), (1, .ref x1), (2, .ref x2), (3, .long x3), (5, .int x5)] []
  refine z_aload_n 0 d_Se_find_19 rfl rfl ?_
  refine z_lload_n 3 d_Se_find_20 rfl rfl ?_
  obtain ⟨g10, v12, h9, e11, E⟩ := cI_some E
  refine z_invV (ci := 1) (y := y_Se_start) (Mc := M_Se_start) (av := [.long x3]) (rest := []) rfl rfl ⟨zt_385, zt_387, zt_5, zt_49⟩ zk_Se_start zy_Se_start (by decide) (Nat.le_of_ble_eq_true rfl) z00 rfl (Nat.le_of_ble_eq_true rfl) d_Se_find_21 g10 (m_Se_start e11) ?_
  show Z X M_Se_find 0 0 h9 24 [(0, .ref x0), (1, .ref x1), (2, .ref x2), (3, .long x3), (5, .int x5)] [.int v12]
  refine z_if_eq (y := 0) (tgt := 39) d_Se_find_24 (by decide) E (fun E => ?_) (fun E => ?_)
  · refine z_lv [0, 2] rfl ?_
    exact (w_Se_find_b39 hQ (w_Se_find_b40 hQ)) x0 x2 h9 E
  · refine z_aload_n 0 d_Se_find_27 rfl rfl ?_
    refine z_iconst (v := (0 : Int32)) d_Se_find_28 (by decide) ?_
    obtain ⟨g14, v16, h13, e15, E⟩ := cI_some E
    refine z_invV (ci := 1) (y := y_Se_settle) (Mc := (M_Se_settle 8)) (av := [.int (0 : Int32)]) (rest := []) rfl rfl ⟨zt_429, zt_431, zt_10, zt_49⟩ (zk_Se_settle _) zy_Se_settle (by decide) (Nat.le_of_ble_eq_true rfl) z00 rfl (Nat.le_of_ble_eq_true rfl) d_Se_find_29 g14 (m_Se_settle e15) ?_
    show Z X M_Se_find 0 0 h13 32 [(0, .ref x0), (1, .ref x1), (2, .ref x2), (3, .long x3), (5, .int x5)] [.int v16]
    refine z_if_eq (y := 0) (tgt := 39) d_Se_find_32 (by decide) E (fun E => ?_) (fun E => ?_)
    · refine z_lv [0, 2] rfl ?_
      exact (w_Se_find_b39 hQ (w_Se_find_b40 hQ)) x0 x2 h13 E
    · refine z_iconst (v := (1 : Int32)) d_Se_find_35 (by decide) ?_
      refine z_goto (tgt := 40) d_Se_find_36 (by decide) ?_
      refine z_lv [0, 2] rfl ?_
      exact (w_Se_find_b40 hQ) x0 x2 (1 : Int32) h13 E
theorem m_Se_find {l : Launch} {G : Nat} {x0 : Nat} {x1 : Nat} {x2 : Nat} {x3 : Int64} {x5 : Int32} {h : pH} {r : pR} (E : f_Se_find G x0 x1 x2 x3 x5 h = some r) : zMet l y_Se_find M_Se_find 0 0 [.ref x0, .ref x1, .ref x2, .long x3, .int x5] h r :=
  zMet_of (by decide) rfl (Nat.le_of_ble_eq_true rfl) (fun p e s m args below meth c D0 cT => w_Se_find_b0 (X := (p, l, e, s, m, args, below, meth, c, D0, cT, h, _, 0, 0)) rfl x0 x1 x2 x3 x5 h E)

def y_Se_marked : MethodName := ⟨"MergeGraphs$Search", "marked", "([JII)J"⟩
abbrev M_Se_marked : zM := (nR1, prog_4_method_6_code, 4, (some .long), 0)
set_option maxRecDepth 100000 in
theorem zk_Se_marked : Cond.code y_Se_marked (M_Se_marked).2.1 (M_Se_marked).2.2.1 (M_Se_marked).2.2.2.1 ∈ zTg := zmem 385 rfl rfl
theorem zy_Se_marked : (y_Se_marked).cls ≠ "java/lang/invoke/MethodHandle" ∧ (y_Se_marked).cls ≠ "java/lang/invoke/VarHandle" ∧ (parseMethodDescriptor (y_Se_marked).desc).map (fun d => d.parameters.length) = some 3 := by decide +kernel
theorem d_Se_marked_0 : decode prog_4_method_6_code 0 = .ok (.iload_n 1, 1) := by decide +kernel
theorem d_Se_marked_1 : decode prog_4_method_6_code 1 = .ok (.bipush 46, 2) := by decide +kernel
theorem d_Se_marked_3 : decode prog_4_method_6_code 3 = .ok (.imul, 1) := by decide +kernel
theorem d_Se_marked_4 : decode prog_4_method_6_code 4 = .ok (.iload_n 2, 1) := by decide +kernel
theorem d_Se_marked_5 : decode prog_4_method_6_code 5 = .ok (.iadd, 1) := by decide +kernel
theorem d_Se_marked_6 : decode prog_4_method_6_code 6 = .ok (.istore_n 3, 1) := by decide +kernel
theorem d_Se_marked_7 : decode prog_4_method_6_code 7 = .ok (.iload_n 3, 1) := by decide +kernel
theorem d_Se_marked_8 : decode prog_4_method_6_code 8 = .ok (.ifCond .lt 15, 3) := by decide +kernel
theorem d_Se_marked_11 : decode prog_4_method_6_code 11 = .ok (.iload_n 3, 1) := by decide +kernel
theorem d_Se_marked_12 : decode prog_4_method_6_code 12 = .ok (.aload_n 0, 1) := by decide +kernel
theorem d_Se_marked_13 : decode prog_4_method_6_code 13 = .ok (.arraylength, 1) := by decide +kernel
theorem d_Se_marked_14 : decode prog_4_method_6_code 14 = .ok (.if_icmp .ge 9, 3) := by decide +kernel
theorem d_Se_marked_17 : decode prog_4_method_6_code 17 = .ok (.aload_n 0, 1) := by decide +kernel
theorem d_Se_marked_18 : decode prog_4_method_6_code 18 = .ok (.iload_n 3, 1) := by decide +kernel
theorem d_Se_marked_19 : decode prog_4_method_6_code 19 = .ok (.laload, 1) := by decide +kernel
theorem d_Se_marked_20 : decode prog_4_method_6_code 20 = .ok (.goto 4, 3) := by decide +kernel
theorem d_Se_marked_23 : decode prog_4_method_6_code 23 = .ok (.lconst 0, 1) := by decide +kernel
theorem d_Se_marked_24 : decode prog_4_method_6_code 24 = .ok (.lreturn, 1) := by decide +kernel
def y_Se_setMarked : MethodName := ⟨"MergeGraphs$Search", "setMarked", "([JIIJ)V"⟩
abbrev M_Se_setMarked : zM := (nR1, prog_4_method_7_code, 6, none, 0)
set_option maxRecDepth 100000 in
theorem zk_Se_setMarked : Cond.code y_Se_setMarked (M_Se_setMarked).2.1 (M_Se_setMarked).2.2.1 (M_Se_setMarked).2.2.2.1 ∈ zTg := zmem 388 rfl rfl
theorem zy_Se_setMarked : (y_Se_setMarked).cls ≠ "java/lang/invoke/MethodHandle" ∧ (y_Se_setMarked).cls ≠ "java/lang/invoke/VarHandle" ∧ (parseMethodDescriptor (y_Se_setMarked).desc).map (fun d => d.parameters.length) = some 4 := by decide +kernel
theorem d_Se_setMarked_0 : decode prog_4_method_7_code 0 = .ok (.iload_n 1, 1) := by decide +kernel
theorem d_Se_setMarked_1 : decode prog_4_method_7_code 1 = .ok (.bipush 46, 2) := by decide +kernel
theorem d_Se_setMarked_3 : decode prog_4_method_7_code 3 = .ok (.imul, 1) := by decide +kernel
theorem d_Se_setMarked_4 : decode prog_4_method_7_code 4 = .ok (.iload_n 2, 1) := by decide +kernel
theorem d_Se_setMarked_5 : decode prog_4_method_7_code 5 = .ok (.iadd, 1) := by decide +kernel
theorem d_Se_setMarked_6 : decode prog_4_method_7_code 6 = .ok (.istore 5, 2) := by decide +kernel
theorem d_Se_setMarked_8 : decode prog_4_method_7_code 8 = .ok (.iload 5, 2) := by decide +kernel
theorem d_Se_setMarked_10 : decode prog_4_method_7_code 10 = .ok (.ifCond .lt 15, 3) := by decide +kernel
theorem d_Se_setMarked_13 : decode prog_4_method_7_code 13 = .ok (.iload 5, 2) := by decide +kernel
theorem d_Se_setMarked_15 : decode prog_4_method_7_code 15 = .ok (.aload_n 0, 1) := by decide +kernel
theorem d_Se_setMarked_16 : decode prog_4_method_7_code 16 = .ok (.arraylength, 1) := by decide +kernel
theorem d_Se_setMarked_17 : decode prog_4_method_7_code 17 = .ok (.if_icmp .ge 8, 3) := by decide +kernel
theorem d_Se_setMarked_20 : decode prog_4_method_7_code 20 = .ok (.aload_n 0, 1) := by decide +kernel
theorem d_Se_setMarked_21 : decode prog_4_method_7_code 21 = .ok (.iload 5, 2) := by decide +kernel
theorem d_Se_setMarked_23 : decode prog_4_method_7_code 23 = .ok (.lload_n 3, 1) := by decide +kernel
theorem d_Se_setMarked_24 : decode prog_4_method_7_code 24 = .ok (.lastore, 1) := by decide +kernel
theorem d_Se_setMarked_25 : decode prog_4_method_7_code 25 = .ok (.return_, 1) := by decide +kernel
def y_Se_termFor : MethodName := ⟨"MergeGraphs$Search", "termFor", "(I)I"⟩
abbrev M_Se_termFor : zM := (nR1, prog_4_method_3_code, 2, (some .int), 1)
set_option maxRecDepth 100000 in
theorem zk_Se_termFor : Cond.code y_Se_termFor (M_Se_termFor).2.1 (M_Se_termFor).2.2.1 (M_Se_termFor).2.2.2.1 ∈ zTg := zmem 463 rfl rfl
theorem zy_Se_termFor : (y_Se_termFor).cls ≠ "java/lang/invoke/MethodHandle" ∧ (y_Se_termFor).cls ≠ "java/lang/invoke/VarHandle" ∧ (parseMethodDescriptor (y_Se_termFor).desc).map (fun d => d.parameters.length) = some 1 := by decide +kernel
theorem d_Se_termFor_0 : decode prog_4_method_3_code 0 = .ok (.iload_n 1, 1) := by decide +kernel
theorem d_Se_termFor_1 : decode prog_4_method_3_code 1 = .ok (.invokestatic 63, 3) := by decide +kernel
theorem d_Se_termFor_4 : decode prog_4_method_3_code 4 = .ok (.ifCond .eq 15, 3) := by decide +kernel
theorem d_Se_termFor_7 : decode prog_4_method_3_code 7 = .ok (.aload_n 0, 1) := by decide +kernel
theorem d_Se_termFor_8 : decode prog_4_method_3_code 8 = .ok (.getfield 42, 3) := by decide +kernel
theorem d_Se_termFor_11 : decode prog_4_method_3_code 11 = .ok (.iload_n 1, 1) := by decide +kernel
theorem d_Se_termFor_12 : decode prog_4_method_3_code 12 = .ok (.bipush 40, 2) := by decide +kernel
theorem d_Se_termFor_14 : decode prog_4_method_3_code 14 = .ok (.isub, 1) := by decide +kernel
theorem d_Se_termFor_15 : decode prog_4_method_3_code 15 = .ok (.iaload, 1) := by decide +kernel
theorem d_Se_termFor_16 : decode prog_4_method_3_code 16 = .ok (.goto 4, 3) := by decide +kernel
theorem d_Se_termFor_19 : decode prog_4_method_3_code 19 = .ok (.iconst (-1), 1) := by decide +kernel
theorem d_Se_termFor_20 : decode prog_4_method_3_code 20 = .ok (.ireturn, 1) := by decide +kernel
theorem zf_Se_42 : Cond.fieldLink nR1 42 (nT1 7).1 (nT1 7).2.1 (nT1 7).2.2.1 ∈ zTg := zmem 99 (by decide +kernel) (by decide +kernel)
theorem zt_402 : (Cond.static (⟨"MergeGraphs", "isNode", "(I)Z"⟩ : MethodName)) ∈ zTg := zmem 402 (by decide +kernel) (by decide +kernel)
def y_Se_rowIsBefore : MethodName := ⟨"MergeGraphs$Search", "rowIsBefore", "([I)Z"⟩
abbrev M_Se_rowIsBefore : zM := (nR1, prog_4_method_4_code, 2, (some .boolean), 1)
set_option maxRecDepth 100000 in
theorem zk_Se_rowIsBefore : Cond.code y_Se_rowIsBefore (M_Se_rowIsBefore).2.1 (M_Se_rowIsBefore).2.2.1 (M_Se_rowIsBefore).2.2.2.1 ∈ zTg := zmem 555 rfl rfl
theorem zy_Se_rowIsBefore : (y_Se_rowIsBefore).cls ≠ "java/lang/invoke/MethodHandle" ∧ (y_Se_rowIsBefore).cls ≠ "java/lang/invoke/VarHandle" ∧ (parseMethodDescriptor (y_Se_rowIsBefore).desc).map (fun d => d.parameters.length) = some 1 := by decide +kernel
theorem d_Se_rowIsBefore_0 : decode prog_4_method_4_code 0 = .ok (.aload_n 0, 1) := by decide +kernel
theorem d_Se_rowIsBefore_1 : decode prog_4_method_4_code 1 = .ok (.getfield 42, 3) := by decide +kernel
theorem d_Se_rowIsBefore_4 : decode prog_4_method_4_code 4 = .ok (.aload_n 1, 1) := by decide +kernel
theorem d_Se_rowIsBefore_5 : decode prog_4_method_4_code 5 = .ok (.bipush 6, 2) := by decide +kernel
theorem d_Se_rowIsBefore_7 : decode prog_4_method_4_code 7 = .ok (.invokestatic 66, 3) := by decide +kernel
theorem d_Se_rowIsBefore_10 : decode prog_4_method_4_code 10 = .ok (.ireturn, 1) := by decide +kernel
theorem zt_519 : (Cond.static (⟨"MergeGraphs", "isBefore", "([I[II)Z"⟩ : MethodName)) ∈ zTg := zmem 519 (by decide +kernel) (by decide +kernel)
def y_Se_giveRow : MethodName := ⟨"MergeGraphs$Search", "giveRow", "([I)V"⟩
abbrev M_Se_giveRow : zM := (nR1, prog_4_method_5_code, 3, none, 0)
set_option maxRecDepth 100000 in
theorem zk_Se_giveRow : Cond.code y_Se_giveRow (M_Se_giveRow).2.1 (M_Se_giveRow).2.2.1 (M_Se_giveRow).2.2.2.1 ∈ zTg := zmem 560 rfl rfl
theorem zy_Se_giveRow : (y_Se_giveRow).cls ≠ "java/lang/invoke/MethodHandle" ∧ (y_Se_giveRow).cls ≠ "java/lang/invoke/VarHandle" ∧ (parseMethodDescriptor (y_Se_giveRow).desc).map (fun d => d.parameters.length) = some 1 := by decide +kernel
theorem d_Se_giveRow_0 : decode prog_4_method_5_code 0 = .ok (.iconst 0, 1) := by decide +kernel
theorem d_Se_giveRow_1 : decode prog_4_method_5_code 1 = .ok (.istore_n 2, 1) := by decide +kernel
theorem d_Se_giveRow_2 : decode prog_4_method_5_code 2 = .ok (.iload_n 2, 1) := by decide +kernel
theorem d_Se_giveRow_3 : decode prog_4_method_5_code 3 = .ok (.bipush 6, 2) := by decide +kernel
theorem d_Se_giveRow_5 : decode prog_4_method_5_code 5 = .ok (.if_icmp .ge 24, 3) := by decide +kernel
theorem d_Se_giveRow_8 : decode prog_4_method_5_code 8 = .ok (.iload_n 2, 1) := by decide +kernel
theorem d_Se_giveRow_9 : decode prog_4_method_5_code 9 = .ok (.aload_n 1, 1) := by decide +kernel
theorem d_Se_giveRow_10 : decode prog_4_method_5_code 10 = .ok (.arraylength, 1) := by decide +kernel
theorem d_Se_giveRow_11 : decode prog_4_method_5_code 11 = .ok (.if_icmp .ge 18, 3) := by decide +kernel
theorem d_Se_giveRow_14 : decode prog_4_method_5_code 14 = .ok (.aload_n 1, 1) := by decide +kernel
theorem d_Se_giveRow_15 : decode prog_4_method_5_code 15 = .ok (.iload_n 2, 1) := by decide +kernel
theorem d_Se_giveRow_16 : decode prog_4_method_5_code 16 = .ok (.aload_n 0, 1) := by decide +kernel
theorem d_Se_giveRow_17 : decode prog_4_method_5_code 17 = .ok (.getfield 42, 3) := by decide +kernel
theorem d_Se_giveRow_20 : decode prog_4_method_5_code 20 = .ok (.iload_n 2, 1) := by decide +kernel
theorem d_Se_giveRow_21 : decode prog_4_method_5_code 21 = .ok (.iaload, 1) := by decide +kernel
theorem d_Se_giveRow_22 : decode prog_4_method_5_code 22 = .ok (.iastore, 1) := by decide +kernel
theorem d_Se_giveRow_23 : decode prog_4_method_5_code 23 = .ok (.iinc 2 1, 3) := by decide +kernel
theorem d_Se_giveRow_26 : decode prog_4_method_5_code 26 = .ok (.goto (-24), 3) := by decide +kernel
theorem d_Se_giveRow_29 : decode prog_4_method_5_code 29 = .ok (.return_, 1) := by decide +kernel
def y_Se_mark : MethodName := ⟨"MergeGraphs$Search", "mark", "(LMergeGraphs$Graph;)V"⟩
abbrev M_Se_mark : zM := (nR1, prog_4_method_8_code, 7, none, 1)
set_option maxRecDepth 100000 in
theorem zk_Se_mark : Cond.code y_Se_mark (M_Se_mark).2.1 (M_Se_mark).2.2.1 (M_Se_mark).2.2.2.1 ∈ zTg := zmem 375 rfl rfl
theorem zy_Se_mark : (y_Se_mark).cls ≠ "java/lang/invoke/MethodHandle" ∧ (y_Se_mark).cls ≠ "java/lang/invoke/VarHandle" ∧ (parseMethodDescriptor (y_Se_mark).desc).map (fun d => d.parameters.length) = some 1 := by decide +kernel
theorem d_Se_mark_0 : decode prog_4_method_8_code 0 = .ok (.iconst 0, 1) := by decide +kernel
theorem d_Se_mark_1 : decode prog_4_method_8_code 1 = .ok (.istore_n 2, 1) := by decide +kernel
theorem d_Se_mark_2 : decode prog_4_method_8_code 2 = .ok (.iload_n 2, 1) := by decide +kernel
theorem d_Se_mark_3 : decode prog_4_method_8_code 3 = .ok (.aload_n 1, 1) := by decide +kernel
theorem d_Se_mark_4 : decode prog_4_method_8_code 4 = .ok (.invokevirtual 70, 3) := by decide +kernel
theorem d_Se_mark_7 : decode prog_4_method_8_code 7 = .ok (.if_icmp .ge 87, 3) := by decide +kernel
theorem d_Se_mark_10 : decode prog_4_method_8_code 10 = .ok (.aload_n 1, 1) := by decide +kernel
theorem d_Se_mark_11 : decode prog_4_method_8_code 11 = .ok (.iload_n 2, 1) := by decide +kernel
theorem d_Se_mark_12 : decode prog_4_method_8_code 12 = .ok (.invokevirtual 74, 3) := by decide +kernel
theorem d_Se_mark_15 : decode prog_4_method_8_code 15 = .ok (.istore_n 3, 1) := by decide +kernel
theorem d_Se_mark_16 : decode prog_4_method_8_code 16 = .ok (.iload_n 3, 1) := by decide +kernel
theorem d_Se_mark_17 : decode prog_4_method_8_code 17 = .ok (.invokestatic 78, 3) := by decide +kernel
theorem d_Se_mark_20 : decode prog_4_method_8_code 20 = .ok (.istore 4, 2) := by decide +kernel
theorem d_Se_mark_22 : decode prog_4_method_8_code 22 = .ok (.iload_n 3, 1) := by decide +kernel
theorem d_Se_mark_23 : decode prog_4_method_8_code 23 = .ok (.invokestatic 81, 3) := by decide +kernel
theorem d_Se_mark_26 : decode prog_4_method_8_code 26 = .ok (.istore 5, 2) := by decide +kernel
theorem d_Se_mark_28 : decode prog_4_method_8_code 28 = .ok (.iload_n 3, 1) := by decide +kernel
theorem d_Se_mark_29 : decode prog_4_method_8_code 29 = .ok (.invokestatic 84, 3) := by decide +kernel
theorem d_Se_mark_32 : decode prog_4_method_8_code 32 = .ok (.istore 6, 2) := by decide +kernel
theorem d_Se_mark_34 : decode prog_4_method_8_code 34 = .ok (.aload_n 0, 1) := by decide +kernel
theorem d_Se_mark_35 : decode prog_4_method_8_code 35 = .ok (.getfield 35, 3) := by decide +kernel
theorem d_Se_mark_38 : decode prog_4_method_8_code 38 = .ok (.iload 5, 2) := by decide +kernel
theorem d_Se_mark_40 : decode prog_4_method_8_code 40 = .ok (.iload 4, 2) := by decide +kernel
theorem d_Se_mark_42 : decode prog_4_method_8_code 42 = .ok (.aload_n 0, 1) := by decide +kernel
theorem d_Se_mark_43 : decode prog_4_method_8_code 43 = .ok (.getfield 35, 3) := by decide +kernel
theorem d_Se_mark_46 : decode prog_4_method_8_code 46 = .ok (.iload 5, 2) := by decide +kernel
theorem d_Se_mark_48 : decode prog_4_method_8_code 48 = .ok (.iload 4, 2) := by decide +kernel
theorem d_Se_mark_50 : decode prog_4_method_8_code 50 = .ok (.invokestatic 87, 3) := by decide +kernel
theorem d_Se_mark_53 : decode prog_4_method_8_code 53 = .ok (.lconst 1, 1) := by decide +kernel
theorem d_Se_mark_54 : decode prog_4_method_8_code 54 = .ok (.iload 6, 2) := by decide +kernel
theorem d_Se_mark_56 : decode prog_4_method_8_code 56 = .ok (.lshl, 1) := by decide +kernel
theorem d_Se_mark_57 : decode prog_4_method_8_code 57 = .ok (.lor, 1) := by decide +kernel
theorem d_Se_mark_58 : decode prog_4_method_8_code 58 = .ok (.invokestatic 91, 3) := by decide +kernel
theorem d_Se_mark_61 : decode prog_4_method_8_code 61 = .ok (.aload_n 0, 1) := by decide +kernel
theorem d_Se_mark_62 : decode prog_4_method_8_code 62 = .ok (.getfield 39, 3) := by decide +kernel
theorem d_Se_mark_65 : decode prog_4_method_8_code 65 = .ok (.iload 5, 2) := by decide +kernel
theorem d_Se_mark_67 : decode prog_4_method_8_code 67 = .ok (.iload 6, 2) := by decide +kernel
theorem d_Se_mark_69 : decode prog_4_method_8_code 69 = .ok (.aload_n 0, 1) := by decide +kernel
theorem d_Se_mark_70 : decode prog_4_method_8_code 70 = .ok (.getfield 39, 3) := by decide +kernel
theorem d_Se_mark_73 : decode prog_4_method_8_code 73 = .ok (.iload 5, 2) := by decide +kernel
theorem d_Se_mark_75 : decode prog_4_method_8_code 75 = .ok (.iload 6, 2) := by decide +kernel
theorem d_Se_mark_77 : decode prog_4_method_8_code 77 = .ok (.invokestatic 87, 3) := by decide +kernel
theorem d_Se_mark_80 : decode prog_4_method_8_code 80 = .ok (.lconst 1, 1) := by decide +kernel
theorem d_Se_mark_81 : decode prog_4_method_8_code 81 = .ok (.iload 4, 2) := by decide +kernel
theorem d_Se_mark_83 : decode prog_4_method_8_code 83 = .ok (.lshl, 1) := by decide +kernel
theorem d_Se_mark_84 : decode prog_4_method_8_code 84 = .ok (.lor, 1) := by decide +kernel
theorem d_Se_mark_85 : decode prog_4_method_8_code 85 = .ok (.invokestatic 91, 3) := by decide +kernel
theorem d_Se_mark_88 : decode prog_4_method_8_code 88 = .ok (.iinc 2 1, 3) := by decide +kernel
theorem d_Se_mark_91 : decode prog_4_method_8_code 91 = .ok (.goto (-89), 3) := by decide +kernel
theorem d_Se_mark_94 : decode prog_4_method_8_code 94 = .ok (.return_, 1) := by decide +kernel
theorem zf_Se_35 : Cond.fieldLink nR1 35 (nT1 5).1 (nT1 5).2.1 (nT1 5).2.2.1 ∈ zTg := zmem 97 (by decide +kernel) (by decide +kernel)
theorem zf_Se_39 : Cond.fieldLink nR1 39 (nT1 6).1 (nT1 6).2.1 (nT1 6).2.2.1 ∈ zTg := zmem 98 (by decide +kernel) (by decide +kernel)
theorem zt_50 : (Cond.initialized "MergeGraphs$Search") ∈ zTg := zmem 50 (by decide +kernel) (by decide +kernel)
theorem zt_311 : (Cond.instanceMethod (⟨"MergeGraphs$Graph", "count", "()I"⟩ : MethodName)) ∈ zTg := zmem 311 (by decide +kernel) (by decide +kernel)
theorem zt_312 : (Cond.selects "MergeGraphs$Graph" (⟨"MergeGraphs$Graph", "count", "()I"⟩ : MethodName) (⟨"MergeGraphs$Graph", "count", "()I"⟩ : MethodName)) ∈ zTg := zmem 312 (by decide +kernel) (by decide +kernel)
theorem zt_376 : (Cond.methodLink "MergeGraphs$Search" (70 : Nat) (⟨"MergeGraphs$Graph", "count", "()I"⟩ : MethodName)) ∈ zTg := zmem 376 (by decide +kernel) (by decide +kernel)
theorem zt_377 : (Cond.methodLink "MergeGraphs$Search" (74 : Nat) (⟨"MergeGraphs$Graph", "at", "(I)I"⟩ : MethodName)) ∈ zTg := zmem 377 (by decide +kernel) (by decide +kernel)
theorem zt_383 : (Cond.methodLink "MergeGraphs$Search" (87 : Nat) (⟨"MergeGraphs$Search", "marked", "([JII)J"⟩ : MethodName)) ∈ zTg := zmem 383 (by decide +kernel) (by decide +kernel)
theorem zt_384 : (Cond.static (⟨"MergeGraphs$Search", "marked", "([JII)J"⟩ : MethodName)) ∈ zTg := zmem 384 (by decide +kernel) (by decide +kernel)
theorem zt_386 : (Cond.methodLink "MergeGraphs$Search" (91 : Nat) (⟨"MergeGraphs$Search", "setMarked", "([JIIJ)V"⟩ : MethodName)) ∈ zTg := zmem 386 (by decide +kernel) (by decide +kernel)
theorem zt_387 : (Cond.static (⟨"MergeGraphs$Search", "setMarked", "([JIIJ)V"⟩ : MethodName)) ∈ zTg := zmem 387 (by decide +kernel) (by decide +kernel)
def y_Se_unmark : MethodName := ⟨"MergeGraphs$Search", "unmark", "(LMergeGraphs$Graph;)V"⟩
abbrev M_Se_unmark : zM := (nR1, prog_4_method_9_code, 4, none, 1)
set_option maxRecDepth 100000 in
theorem zk_Se_unmark : Cond.code y_Se_unmark (M_Se_unmark).2.1 (M_Se_unmark).2.2.1 (M_Se_unmark).2.2.2.1 ∈ zTg := zmem 452 rfl rfl
theorem zy_Se_unmark : (y_Se_unmark).cls ≠ "java/lang/invoke/MethodHandle" ∧ (y_Se_unmark).cls ≠ "java/lang/invoke/VarHandle" ∧ (parseMethodDescriptor (y_Se_unmark).desc).map (fun d => d.parameters.length) = some 1 := by decide +kernel
theorem d_Se_unmark_0 : decode prog_4_method_9_code 0 = .ok (.iconst 0, 1) := by decide +kernel
theorem d_Se_unmark_1 : decode prog_4_method_9_code 1 = .ok (.istore_n 2, 1) := by decide +kernel
theorem d_Se_unmark_2 : decode prog_4_method_9_code 2 = .ok (.iload_n 2, 1) := by decide +kernel
theorem d_Se_unmark_3 : decode prog_4_method_9_code 3 = .ok (.aload_n 1, 1) := by decide +kernel
theorem d_Se_unmark_4 : decode prog_4_method_9_code 4 = .ok (.invokevirtual 70, 3) := by decide +kernel
theorem d_Se_unmark_7 : decode prog_4_method_9_code 7 = .ok (.if_icmp .ge 47, 3) := by decide +kernel
theorem d_Se_unmark_10 : decode prog_4_method_9_code 10 = .ok (.aload_n 1, 1) := by decide +kernel
theorem d_Se_unmark_11 : decode prog_4_method_9_code 11 = .ok (.iload_n 2, 1) := by decide +kernel
theorem d_Se_unmark_12 : decode prog_4_method_9_code 12 = .ok (.invokevirtual 74, 3) := by decide +kernel
theorem d_Se_unmark_15 : decode prog_4_method_9_code 15 = .ok (.istore_n 3, 1) := by decide +kernel
theorem d_Se_unmark_16 : decode prog_4_method_9_code 16 = .ok (.aload_n 0, 1) := by decide +kernel
theorem d_Se_unmark_17 : decode prog_4_method_9_code 17 = .ok (.getfield 35, 3) := by decide +kernel
theorem d_Se_unmark_20 : decode prog_4_method_9_code 20 = .ok (.iload_n 3, 1) := by decide +kernel
theorem d_Se_unmark_21 : decode prog_4_method_9_code 21 = .ok (.invokestatic 81, 3) := by decide +kernel
theorem d_Se_unmark_24 : decode prog_4_method_9_code 24 = .ok (.iload_n 3, 1) := by decide +kernel
theorem d_Se_unmark_25 : decode prog_4_method_9_code 25 = .ok (.invokestatic 78, 3) := by decide +kernel
theorem d_Se_unmark_28 : decode prog_4_method_9_code 28 = .ok (.lconst 0, 1) := by decide +kernel
theorem d_Se_unmark_29 : decode prog_4_method_9_code 29 = .ok (.invokestatic 91, 3) := by decide +kernel
theorem d_Se_unmark_32 : decode prog_4_method_9_code 32 = .ok (.aload_n 0, 1) := by decide +kernel
theorem d_Se_unmark_33 : decode prog_4_method_9_code 33 = .ok (.getfield 39, 3) := by decide +kernel
theorem d_Se_unmark_36 : decode prog_4_method_9_code 36 = .ok (.iload_n 3, 1) := by decide +kernel
theorem d_Se_unmark_37 : decode prog_4_method_9_code 37 = .ok (.invokestatic 81, 3) := by decide +kernel
theorem d_Se_unmark_40 : decode prog_4_method_9_code 40 = .ok (.iload_n 3, 1) := by decide +kernel
theorem d_Se_unmark_41 : decode prog_4_method_9_code 41 = .ok (.invokestatic 84, 3) := by decide +kernel
theorem d_Se_unmark_44 : decode prog_4_method_9_code 44 = .ok (.lconst 0, 1) := by decide +kernel
theorem d_Se_unmark_45 : decode prog_4_method_9_code 45 = .ok (.invokestatic 91, 3) := by decide +kernel
theorem d_Se_unmark_48 : decode prog_4_method_9_code 48 = .ok (.iinc 2 1, 3) := by decide +kernel
theorem d_Se_unmark_51 : decode prog_4_method_9_code 51 = .ok (.goto (-49), 3) := by decide +kernel
theorem d_Se_unmark_54 : decode prog_4_method_9_code 54 = .ok (.return_, 1) := by decide +kernel
def y_Se_keepOnly : MethodName := ⟨"MergeGraphs$Search", "keepOnly", "([JIJ)I"⟩
abbrev M_Se_keepOnly : zM := (nR1, prog_4_method_21_code, 6, (some .int), 0)
set_option maxRecDepth 100000 in
theorem zk_Se_keepOnly : Cond.code y_Se_keepOnly (M_Se_keepOnly).2.1 (M_Se_keepOnly).2.2.1 (M_Se_keepOnly).2.2.2.1 ∈ zTg := zmem 409 rfl rfl
theorem zy_Se_keepOnly : (y_Se_keepOnly).cls ≠ "java/lang/invoke/MethodHandle" ∧ (y_Se_keepOnly).cls ≠ "java/lang/invoke/VarHandle" ∧ (parseMethodDescriptor (y_Se_keepOnly).desc).map (fun d => d.parameters.length) = some 3 := by decide +kernel
theorem d_Se_keepOnly_0 : decode prog_4_method_21_code 0 = .ok (.iload_n 1, 1) := by decide +kernel
theorem d_Se_keepOnly_1 : decode prog_4_method_21_code 1 = .ok (.ifCond .lt 17, 3) := by decide +kernel
theorem d_Se_keepOnly_4 : decode prog_4_method_21_code 4 = .ok (.iload_n 1, 1) := by decide +kernel
theorem d_Se_keepOnly_5 : decode prog_4_method_21_code 5 = .ok (.aload_n 0, 1) := by decide +kernel
theorem d_Se_keepOnly_6 : decode prog_4_method_21_code 6 = .ok (.arraylength, 1) := by decide +kernel
theorem d_Se_keepOnly_7 : decode prog_4_method_21_code 7 = .ok (.if_icmp .ge 11, 3) := by decide +kernel
theorem d_Se_keepOnly_10 : decode prog_4_method_21_code 10 = .ok (.aload_n 0, 1) := by decide +kernel
theorem d_Se_keepOnly_11 : decode prog_4_method_21_code 11 = .ok (.iload_n 1, 1) := by decide +kernel
theorem d_Se_keepOnly_12 : decode prog_4_method_21_code 12 = .ok (.laload, 1) := by decide +kernel
theorem d_Se_keepOnly_13 : decode prog_4_method_21_code 13 = .ok (.lload_n 2, 1) := by decide +kernel
theorem d_Se_keepOnly_14 : decode prog_4_method_21_code 14 = .ok (.land, 1) := by decide +kernel
theorem d_Se_keepOnly_15 : decode prog_4_method_21_code 15 = .ok (.goto 4, 3) := by decide +kernel
theorem d_Se_keepOnly_18 : decode prog_4_method_21_code 18 = .ok (.lconst 0, 1) := by decide +kernel
theorem d_Se_keepOnly_19 : decode prog_4_method_21_code 19 = .ok (.lstore 4, 2) := by decide +kernel
theorem d_Se_keepOnly_21 : decode prog_4_method_21_code 21 = .ok (.lload 4, 2) := by decide +kernel
theorem d_Se_keepOnly_23 : decode prog_4_method_21_code 23 = .ok (.lconst 0, 1) := by decide +kernel
theorem d_Se_keepOnly_24 : decode prog_4_method_21_code 24 = .ok (.lcmp, 1) := by decide +kernel
theorem d_Se_keepOnly_25 : decode prog_4_method_21_code 25 = .ok (.ifCond .ne 5, 3) := by decide +kernel
theorem d_Se_keepOnly_28 : decode prog_4_method_21_code 28 = .ok (.iconst (-1), 1) := by decide +kernel
theorem d_Se_keepOnly_29 : decode prog_4_method_21_code 29 = .ok (.ireturn, 1) := by decide +kernel
theorem d_Se_keepOnly_30 : decode prog_4_method_21_code 30 = .ok (.lload 4, 2) := by decide +kernel
theorem d_Se_keepOnly_32 : decode prog_4_method_21_code 32 = .ok (.aload_n 0, 1) := by decide +kernel
theorem d_Se_keepOnly_33 : decode prog_4_method_21_code 33 = .ok (.iload_n 1, 1) := by decide +kernel
theorem d_Se_keepOnly_34 : decode prog_4_method_21_code 34 = .ok (.laload, 1) := by decide +kernel
theorem d_Se_keepOnly_35 : decode prog_4_method_21_code 35 = .ok (.lcmp, 1) := by decide +kernel
theorem d_Se_keepOnly_36 : decode prog_4_method_21_code 36 = .ok (.ifCond .ne 5, 3) := by decide +kernel
theorem d_Se_keepOnly_39 : decode prog_4_method_21_code 39 = .ok (.iconst 0, 1) := by decide +kernel
theorem d_Se_keepOnly_40 : decode prog_4_method_21_code 40 = .ok (.ireturn, 1) := by decide +kernel
theorem d_Se_keepOnly_41 : decode prog_4_method_21_code 41 = .ok (.aload_n 0, 1) := by decide +kernel
theorem d_Se_keepOnly_42 : decode prog_4_method_21_code 42 = .ok (.iload_n 1, 1) := by decide +kernel
theorem d_Se_keepOnly_43 : decode prog_4_method_21_code 43 = .ok (.lload 4, 2) := by decide +kernel
theorem d_Se_keepOnly_45 : decode prog_4_method_21_code 45 = .ok (.lastore, 1) := by decide +kernel
theorem d_Se_keepOnly_46 : decode prog_4_method_21_code 46 = .ok (.iconst 1, 1) := by decide +kernel
theorem d_Se_keepOnly_47 : decode prog_4_method_21_code 47 = .ok (.iload_n 1, 1) := by decide +kernel
theorem d_Se_keepOnly_48 : decode prog_4_method_21_code 48 = .ok (.ishl, 1) := by decide +kernel
theorem d_Se_keepOnly_49 : decode prog_4_method_21_code 49 = .ok (.ireturn, 1) := by decide +kernel
def y_Se_limit : MethodName := ⟨"MergeGraphs$Search", "limit", "([JIJ)Z"⟩
abbrev M_Se_limit : zM := (nR1, prog_4_method_13_code, 4, (some .boolean), 1)
set_option maxRecDepth 100000 in
theorem zk_Se_limit : Cond.code y_Se_limit (M_Se_limit).2.1 (M_Se_limit).2.2.1 (M_Se_limit).2.2.2.1 ∈ zTg := zmem 406 rfl rfl
theorem zy_Se_limit : (y_Se_limit).cls ≠ "java/lang/invoke/MethodHandle" ∧ (y_Se_limit).cls ≠ "java/lang/invoke/VarHandle" ∧ (parseMethodDescriptor (y_Se_limit).desc).map (fun d => d.parameters.length) = some 3 := by decide +kernel
theorem d_Se_limit_0 : decode prog_4_method_13_code 0 = .ok (.aload_n 0, 1) := by decide +kernel
theorem d_Se_limit_1 : decode prog_4_method_13_code 1 = .ok (.iload_n 1, 1) := by decide +kernel
theorem d_Se_limit_2 : decode prog_4_method_13_code 2 = .ok (.lload_n 2, 1) := by decide +kernel
theorem d_Se_limit_3 : decode prog_4_method_13_code 3 = .ok (.invokestatic 122, 3) := by decide +kernel
theorem d_Se_limit_6 : decode prog_4_method_13_code 6 = .ok (.iconst (-1), 1) := by decide +kernel
theorem d_Se_limit_7 : decode prog_4_method_13_code 7 = .ok (.if_icmp .eq 7, 3) := by decide +kernel
theorem d_Se_limit_10 : decode prog_4_method_13_code 10 = .ok (.iconst 1, 1) := by decide +kernel
theorem d_Se_limit_11 : decode prog_4_method_13_code 11 = .ok (.goto 4, 3) := by decide +kernel
theorem d_Se_limit_14 : decode prog_4_method_13_code 14 = .ok (.iconst 0, 1) := by decide +kernel
theorem d_Se_limit_15 : decode prog_4_method_13_code 15 = .ok (.ireturn, 1) := by decide +kernel
theorem zt_407 : (Cond.methodLink "MergeGraphs$Search" (122 : Nat) (⟨"MergeGraphs$Search", "keepOnly", "([JIJ)I"⟩ : MethodName)) ∈ zTg := zmem 407 (by decide +kernel) (by decide +kernel)
theorem zt_408 : (Cond.static (⟨"MergeGraphs$Search", "keepOnly", "([JIJ)I"⟩ : MethodName)) ∈ zTg := zmem 408 (by decide +kernel) (by decide +kernel)
def y_Se_loops : MethodName := ⟨"MergeGraphs$Search", "loops", "(I)J"⟩
abbrev M_Se_loops : zM := (nR1, prog_4_method_14_code, 5, (some .long), 1)
set_option maxRecDepth 100000 in
theorem zk_Se_loops : Cond.code y_Se_loops (M_Se_loops).2.1 (M_Se_loops).2.2.1 (M_Se_loops).2.2.2.1 ∈ zTg := zmem 413 rfl rfl
theorem zy_Se_loops : (y_Se_loops).cls ≠ "java/lang/invoke/MethodHandle" ∧ (y_Se_loops).cls ≠ "java/lang/invoke/VarHandle" ∧ (parseMethodDescriptor (y_Se_loops).desc).map (fun d => d.parameters.length) = some 1 := by decide +kernel
theorem d_Se_loops_0 : decode prog_4_method_14_code 0 = .ok (.lconst 0, 1) := by decide +kernel
theorem d_Se_loops_1 : decode prog_4_method_14_code 1 = .ok (.lstore_n 2, 1) := by decide +kernel
theorem d_Se_loops_2 : decode prog_4_method_14_code 2 = .ok (.iconst 0, 1) := by decide +kernel
theorem d_Se_loops_3 : decode prog_4_method_14_code 3 = .ok (.istore 4, 2) := by decide +kernel
theorem d_Se_loops_5 : decode prog_4_method_14_code 5 = .ok (.iload 4, 2) := by decide +kernel
theorem d_Se_loops_7 : decode prog_4_method_14_code 7 = .ok (.bipush 46, 2) := by decide +kernel
theorem d_Se_loops_9 : decode prog_4_method_14_code 9 = .ok (.if_icmp .ge 27, 3) := by decide +kernel
theorem d_Se_loops_12 : decode prog_4_method_14_code 12 = .ok (.lload_n 2, 1) := by decide +kernel
theorem d_Se_loops_13 : decode prog_4_method_14_code 13 = .ok (.aload_n 0, 1) := by decide +kernel
theorem d_Se_loops_14 : decode prog_4_method_14_code 14 = .ok (.getfield 35, 3) := by decide +kernel
theorem d_Se_loops_17 : decode prog_4_method_14_code 17 = .ok (.iload_n 1, 1) := by decide +kernel
theorem d_Se_loops_18 : decode prog_4_method_14_code 18 = .ok (.iload 4, 2) := by decide +kernel
theorem d_Se_loops_20 : decode prog_4_method_14_code 20 = .ok (.invokestatic 87, 3) := by decide +kernel
theorem d_Se_loops_23 : decode prog_4_method_14_code 23 = .ok (.lconst 1, 1) := by decide +kernel
theorem d_Se_loops_24 : decode prog_4_method_14_code 24 = .ok (.iload 4, 2) := by decide +kernel
theorem d_Se_loops_26 : decode prog_4_method_14_code 26 = .ok (.lshl, 1) := by decide +kernel
theorem d_Se_loops_27 : decode prog_4_method_14_code 27 = .ok (.land, 1) := by decide +kernel
theorem d_Se_loops_28 : decode prog_4_method_14_code 28 = .ok (.lor, 1) := by decide +kernel
theorem d_Se_loops_29 : decode prog_4_method_14_code 29 = .ok (.lstore_n 2, 1) := by decide +kernel
theorem d_Se_loops_30 : decode prog_4_method_14_code 30 = .ok (.iinc 4 1, 3) := by decide +kernel
theorem d_Se_loops_33 : decode prog_4_method_14_code 33 = .ok (.goto (-28), 3) := by decide +kernel
theorem d_Se_loops_36 : decode prog_4_method_14_code 36 = .ok (.lload_n 2, 1) := by decide +kernel
theorem d_Se_loops_37 : decode prog_4_method_14_code 37 = .ok (.lreturn, 1) := by decide +kernel
def y_Se_addLink : MethodName := ⟨"MergeGraphs$Search", "addLink", "(I)Z"⟩
abbrev M_Se_addLink : zM := (nR1, prog_4_method_12_code, 2, (some .boolean), 0)
set_option maxRecDepth 100000 in
theorem zk_Se_addLink : Cond.code y_Se_addLink (M_Se_addLink).2.1 (M_Se_addLink).2.2.1 (M_Se_addLink).2.2.2.1 ∈ zTg := zmem 417 rfl rfl
theorem zy_Se_addLink : (y_Se_addLink).cls ≠ "java/lang/invoke/MethodHandle" ∧ (y_Se_addLink).cls ≠ "java/lang/invoke/VarHandle" ∧ (parseMethodDescriptor (y_Se_addLink).desc).map (fun d => d.parameters.length) = some 1 := by decide +kernel
theorem d_Se_addLink_0 : decode prog_4_method_12_code 0 = .ok (.aload_n 0, 1) := by decide +kernel
theorem d_Se_addLink_1 : decode prog_4_method_12_code 1 = .ok (.getfield 26, 3) := by decide +kernel
theorem d_Se_addLink_4 : decode prog_4_method_12_code 4 = .ok (.aload_n 0, 1) := by decide +kernel
theorem d_Se_addLink_5 : decode prog_4_method_12_code 5 = .ok (.getfield 22, 3) := by decide +kernel
theorem d_Se_addLink_8 : decode prog_4_method_12_code 8 = .ok (.arraylength, 1) := by decide +kernel
theorem d_Se_addLink_9 : decode prog_4_method_12_code 9 = .ok (.if_icmp .lt 5, 3) := by decide +kernel
theorem d_Se_addLink_12 : decode prog_4_method_12_code 12 = .ok (.iconst 0, 1) := by decide +kernel
theorem d_Se_addLink_13 : decode prog_4_method_12_code 13 = .ok (.ireturn, 1) := by decide +kernel
theorem d_Se_addLink_14 : decode prog_4_method_12_code 14 = .ok (.aload_n 0, 1) := by decide +kernel
theorem d_Se_addLink_15 : decode prog_4_method_12_code 15 = .ok (.getfield 22, 3) := by decide +kernel
theorem d_Se_addLink_18 : decode prog_4_method_12_code 18 = .ok (.aload_n 0, 1) := by decide +kernel
theorem d_Se_addLink_19 : decode prog_4_method_12_code 19 = .ok (.getfield 26, 3) := by decide +kernel
theorem d_Se_addLink_22 : decode prog_4_method_12_code 22 = .ok (.iload_n 1, 1) := by decide +kernel
theorem d_Se_addLink_23 : decode prog_4_method_12_code 23 = .ok (.iastore, 1) := by decide +kernel
theorem d_Se_addLink_24 : decode prog_4_method_12_code 24 = .ok (.aload_n 0, 1) := by decide +kernel
theorem d_Se_addLink_25 : decode prog_4_method_12_code 25 = .ok (.dup, 1) := by decide +kernel
theorem d_Se_addLink_26 : decode prog_4_method_12_code 26 = .ok (.getfield 26, 3) := by decide +kernel
theorem d_Se_addLink_29 : decode prog_4_method_12_code 29 = .ok (.iconst 1, 1) := by decide +kernel
theorem d_Se_addLink_30 : decode prog_4_method_12_code 30 = .ok (.iadd, 1) := by decide +kernel
theorem d_Se_addLink_31 : decode prog_4_method_12_code 31 = .ok (.putfield 26, 3) := by decide +kernel
theorem d_Se_addLink_34 : decode prog_4_method_12_code 34 = .ok (.iconst 1, 1) := by decide +kernel
theorem d_Se_addLink_35 : decode prog_4_method_12_code 35 = .ok (.ireturn, 1) := by decide +kernel
theorem zf_Se_22 : Cond.fieldLink nR1 22 (nT1 2).1 (nT1 2).2.1 (nT1 2).2.2.1 ∈ zTg := zmem 94 (by decide +kernel) (by decide +kernel)
theorem zf_Se_26 : Cond.fieldLink nR1 26 (nT1 3).1 (nT1 3).2.1 (nT1 3).2.2.1 ∈ zTg := zmem 95 (by decide +kernel) (by decide +kernel)
def y_Se_takeIn : MethodName := ⟨"MergeGraphs$Search", "takeIn", "([JI)Z"⟩
abbrev M_Se_takeIn : zM := (nR1, prog_4_method_11_code, 6, (some .boolean), 2)
set_option maxRecDepth 100000 in
theorem zk_Se_takeIn : Cond.code y_Se_takeIn (M_Se_takeIn).2.1 (M_Se_takeIn).2.2.1 (M_Se_takeIn).2.2.2.1 ∈ zTg := zmem 400 rfl rfl
theorem zy_Se_takeIn : (y_Se_takeIn).cls ≠ "java/lang/invoke/MethodHandle" ∧ (y_Se_takeIn).cls ≠ "java/lang/invoke/VarHandle" ∧ (parseMethodDescriptor (y_Se_takeIn).desc).map (fun d => d.parameters.length) = some 2 := by decide +kernel
theorem d_Se_takeIn_0 : decode prog_4_method_11_code 0 = .ok (.iload_n 2, 1) := by decide +kernel
theorem d_Se_takeIn_1 : decode prog_4_method_11_code 1 = .ok (.invokestatic 78, 3) := by decide +kernel
theorem d_Se_takeIn_4 : decode prog_4_method_11_code 4 = .ok (.istore_n 3, 1) := by decide +kernel
theorem d_Se_takeIn_5 : decode prog_4_method_11_code 5 = .ok (.iload_n 2, 1) := by decide +kernel
theorem d_Se_takeIn_6 : decode prog_4_method_11_code 6 = .ok (.invokestatic 81, 3) := by decide +kernel
theorem d_Se_takeIn_9 : decode prog_4_method_11_code 9 = .ok (.istore 4, 2) := by decide +kernel
theorem d_Se_takeIn_11 : decode prog_4_method_11_code 11 = .ok (.iload_n 2, 1) := by decide +kernel
theorem d_Se_takeIn_12 : decode prog_4_method_11_code 12 = .ok (.invokestatic 84, 3) := by decide +kernel
theorem d_Se_takeIn_15 : decode prog_4_method_11_code 15 = .ok (.istore 5, 2) := by decide +kernel
theorem d_Se_takeIn_17 : decode prog_4_method_11_code 17 = .ok (.iload_n 3, 1) := by decide +kernel
theorem d_Se_takeIn_18 : decode prog_4_method_11_code 18 = .ok (.invokestatic 63, 3) := by decide +kernel
theorem d_Se_takeIn_21 : decode prog_4_method_11_code 21 = .ok (.ifCond .ne 27, 3) := by decide +kernel
theorem d_Se_takeIn_24 : decode prog_4_method_11_code 24 = .ok (.iload 5, 2) := by decide +kernel
theorem d_Se_takeIn_26 : decode prog_4_method_11_code 26 = .ok (.invokestatic 63, 3) := by decide +kernel
theorem d_Se_takeIn_29 : decode prog_4_method_11_code 29 = .ok (.ifCond .ne 19, 3) := by decide +kernel
theorem d_Se_takeIn_32 : decode prog_4_method_11_code 32 = .ok (.aload_n 0, 1) := by decide +kernel
theorem d_Se_takeIn_33 : decode prog_4_method_11_code 33 = .ok (.getfield 35, 3) := by decide +kernel
theorem d_Se_takeIn_36 : decode prog_4_method_11_code 36 = .ok (.iload 4, 2) := by decide +kernel
theorem d_Se_takeIn_38 : decode prog_4_method_11_code 38 = .ok (.iload_n 3, 1) := by decide +kernel
theorem d_Se_takeIn_39 : decode prog_4_method_11_code 39 = .ok (.invokestatic 87, 3) := by decide +kernel
theorem d_Se_takeIn_42 : decode prog_4_method_11_code 42 = .ok (.iload 5, 2) := by decide +kernel
theorem d_Se_takeIn_44 : decode prog_4_method_11_code 44 = .ok (.invokestatic 99, 3) := by decide +kernel
theorem d_Se_takeIn_47 : decode prog_4_method_11_code 47 = .ok (.ireturn, 1) := by decide +kernel
theorem d_Se_takeIn_48 : decode prog_4_method_11_code 48 = .ok (.iload_n 3, 1) := by decide +kernel
theorem d_Se_takeIn_49 : decode prog_4_method_11_code 49 = .ok (.invokestatic 63, 3) := by decide +kernel
theorem d_Se_takeIn_52 : decode prog_4_method_11_code 52 = .ok (.ifCond .ne 23, 3) := by decide +kernel
theorem d_Se_takeIn_55 : decode prog_4_method_11_code 55 = .ok (.aload_n 1, 1) := by decide +kernel
theorem d_Se_takeIn_56 : decode prog_4_method_11_code 56 = .ok (.iload 5, 2) := by decide +kernel
theorem d_Se_takeIn_58 : decode prog_4_method_11_code 58 = .ok (.bipush 40, 2) := by decide +kernel
theorem d_Se_takeIn_60 : decode prog_4_method_11_code 60 = .ok (.isub, 1) := by decide +kernel
theorem d_Se_takeIn_61 : decode prog_4_method_11_code 61 = .ok (.aload_n 0, 1) := by decide +kernel
theorem d_Se_takeIn_62 : decode prog_4_method_11_code 62 = .ok (.getfield 35, 3) := by decide +kernel
theorem d_Se_takeIn_65 : decode prog_4_method_11_code 65 = .ok (.iload 4, 2) := by decide +kernel
theorem d_Se_takeIn_67 : decode prog_4_method_11_code 67 = .ok (.iload_n 3, 1) := by decide +kernel
theorem d_Se_takeIn_68 : decode prog_4_method_11_code 68 = .ok (.invokestatic 87, 3) := by decide +kernel
theorem d_Se_takeIn_71 : decode prog_4_method_11_code 71 = .ok (.invokestatic 111, 3) := by decide +kernel
theorem d_Se_takeIn_74 : decode prog_4_method_11_code 74 = .ok (.ireturn, 1) := by decide +kernel
theorem d_Se_takeIn_75 : decode prog_4_method_11_code 75 = .ok (.iload 5, 2) := by decide +kernel
theorem d_Se_takeIn_77 : decode prog_4_method_11_code 77 = .ok (.invokestatic 63, 3) := by decide +kernel
theorem d_Se_takeIn_80 : decode prog_4_method_11_code 80 = .ok (.ifCond .ne 23, 3) := by decide +kernel
theorem d_Se_takeIn_83 : decode prog_4_method_11_code 83 = .ok (.aload_n 1, 1) := by decide +kernel
theorem d_Se_takeIn_84 : decode prog_4_method_11_code 84 = .ok (.iload_n 3, 1) := by decide +kernel
theorem d_Se_takeIn_85 : decode prog_4_method_11_code 85 = .ok (.bipush 40, 2) := by decide +kernel
theorem d_Se_takeIn_87 : decode prog_4_method_11_code 87 = .ok (.isub, 1) := by decide +kernel
theorem d_Se_takeIn_88 : decode prog_4_method_11_code 88 = .ok (.aload_n 0, 1) := by decide +kernel
theorem d_Se_takeIn_89 : decode prog_4_method_11_code 89 = .ok (.getfield 39, 3) := by decide +kernel
theorem d_Se_takeIn_92 : decode prog_4_method_11_code 92 = .ok (.iload 4, 2) := by decide +kernel
theorem d_Se_takeIn_94 : decode prog_4_method_11_code 94 = .ok (.iload 5, 2) := by decide +kernel
theorem d_Se_takeIn_96 : decode prog_4_method_11_code 96 = .ok (.invokestatic 87, 3) := by decide +kernel
theorem d_Se_takeIn_99 : decode prog_4_method_11_code 99 = .ok (.invokestatic 111, 3) := by decide +kernel
theorem d_Se_takeIn_102 : decode prog_4_method_11_code 102 = .ok (.ireturn, 1) := by decide +kernel
theorem d_Se_takeIn_103 : decode prog_4_method_11_code 103 = .ok (.iload_n 3, 1) := by decide +kernel
theorem d_Se_takeIn_104 : decode prog_4_method_11_code 104 = .ok (.iload 5, 2) := by decide +kernel
theorem d_Se_takeIn_106 : decode prog_4_method_11_code 106 = .ok (.if_icmp .ne 18, 3) := by decide +kernel
theorem d_Se_takeIn_109 : decode prog_4_method_11_code 109 = .ok (.aload_n 1, 1) := by decide +kernel
theorem d_Se_takeIn_110 : decode prog_4_method_11_code 110 = .ok (.iload_n 3, 1) := by decide +kernel
theorem d_Se_takeIn_111 : decode prog_4_method_11_code 111 = .ok (.bipush 40, 2) := by decide +kernel
theorem d_Se_takeIn_113 : decode prog_4_method_11_code 113 = .ok (.isub, 1) := by decide +kernel
theorem d_Se_takeIn_114 : decode prog_4_method_11_code 114 = .ok (.aload_n 0, 1) := by decide +kernel
theorem d_Se_takeIn_115 : decode prog_4_method_11_code 115 = .ok (.iload 4, 2) := by decide +kernel
theorem d_Se_takeIn_117 : decode prog_4_method_11_code 117 = .ok (.invokevirtual 115, 3) := by decide +kernel
theorem d_Se_takeIn_120 : decode prog_4_method_11_code 120 = .ok (.invokestatic 111, 3) := by decide +kernel
theorem d_Se_takeIn_123 : decode prog_4_method_11_code 123 = .ok (.ireturn, 1) := by decide +kernel
theorem d_Se_takeIn_124 : decode prog_4_method_11_code 124 = .ok (.aload_n 0, 1) := by decide +kernel
theorem d_Se_takeIn_125 : decode prog_4_method_11_code 125 = .ok (.iload_n 2, 1) := by decide +kernel
theorem d_Se_takeIn_126 : decode prog_4_method_11_code 126 = .ok (.invokevirtual 119, 3) := by decide +kernel
theorem d_Se_takeIn_129 : decode prog_4_method_11_code 129 = .ok (.ireturn, 1) := by decide +kernel
theorem zt_7 : (Cond.selects "MergeGraphs$Search" (⟨"MergeGraphs$Search", "loops", "(I)J"⟩ : MethodName) (⟨"MergeGraphs$Search", "loops", "(I)J"⟩ : MethodName)) ∈ zTg := zmem 7 (by decide +kernel) (by decide +kernel)
theorem zt_8 : (Cond.selects "MergeGraphs$Search" (⟨"MergeGraphs$Search", "addLink", "(I)Z"⟩ : MethodName) (⟨"MergeGraphs$Search", "addLink", "(I)Z"⟩ : MethodName)) ∈ zTg := zmem 8 (by decide +kernel) (by decide +kernel)
theorem zt_395 : (Cond.static (⟨"MergeGraphs", "isIn", "(JI)Z"⟩ : MethodName)) ∈ zTg := zmem 395 (by decide +kernel) (by decide +kernel)
theorem zt_404 : (Cond.methodLink "MergeGraphs$Search" (111 : Nat) (⟨"MergeGraphs$Search", "limit", "([JIJ)Z"⟩ : MethodName)) ∈ zTg := zmem 404 (by decide +kernel) (by decide +kernel)
theorem zt_405 : (Cond.static (⟨"MergeGraphs$Search", "limit", "([JIJ)Z"⟩ : MethodName)) ∈ zTg := zmem 405 (by decide +kernel) (by decide +kernel)
theorem zt_410 : (Cond.methodLink "MergeGraphs$Search" (115 : Nat) (⟨"MergeGraphs$Search", "loops", "(I)J"⟩ : MethodName)) ∈ zTg := zmem 410 (by decide +kernel) (by decide +kernel)
theorem zt_412 : (Cond.instanceMethod (⟨"MergeGraphs$Search", "loops", "(I)J"⟩ : MethodName)) ∈ zTg := zmem 412 (by decide +kernel) (by decide +kernel)
theorem zt_414 : (Cond.methodLink "MergeGraphs$Search" (119 : Nat) (⟨"MergeGraphs$Search", "addLink", "(I)Z"⟩ : MethodName)) ∈ zTg := zmem 414 (by decide +kernel) (by decide +kernel)
theorem zt_416 : (Cond.instanceMethod (⟨"MergeGraphs$Search", "addLink", "(I)Z"⟩ : MethodName)) ∈ zTg := zmem 416 (by decide +kernel) (by decide +kernel)
def y_Se_reach : MethodName := ⟨"MergeGraphs$Search", "reach", "([JIJ)J"⟩
abbrev M_Se_reach : zM := (nR1, prog_4_method_22_code, 9, (some .long), 1)
set_option maxRecDepth 100000 in
theorem zk_Se_reach : Cond.code y_Se_reach (M_Se_reach).2.1 (M_Se_reach).2.2.1 (M_Se_reach).2.2.2.1 ∈ zTg := zmem 431 rfl rfl
theorem zy_Se_reach : (y_Se_reach).cls ≠ "java/lang/invoke/MethodHandle" ∧ (y_Se_reach).cls ≠ "java/lang/invoke/VarHandle" ∧ (parseMethodDescriptor (y_Se_reach).desc).map (fun d => d.parameters.length) = some 3 := by decide +kernel
theorem d_Se_reach_0 : decode prog_4_method_22_code 0 = .ok (.lconst 0, 1) := by decide +kernel
theorem d_Se_reach_1 : decode prog_4_method_22_code 1 = .ok (.lstore 4, 2) := by decide +kernel
theorem d_Se_reach_3 : decode prog_4_method_22_code 3 = .ok (.lload_n 2, 1) := by decide +kernel
theorem d_Se_reach_4 : decode prog_4_method_22_code 4 = .ok (.lstore 6, 2) := by decide +kernel
theorem d_Se_reach_6 : decode prog_4_method_22_code 6 = .ok (.lload 6, 2) := by decide +kernel
theorem d_Se_reach_8 : decode prog_4_method_22_code 8 = .ok (.invokestatic 133, 3) := by decide +kernel
theorem d_Se_reach_11 : decode prog_4_method_22_code 11 = .ok (.istore 8, 2) := by decide +kernel
theorem d_Se_reach_13 : decode prog_4_method_22_code 13 = .ok (.iload 8, 2) := by decide +kernel
theorem d_Se_reach_15 : decode prog_4_method_22_code 15 = .ok (.ifCond .le 39, 3) := by decide +kernel
theorem d_Se_reach_18 : decode prog_4_method_22_code 18 = .ok (.lload 4, 2) := by decide +kernel
theorem d_Se_reach_20 : decode prog_4_method_22_code 20 = .ok (.aload_n 0, 1) := by decide +kernel
theorem d_Se_reach_21 : decode prog_4_method_22_code 21 = .ok (.iload_n 1, 1) := by decide +kernel
theorem d_Se_reach_22 : decode prog_4_method_22_code 22 = .ok (.lload 6, 2) := by decide +kernel
theorem d_Se_reach_24 : decode prog_4_method_22_code 24 = .ok (.lload 6, 2) := by decide +kernel
theorem d_Se_reach_26 : decode prog_4_method_22_code 26 = .ok (.lneg, 1) := by decide +kernel
theorem d_Se_reach_27 : decode prog_4_method_22_code 27 = .ok (.land, 1) := by decide +kernel
theorem d_Se_reach_28 : decode prog_4_method_22_code 28 = .ok (.lconst 1, 1) := by decide +kernel
theorem d_Se_reach_29 : decode prog_4_method_22_code 29 = .ok (.lsub, 1) := by decide +kernel
theorem d_Se_reach_30 : decode prog_4_method_22_code 30 = .ok (.invokestatic 133, 3) := by decide +kernel
theorem d_Se_reach_33 : decode prog_4_method_22_code 33 = .ok (.invokestatic 87, 3) := by decide +kernel
theorem d_Se_reach_36 : decode prog_4_method_22_code 36 = .ok (.lor, 1) := by decide +kernel
theorem d_Se_reach_37 : decode prog_4_method_22_code 37 = .ok (.lstore 4, 2) := by decide +kernel
theorem d_Se_reach_39 : decode prog_4_method_22_code 39 = .ok (.lload 6, 2) := by decide +kernel
theorem d_Se_reach_41 : decode prog_4_method_22_code 41 = .ok (.lload 6, 2) := by decide +kernel
theorem d_Se_reach_43 : decode prog_4_method_22_code 43 = .ok (.lconst 1, 1) := by decide +kernel
theorem d_Se_reach_44 : decode prog_4_method_22_code 44 = .ok (.lsub, 1) := by decide +kernel
theorem d_Se_reach_45 : decode prog_4_method_22_code 45 = .ok (.land, 1) := by decide +kernel
theorem d_Se_reach_46 : decode prog_4_method_22_code 46 = .ok (.lstore 6, 2) := by decide +kernel
theorem d_Se_reach_48 : decode prog_4_method_22_code 48 = .ok (.iinc 8 (-1), 3) := by decide +kernel
theorem d_Se_reach_51 : decode prog_4_method_22_code 51 = .ok (.goto (-38), 3) := by decide +kernel
theorem d_Se_reach_54 : decode prog_4_method_22_code 54 = .ok (.lload 4, 2) := by decide +kernel
theorem d_Se_reach_56 : decode prog_4_method_22_code 56 = .ok (.lreturn, 1) := by decide +kernel
theorem zt_432 : (Cond.methodLink "MergeGraphs$Search" (133 : Nat) (⟨"java/lang/Long", "bitCount", "(J)I"⟩ : MethodName)) ∈ zTg := zmem 432 (by decide +kernel) (by decide +kernel)
def y_Se_narrowOthers : MethodName := ⟨"MergeGraphs$Search", "narrowOthers", "([JIJ)I"⟩
abbrev M_Se_narrowOthers : zM := (nR1, prog_4_method_20_code, 6, (some .int), 1)
set_option maxRecDepth 100000 in
theorem zk_Se_narrowOthers : Cond.code y_Se_narrowOthers (M_Se_narrowOthers).2.1 (M_Se_narrowOthers).2.2.1 (M_Se_narrowOthers).2.2.2.1 ∈ zTg := zmem 435 rfl rfl
theorem zy_Se_narrowOthers : (y_Se_narrowOthers).cls ≠ "java/lang/invoke/MethodHandle" ∧ (y_Se_narrowOthers).cls ≠ "java/lang/invoke/VarHandle" ∧ (parseMethodDescriptor (y_Se_narrowOthers).desc).map (fun d => d.parameters.length) = some 3 := by decide +kernel
theorem d_Se_narrowOthers_0 : decode prog_4_method_20_code 0 = .ok (.iconst 0, 1) := by decide +kernel
theorem d_Se_narrowOthers_1 : decode prog_4_method_20_code 1 = .ok (.istore 4, 2) := by decide +kernel
theorem d_Se_narrowOthers_3 : decode prog_4_method_20_code 3 = .ok (.iconst 0, 1) := by decide +kernel
theorem d_Se_narrowOthers_4 : decode prog_4_method_20_code 4 = .ok (.istore 5, 2) := by decide +kernel
theorem d_Se_narrowOthers_6 : decode prog_4_method_20_code 6 = .ok (.iload 5, 2) := by decide +kernel
theorem d_Se_narrowOthers_8 : decode prog_4_method_20_code 8 = .ok (.aload_n 0, 1) := by decide +kernel
theorem d_Se_narrowOthers_9 : decode prog_4_method_20_code 9 = .ok (.arraylength, 1) := by decide +kernel
theorem d_Se_narrowOthers_10 : decode prog_4_method_20_code 10 = .ok (.if_icmp .ge 40, 3) := by decide +kernel
theorem d_Se_narrowOthers_13 : decode prog_4_method_20_code 13 = .ok (.iload 5, 2) := by decide +kernel
theorem d_Se_narrowOthers_15 : decode prog_4_method_20_code 15 = .ok (.iload_n 1, 1) := by decide +kernel
theorem d_Se_narrowOthers_16 : decode prog_4_method_20_code 16 = .ok (.if_icmp .eq 28, 3) := by decide +kernel
theorem d_Se_narrowOthers_19 : decode prog_4_method_20_code 19 = .ok (.aload_n 0, 1) := by decide +kernel
theorem d_Se_narrowOthers_20 : decode prog_4_method_20_code 20 = .ok (.iload 5, 2) := by decide +kernel
theorem d_Se_narrowOthers_22 : decode prog_4_method_20_code 22 = .ok (.laload, 1) := by decide +kernel
theorem d_Se_narrowOthers_23 : decode prog_4_method_20_code 23 = .ok (.lconst 0, 1) := by decide +kernel
theorem d_Se_narrowOthers_24 : decode prog_4_method_20_code 24 = .ok (.lcmp, 1) := by decide +kernel
theorem d_Se_narrowOthers_25 : decode prog_4_method_20_code 25 = .ok (.ifCond .eq 19, 3) := by decide +kernel
theorem d_Se_narrowOthers_28 : decode prog_4_method_20_code 28 = .ok (.iload 4, 2) := by decide +kernel
theorem d_Se_narrowOthers_30 : decode prog_4_method_20_code 30 = .ok (.aload_n 0, 1) := by decide +kernel
theorem d_Se_narrowOthers_31 : decode prog_4_method_20_code 31 = .ok (.iload 5, 2) := by decide +kernel
theorem d_Se_narrowOthers_33 : decode prog_4_method_20_code 33 = .ok (.lload_n 2, 1) := by decide +kernel
theorem d_Se_narrowOthers_34 : decode prog_4_method_20_code 34 = .ok (.ldc2_w 152, 3) := by decide +kernel
theorem d_Se_narrowOthers_37 : decode prog_4_method_20_code 37 = .ok (.lxor, 1) := by decide +kernel
theorem d_Se_narrowOthers_38 : decode prog_4_method_20_code 38 = .ok (.invokestatic 122, 3) := by decide +kernel
theorem d_Se_narrowOthers_41 : decode prog_4_method_20_code 41 = .ok (.ior, 1) := by decide +kernel
theorem d_Se_narrowOthers_42 : decode prog_4_method_20_code 42 = .ok (.istore 4, 2) := by decide +kernel
theorem d_Se_narrowOthers_44 : decode prog_4_method_20_code 44 = .ok (.iinc 5 1, 3) := by decide +kernel
theorem d_Se_narrowOthers_47 : decode prog_4_method_20_code 47 = .ok (.goto (-41), 3) := by decide +kernel
theorem d_Se_narrowOthers_50 : decode prog_4_method_20_code 50 = .ok (.iload 4, 2) := by decide +kernel
theorem d_Se_narrowOthers_52 : decode prog_4_method_20_code 52 = .ok (.ireturn, 1) := by decide +kernel
theorem zt_436 : (Cond.constantLong "MergeGraphs$Search" (152 : Nat) (-1 : Int64)) ∈ zTg := zmem 436 (by decide +kernel) (by decide +kernel)
def y_Se_narrowLinked : MethodName := ⟨"MergeGraphs$Search", "narrowLinked", "([JIJ)I"⟩
abbrev M_Se_narrowLinked : zM := (nR1, prog_4_method_19_code, 9, (some .int), 2)
set_option maxRecDepth 100000 in
theorem zk_Se_narrowLinked : Cond.code y_Se_narrowLinked (M_Se_narrowLinked).2.1 (M_Se_narrowLinked).2.2.1 (M_Se_narrowLinked).2.2.2.1 ∈ zTg := zmem 428 rfl rfl
theorem zy_Se_narrowLinked : (y_Se_narrowLinked).cls ≠ "java/lang/invoke/MethodHandle" ∧ (y_Se_narrowLinked).cls ≠ "java/lang/invoke/VarHandle" ∧ (parseMethodDescriptor (y_Se_narrowLinked).desc).map (fun d => d.parameters.length) = some 3 := by decide +kernel
theorem d_Se_narrowLinked_0 : decode prog_4_method_19_code 0 = .ok (.iconst 0, 1) := by decide +kernel
theorem d_Se_narrowLinked_1 : decode prog_4_method_19_code 1 = .ok (.istore 5, 2) := by decide +kernel
theorem d_Se_narrowLinked_3 : decode prog_4_method_19_code 3 = .ok (.iconst 0, 1) := by decide +kernel
theorem d_Se_narrowLinked_4 : decode prog_4_method_19_code 4 = .ok (.istore 6, 2) := by decide +kernel
theorem d_Se_narrowLinked_6 : decode prog_4_method_19_code 6 = .ok (.iload 6, 2) := by decide +kernel
theorem d_Se_narrowLinked_8 : decode prog_4_method_19_code 8 = .ok (.aload_n 0, 1) := by decide +kernel
theorem d_Se_narrowLinked_9 : decode prog_4_method_19_code 9 = .ok (.getfield 26, 3) := by decide +kernel
theorem d_Se_narrowLinked_12 : decode prog_4_method_19_code 12 = .ok (.if_icmp .ge 129, 3) := by decide +kernel
theorem d_Se_narrowLinked_15 : decode prog_4_method_19_code 15 = .ok (.iload 6, 2) := by decide +kernel
theorem d_Se_narrowLinked_17 : decode prog_4_method_19_code 17 = .ok (.aload_n 0, 1) := by decide +kernel
theorem d_Se_narrowLinked_18 : decode prog_4_method_19_code 18 = .ok (.getfield 22, 3) := by decide +kernel
theorem d_Se_narrowLinked_21 : decode prog_4_method_19_code 21 = .ok (.arraylength, 1) := by decide +kernel
theorem d_Se_narrowLinked_22 : decode prog_4_method_19_code 22 = .ok (.if_icmp .ge 119, 3) := by decide +kernel
theorem d_Se_narrowLinked_25 : decode prog_4_method_19_code 25 = .ok (.aload_n 0, 1) := by decide +kernel
theorem d_Se_narrowLinked_26 : decode prog_4_method_19_code 26 = .ok (.getfield 22, 3) := by decide +kernel
theorem d_Se_narrowLinked_29 : decode prog_4_method_19_code 29 = .ok (.iload 6, 2) := by decide +kernel
theorem d_Se_narrowLinked_31 : decode prog_4_method_19_code 31 = .ok (.iaload, 1) := by decide +kernel
theorem d_Se_narrowLinked_32 : decode prog_4_method_19_code 32 = .ok (.invokestatic 78, 3) := by decide +kernel
theorem d_Se_narrowLinked_35 : decode prog_4_method_19_code 35 = .ok (.bipush 40, 2) := by decide +kernel
theorem d_Se_narrowLinked_37 : decode prog_4_method_19_code 37 = .ok (.isub, 1) := by decide +kernel
theorem d_Se_narrowLinked_38 : decode prog_4_method_19_code 38 = .ok (.istore 7, 2) := by decide +kernel
theorem d_Se_narrowLinked_40 : decode prog_4_method_19_code 40 = .ok (.aload_n 0, 1) := by decide +kernel
theorem d_Se_narrowLinked_41 : decode prog_4_method_19_code 41 = .ok (.getfield 22, 3) := by decide +kernel
theorem d_Se_narrowLinked_44 : decode prog_4_method_19_code 44 = .ok (.iload 6, 2) := by decide +kernel
theorem d_Se_narrowLinked_46 : decode prog_4_method_19_code 46 = .ok (.iaload, 1) := by decide +kernel
theorem d_Se_narrowLinked_47 : decode prog_4_method_19_code 47 = .ok (.invokestatic 84, 3) := by decide +kernel
theorem d_Se_narrowLinked_50 : decode prog_4_method_19_code 50 = .ok (.bipush 40, 2) := by decide +kernel
theorem d_Se_narrowLinked_52 : decode prog_4_method_19_code 52 = .ok (.isub, 1) := by decide +kernel
theorem d_Se_narrowLinked_53 : decode prog_4_method_19_code 53 = .ok (.istore 8, 2) := by decide +kernel
theorem d_Se_narrowLinked_55 : decode prog_4_method_19_code 55 = .ok (.iload 7, 2) := by decide +kernel
theorem d_Se_narrowLinked_57 : decode prog_4_method_19_code 57 = .ok (.iload_n 2, 1) := by decide +kernel
theorem d_Se_narrowLinked_58 : decode prog_4_method_19_code 58 = .ok (.if_icmp .ne 35, 3) := by decide +kernel
theorem d_Se_narrowLinked_61 : decode prog_4_method_19_code 61 = .ok (.iload 5, 2) := by decide +kernel
theorem d_Se_narrowLinked_63 : decode prog_4_method_19_code 63 = .ok (.aload_n 1, 1) := by decide +kernel
theorem d_Se_narrowLinked_64 : decode prog_4_method_19_code 64 = .ok (.iload 8, 2) := by decide +kernel
theorem d_Se_narrowLinked_66 : decode prog_4_method_19_code 66 = .ok (.aload_n 0, 1) := by decide +kernel
theorem d_Se_narrowLinked_67 : decode prog_4_method_19_code 67 = .ok (.getfield 35, 3) := by decide +kernel
theorem d_Se_narrowLinked_70 : decode prog_4_method_19_code 70 = .ok (.aload_n 0, 1) := by decide +kernel
theorem d_Se_narrowLinked_71 : decode prog_4_method_19_code 71 = .ok (.getfield 22, 3) := by decide +kernel
theorem d_Se_narrowLinked_74 : decode prog_4_method_19_code 74 = .ok (.iload 6, 2) := by decide +kernel
theorem d_Se_narrowLinked_76 : decode prog_4_method_19_code 76 = .ok (.iaload, 1) := by decide +kernel
theorem d_Se_narrowLinked_77 : decode prog_4_method_19_code 77 = .ok (.invokestatic 81, 3) := by decide +kernel
theorem d_Se_narrowLinked_80 : decode prog_4_method_19_code 80 = .ok (.lload_n 3, 1) := by decide +kernel
theorem d_Se_narrowLinked_81 : decode prog_4_method_19_code 81 = .ok (.invokestatic 148, 3) := by decide +kernel
theorem d_Se_narrowLinked_84 : decode prog_4_method_19_code 84 = .ok (.invokestatic 122, 3) := by decide +kernel
theorem d_Se_narrowLinked_87 : decode prog_4_method_19_code 87 = .ok (.ior, 1) := by decide +kernel
theorem d_Se_narrowLinked_88 : decode prog_4_method_19_code 88 = .ok (.istore 5, 2) := by decide +kernel
theorem d_Se_narrowLinked_90 : decode prog_4_method_19_code 90 = .ok (.goto 38, 3) := by decide +kernel
theorem d_Se_narrowLinked_93 : decode prog_4_method_19_code 93 = .ok (.iload 8, 2) := by decide +kernel
theorem d_Se_narrowLinked_95 : decode prog_4_method_19_code 95 = .ok (.iload_n 2, 1) := by decide +kernel
theorem d_Se_narrowLinked_96 : decode prog_4_method_19_code 96 = .ok (.if_icmp .ne 32, 3) := by decide +kernel
theorem d_Se_narrowLinked_99 : decode prog_4_method_19_code 99 = .ok (.iload 5, 2) := by decide +kernel
theorem d_Se_narrowLinked_101 : decode prog_4_method_19_code 101 = .ok (.aload_n 1, 1) := by decide +kernel
theorem d_Se_narrowLinked_102 : decode prog_4_method_19_code 102 = .ok (.iload 7, 2) := by decide +kernel
theorem d_Se_narrowLinked_104 : decode prog_4_method_19_code 104 = .ok (.aload_n 0, 1) := by decide +kernel
theorem d_Se_narrowLinked_105 : decode prog_4_method_19_code 105 = .ok (.getfield 39, 3) := by decide +kernel
theorem d_Se_narrowLinked_108 : decode prog_4_method_19_code 108 = .ok (.aload_n 0, 1) := by decide +kernel
theorem d_Se_narrowLinked_109 : decode prog_4_method_19_code 109 = .ok (.getfield 22, 3) := by decide +kernel
theorem d_Se_narrowLinked_112 : decode prog_4_method_19_code 112 = .ok (.iload 6, 2) := by decide +kernel
theorem d_Se_narrowLinked_114 : decode prog_4_method_19_code 114 = .ok (.iaload, 1) := by decide +kernel
theorem d_Se_narrowLinked_115 : decode prog_4_method_19_code 115 = .ok (.invokestatic 81, 3) := by decide +kernel
theorem d_Se_narrowLinked_118 : decode prog_4_method_19_code 118 = .ok (.lload_n 3, 1) := by decide +kernel
theorem d_Se_narrowLinked_119 : decode prog_4_method_19_code 119 = .ok (.invokestatic 148, 3) := by decide +kernel
theorem d_Se_narrowLinked_122 : decode prog_4_method_19_code 122 = .ok (.invokestatic 122, 3) := by decide +kernel
theorem d_Se_narrowLinked_125 : decode prog_4_method_19_code 125 = .ok (.ior, 1) := by decide +kernel
theorem d_Se_narrowLinked_126 : decode prog_4_method_19_code 126 = .ok (.istore 5, 2) := by decide +kernel
theorem d_Se_narrowLinked_128 : decode prog_4_method_19_code 128 = .ok (.iload 5, 2) := by decide +kernel
theorem d_Se_narrowLinked_130 : decode prog_4_method_19_code 130 = .ok (.ifCond .ge 5, 3) := by decide +kernel
theorem d_Se_narrowLinked_133 : decode prog_4_method_19_code 133 = .ok (.iconst (-1), 1) := by decide +kernel
theorem d_Se_narrowLinked_134 : decode prog_4_method_19_code 134 = .ok (.ireturn, 1) := by decide +kernel
theorem d_Se_narrowLinked_135 : decode prog_4_method_19_code 135 = .ok (.iinc 6 1, 3) := by decide +kernel
theorem d_Se_narrowLinked_138 : decode prog_4_method_19_code 138 = .ok (.goto (-132), 3) := by decide +kernel
theorem d_Se_narrowLinked_141 : decode prog_4_method_19_code 141 = .ok (.iload 5, 2) := by decide +kernel
theorem d_Se_narrowLinked_143 : decode prog_4_method_19_code 143 = .ok (.ireturn, 1) := by decide +kernel
theorem zt_429 : (Cond.methodLink "MergeGraphs$Search" (148 : Nat) (⟨"MergeGraphs$Search", "reach", "([JIJ)J"⟩ : MethodName)) ∈ zTg := zmem 429 (by decide +kernel) (by decide +kernel)
theorem zt_430 : (Cond.static (⟨"MergeGraphs$Search", "reach", "([JIJ)J"⟩ : MethodName)) ∈ zTg := zmem 430 (by decide +kernel) (by decide +kernel)
def y_Se_narrow : MethodName := ⟨"MergeGraphs$Search", "narrow", "([JIZ)Z"⟩
abbrev M_Se_narrow : zM := (nR1, prog_4_method_18_code, 11, (some .boolean), 3)
set_option maxRecDepth 100000 in
theorem zk_Se_narrow : Cond.code y_Se_narrow (M_Se_narrow).2.1 (M_Se_narrow).2.2.1 (M_Se_narrow).2.2.2.1 ∈ zTg := zmem 421 rfl rfl
theorem zy_Se_narrow : (y_Se_narrow).cls ≠ "java/lang/invoke/MethodHandle" ∧ (y_Se_narrow).cls ≠ "java/lang/invoke/VarHandle" ∧ (parseMethodDescriptor (y_Se_narrow).desc).map (fun d => d.parameters.length) = some 3 := by decide +kernel
theorem d_Se_narrow_0 : decode prog_4_method_18_code 0 = .ok (.iload_n 2, 1) := by decide +kernel
theorem d_Se_narrow_1 : decode prog_4_method_18_code 1 = .ok (.istore 4, 2) := by decide +kernel
theorem d_Se_narrow_3 : decode prog_4_method_18_code 3 = .ok (.iconst 0, 1) := by decide +kernel
theorem d_Se_narrow_4 : decode prog_4_method_18_code 4 = .ok (.istore 5, 2) := by decide +kernel
theorem d_Se_narrow_6 : decode prog_4_method_18_code 6 = .ok (.iload 5, 2) := by decide +kernel
theorem d_Se_narrow_8 : decode prog_4_method_18_code 8 = .ok (.sipush 282, 3) := by decide +kernel
theorem d_Se_narrow_11 : decode prog_4_method_18_code 11 = .ok (.if_icmp .ge 138, 3) := by decide +kernel
theorem d_Se_narrow_14 : decode prog_4_method_18_code 14 = .ok (.iload 4, 2) := by decide +kernel
theorem d_Se_narrow_16 : decode prog_4_method_18_code 16 = .ok (.ifCond .eq 133, 3) := by decide +kernel
theorem d_Se_narrow_19 : decode prog_4_method_18_code 19 = .ok (.iload 4, 2) := by decide +kernel
theorem d_Se_narrow_21 : decode prog_4_method_18_code 21 = .ok (.i2l, 1) := by decide +kernel
theorem d_Se_narrow_22 : decode prog_4_method_18_code 22 = .ok (.invokestatic 139, 3) := by decide +kernel
theorem d_Se_narrow_25 : decode prog_4_method_18_code 25 = .ok (.istore 6, 2) := by decide +kernel
theorem d_Se_narrow_27 : decode prog_4_method_18_code 27 = .ok (.iload 4, 2) := by decide +kernel
theorem d_Se_narrow_29 : decode prog_4_method_18_code 29 = .ok (.iload 4, 2) := by decide +kernel
theorem d_Se_narrow_31 : decode prog_4_method_18_code 31 = .ok (.iconst 1, 1) := by decide +kernel
theorem d_Se_narrow_32 : decode prog_4_method_18_code 32 = .ok (.isub, 1) := by decide +kernel
theorem d_Se_narrow_33 : decode prog_4_method_18_code 33 = .ok (.iand, 1) := by decide +kernel
theorem d_Se_narrow_34 : decode prog_4_method_18_code 34 = .ok (.istore 4, 2) := by decide +kernel
theorem d_Se_narrow_36 : decode prog_4_method_18_code 36 = .ok (.iload 6, 2) := by decide +kernel
theorem d_Se_narrow_38 : decode prog_4_method_18_code 38 = .ok (.aload_n 1, 1) := by decide +kernel
theorem d_Se_narrow_39 : decode prog_4_method_18_code 39 = .ok (.arraylength, 1) := by decide +kernel
theorem d_Se_narrow_40 : decode prog_4_method_18_code 40 = .ok (.if_icmp .ge 10, 3) := by decide +kernel
theorem d_Se_narrow_43 : decode prog_4_method_18_code 43 = .ok (.aload_n 1, 1) := by decide +kernel
theorem d_Se_narrow_44 : decode prog_4_method_18_code 44 = .ok (.iload 6, 2) := by decide +kernel
theorem d_Se_narrow_46 : decode prog_4_method_18_code 46 = .ok (.laload, 1) := by decide +kernel
theorem d_Se_narrow_47 : decode prog_4_method_18_code 47 = .ok (.goto 4, 3) := by decide +kernel
theorem d_Se_narrow_50 : decode prog_4_method_18_code 50 = .ok (.lconst 0, 1) := by decide +kernel
theorem d_Se_narrow_51 : decode prog_4_method_18_code 51 = .ok (.lstore 7, 2) := by decide +kernel
theorem d_Se_narrow_53 : decode prog_4_method_18_code 53 = .ok (.lload 7, 2) := by decide +kernel
theorem d_Se_narrow_55 : decode prog_4_method_18_code 55 = .ok (.lload 7, 2) := by decide +kernel
theorem d_Se_narrow_57 : decode prog_4_method_18_code 57 = .ok (.lconst 1, 1) := by decide +kernel
theorem d_Se_narrow_58 : decode prog_4_method_18_code 58 = .ok (.lsub, 1) := by decide +kernel
theorem d_Se_narrow_59 : decode prog_4_method_18_code 59 = .ok (.land, 1) := by decide +kernel
theorem d_Se_narrow_60 : decode prog_4_method_18_code 60 = .ok (.lconst 0, 1) := by decide +kernel
theorem d_Se_narrow_61 : decode prog_4_method_18_code 61 = .ok (.lcmp, 1) := by decide +kernel
theorem d_Se_narrow_62 : decode prog_4_method_18_code 62 = .ok (.ifCond .ne 7, 3) := by decide +kernel
theorem d_Se_narrow_65 : decode prog_4_method_18_code 65 = .ok (.iconst 1, 1) := by decide +kernel
theorem d_Se_narrow_66 : decode prog_4_method_18_code 66 = .ok (.goto 4, 3) := by decide +kernel
theorem d_Se_narrow_69 : decode prog_4_method_18_code 69 = .ok (.iconst 0, 1) := by decide +kernel
theorem d_Se_narrow_70 : decode prog_4_method_18_code 70 = .ok (.istore 9, 2) := by decide +kernel
theorem d_Se_narrow_72 : decode prog_4_method_18_code 72 = .ok (.lload 7, 2) := by decide +kernel
theorem d_Se_narrow_74 : decode prog_4_method_18_code 74 = .ok (.lconst 0, 1) := by decide +kernel
theorem d_Se_narrow_75 : decode prog_4_method_18_code 75 = .ok (.lcmp, 1) := by decide +kernel
theorem d_Se_narrow_76 : decode prog_4_method_18_code 76 = .ok (.ifCond .eq 67, 3) := by decide +kernel
theorem d_Se_narrow_79 : decode prog_4_method_18_code 79 = .ok (.iload_n 3, 1) := by decide +kernel
theorem d_Se_narrow_80 : decode prog_4_method_18_code 80 = .ok (.ifCond .ne 8, 3) := by decide +kernel
theorem d_Se_narrow_83 : decode prog_4_method_18_code 83 = .ok (.iload 9, 2) := by decide +kernel
theorem d_Se_narrow_85 : decode prog_4_method_18_code 85 = .ok (.ifCond .eq 58, 3) := by decide +kernel
theorem d_Se_narrow_88 : decode prog_4_method_18_code 88 = .ok (.aload_n 0, 1) := by decide +kernel
theorem d_Se_narrow_89 : decode prog_4_method_18_code 89 = .ok (.aload_n 1, 1) := by decide +kernel
theorem d_Se_narrow_90 : decode prog_4_method_18_code 90 = .ok (.iload 6, 2) := by decide +kernel
theorem d_Se_narrow_92 : decode prog_4_method_18_code 92 = .ok (.lload 7, 2) := by decide +kernel
theorem d_Se_narrow_94 : decode prog_4_method_18_code 94 = .ok (.invokevirtual 142, 3) := by decide +kernel
theorem d_Se_narrow_97 : decode prog_4_method_18_code 97 = .ok (.istore 10, 2) := by decide +kernel
theorem d_Se_narrow_99 : decode prog_4_method_18_code 99 = .ok (.iload 10, 2) := by decide +kernel
theorem d_Se_narrow_101 : decode prog_4_method_18_code 101 = .ok (.ifCond .lt 28, 3) := by decide +kernel
theorem d_Se_narrow_104 : decode prog_4_method_18_code 104 = .ok (.iload 9, 2) := by decide +kernel
theorem d_Se_narrow_106 : decode prog_4_method_18_code 106 = .ok (.ifCond .eq 23, 3) := by decide +kernel
theorem d_Se_narrow_109 : decode prog_4_method_18_code 109 = .ok (.aload_n 0, 1) := by decide +kernel
theorem d_Se_narrow_110 : decode prog_4_method_18_code 110 = .ok (.getfield 18, 3) := by decide +kernel
theorem d_Se_narrow_113 : decode prog_4_method_18_code 113 = .ok (.ifCond .eq 16, 3) := by decide +kernel
theorem d_Se_narrow_116 : decode prog_4_method_18_code 116 = .ok (.iload 10, 2) := by decide +kernel
theorem d_Se_narrow_118 : decode prog_4_method_18_code 118 = .ok (.aload_n 1, 1) := by decide +kernel
theorem d_Se_narrow_119 : decode prog_4_method_18_code 119 = .ok (.iload 6, 2) := by decide +kernel
theorem d_Se_narrow_121 : decode prog_4_method_18_code 121 = .ok (.lload 7, 2) := by decide +kernel
theorem d_Se_narrow_123 : decode prog_4_method_18_code 123 = .ok (.invokestatic 145, 3) := by decide +kernel
theorem d_Se_narrow_126 : decode prog_4_method_18_code 126 = .ok (.ior, 1) := by decide +kernel
theorem d_Se_narrow_127 : decode prog_4_method_18_code 127 = .ok (.istore 10, 2) := by decide +kernel
theorem d_Se_narrow_129 : decode prog_4_method_18_code 129 = .ok (.iload 10, 2) := by decide +kernel
theorem d_Se_narrow_131 : decode prog_4_method_18_code 131 = .ok (.ifCond .ge 5, 3) := by decide +kernel
theorem d_Se_narrow_134 : decode prog_4_method_18_code 134 = .ok (.iconst 0, 1) := by decide +kernel
theorem d_Se_narrow_135 : decode prog_4_method_18_code 135 = .ok (.ireturn, 1) := by decide +kernel
theorem d_Se_narrow_136 : decode prog_4_method_18_code 136 = .ok (.iload 4, 2) := by decide +kernel
theorem d_Se_narrow_138 : decode prog_4_method_18_code 138 = .ok (.iload 10, 2) := by decide +kernel
theorem d_Se_narrow_140 : decode prog_4_method_18_code 140 = .ok (.ior, 1) := by decide +kernel
theorem d_Se_narrow_141 : decode prog_4_method_18_code 141 = .ok (.istore 4, 2) := by decide +kernel
theorem d_Se_narrow_143 : decode prog_4_method_18_code 143 = .ok (.iinc 5 1, 3) := by decide +kernel
theorem d_Se_narrow_146 : decode prog_4_method_18_code 146 = .ok (.goto (-140), 3) := by decide +kernel
theorem d_Se_narrow_149 : decode prog_4_method_18_code 149 = .ok (.iconst 1, 1) := by decide +kernel
theorem d_Se_narrow_150 : decode prog_4_method_18_code 150 = .ok (.ireturn, 1) := by decide +kernel
theorem zf_Se_18 : Cond.fieldLink nR1 18 (nT1 1).1 (nT1 1).2.1 (nT1 1).2.2.1 ∈ zTg := zmem 93 (by decide +kernel) (by decide +kernel)
theorem zt_10 : (Cond.selects "MergeGraphs$Search" (⟨"MergeGraphs$Search", "narrowLinked", "([JIJ)I"⟩ : MethodName) (⟨"MergeGraphs$Search", "narrowLinked", "([JIJ)I"⟩ : MethodName)) ∈ zTg := zmem 10 (by decide +kernel) (by decide +kernel)
theorem zt_423 : (Cond.static (⟨"MergeGraphs", "lowestOf", "(J)I"⟩ : MethodName)) ∈ zTg := zmem 423 (by decide +kernel) (by decide +kernel)
theorem zt_425 : (Cond.methodLink "MergeGraphs$Search" (142 : Nat) (⟨"MergeGraphs$Search", "narrowLinked", "([JIJ)I"⟩ : MethodName)) ∈ zTg := zmem 425 (by decide +kernel) (by decide +kernel)
theorem zt_427 : (Cond.instanceMethod (⟨"MergeGraphs$Search", "narrowLinked", "([JIJ)I"⟩ : MethodName)) ∈ zTg := zmem 427 (by decide +kernel) (by decide +kernel)
theorem zt_433 : (Cond.methodLink "MergeGraphs$Search" (145 : Nat) (⟨"MergeGraphs$Search", "narrowOthers", "([JIJ)I"⟩ : MethodName)) ∈ zTg := zmem 433 (by decide +kernel) (by decide +kernel)
theorem zt_434 : (Cond.static (⟨"MergeGraphs$Search", "narrowOthers", "([JIJ)I"⟩ : MethodName)) ∈ zTg := zmem 434 (by decide +kernel) (by decide +kernel)
def y_Se_copyChoices : MethodName := ⟨"MergeGraphs$Search", "copyChoices", "(I)V"⟩
abbrev M_Se_copyChoices : zM := (nR1, prog_4_method_16_code, 3, none, 0)
set_option maxRecDepth 100000 in
theorem zk_Se_copyChoices : Cond.code y_Se_copyChoices (M_Se_copyChoices).2.1 (M_Se_copyChoices).2.2.1 (M_Se_copyChoices).2.2.2.1 ∈ zTg := zmem 448 rfl rfl
theorem zy_Se_copyChoices : (y_Se_copyChoices).cls ≠ "java/lang/invoke/MethodHandle" ∧ (y_Se_copyChoices).cls ≠ "java/lang/invoke/VarHandle" ∧ (parseMethodDescriptor (y_Se_copyChoices).desc).map (fun d => d.parameters.length) = some 1 := by decide +kernel
theorem d_Se_copyChoices_0 : decode prog_4_method_16_code 0 = .ok (.iconst 0, 1) := by decide +kernel
theorem d_Se_copyChoices_1 : decode prog_4_method_16_code 1 = .ok (.istore_n 2, 1) := by decide +kernel
theorem d_Se_copyChoices_2 : decode prog_4_method_16_code 2 = .ok (.iload_n 2, 1) := by decide +kernel
theorem d_Se_copyChoices_3 : decode prog_4_method_16_code 3 = .ok (.bipush 6, 2) := by decide +kernel
theorem d_Se_copyChoices_5 : decode prog_4_method_16_code 5 = .ok (.if_icmp .ge 27, 3) := by decide +kernel
theorem d_Se_copyChoices_8 : decode prog_4_method_16_code 8 = .ok (.aload_n 0, 1) := by decide +kernel
theorem d_Se_copyChoices_9 : decode prog_4_method_16_code 9 = .ok (.getfield 32, 3) := by decide +kernel
theorem d_Se_copyChoices_12 : decode prog_4_method_16_code 12 = .ok (.iload_n 1, 1) := by decide +kernel
theorem d_Se_copyChoices_13 : decode prog_4_method_16_code 13 = .ok (.iconst 1, 1) := by decide +kernel
theorem d_Se_copyChoices_14 : decode prog_4_method_16_code 14 = .ok (.iadd, 1) := by decide +kernel
theorem d_Se_copyChoices_15 : decode prog_4_method_16_code 15 = .ok (.aaload, 1) := by decide +kernel
theorem d_Se_copyChoices_16 : decode prog_4_method_16_code 16 = .ok (.iload_n 2, 1) := by decide +kernel
theorem d_Se_copyChoices_17 : decode prog_4_method_16_code 17 = .ok (.aload_n 0, 1) := by decide +kernel
theorem d_Se_copyChoices_18 : decode prog_4_method_16_code 18 = .ok (.getfield 32, 3) := by decide +kernel
theorem d_Se_copyChoices_21 : decode prog_4_method_16_code 21 = .ok (.iload_n 1, 1) := by decide +kernel
theorem d_Se_copyChoices_22 : decode prog_4_method_16_code 22 = .ok (.aaload, 1) := by decide +kernel
theorem d_Se_copyChoices_23 : decode prog_4_method_16_code 23 = .ok (.iload_n 2, 1) := by decide +kernel
theorem d_Se_copyChoices_24 : decode prog_4_method_16_code 24 = .ok (.laload, 1) := by decide +kernel
theorem d_Se_copyChoices_25 : decode prog_4_method_16_code 25 = .ok (.lastore, 1) := by decide +kernel
theorem d_Se_copyChoices_26 : decode prog_4_method_16_code 26 = .ok (.iinc 2 1, 3) := by decide +kernel
theorem d_Se_copyChoices_29 : decode prog_4_method_16_code 29 = .ok (.goto (-27), 3) := by decide +kernel
theorem d_Se_copyChoices_32 : decode prog_4_method_16_code 32 = .ok (.return_, 1) := by decide +kernel
theorem zf_Se_32 : Cond.fieldLink nR1 32 (nT1 4).1 (nT1 4).2.1 (nT1 4).2.2.1 ∈ zTg := zmem 96 (by decide +kernel) (by decide +kernel)
def y_Se_writeRow : MethodName := ⟨"MergeGraphs$Search", "writeRow", "()V"⟩
abbrev M_Se_writeRow : zM := (nR1, prog_4_method_17_code, 2, none, 2)
set_option maxRecDepth 100000 in
theorem zk_Se_writeRow : Cond.code y_Se_writeRow (M_Se_writeRow).2.1 (M_Se_writeRow).2.2.1 (M_Se_writeRow).2.2.2.1 ∈ zTg := zmem 444 rfl rfl
theorem zy_Se_writeRow : (y_Se_writeRow).cls ≠ "java/lang/invoke/MethodHandle" ∧ (y_Se_writeRow).cls ≠ "java/lang/invoke/VarHandle" ∧ (parseMethodDescriptor (y_Se_writeRow).desc).map (fun d => d.parameters.length) = some 0 := by decide +kernel
theorem d_Se_writeRow_0 : decode prog_4_method_17_code 0 = .ok (.iconst 0, 1) := by decide +kernel
theorem d_Se_writeRow_1 : decode prog_4_method_17_code 1 = .ok (.istore_n 1, 1) := by decide +kernel
theorem d_Se_writeRow_2 : decode prog_4_method_17_code 2 = .ok (.iload_n 1, 1) := by decide +kernel
theorem d_Se_writeRow_3 : decode prog_4_method_17_code 3 = .ok (.bipush 6, 2) := by decide +kernel
theorem d_Se_writeRow_5 : decode prog_4_method_17_code 5 = .ok (.if_icmp .ge 45, 3) := by decide +kernel
theorem d_Se_writeRow_8 : decode prog_4_method_17_code 8 = .ok (.aload_n 0, 1) := by decide +kernel
theorem d_Se_writeRow_9 : decode prog_4_method_17_code 9 = .ok (.getfield 42, 3) := by decide +kernel
theorem d_Se_writeRow_12 : decode prog_4_method_17_code 12 = .ok (.iload_n 1, 1) := by decide +kernel
theorem d_Se_writeRow_13 : decode prog_4_method_17_code 13 = .ok (.aload_n 0, 1) := by decide +kernel
theorem d_Se_writeRow_14 : decode prog_4_method_17_code 14 = .ok (.getfield 32, 3) := by decide +kernel
theorem d_Se_writeRow_17 : decode prog_4_method_17_code 17 = .ok (.bipush 6, 2) := by decide +kernel
theorem d_Se_writeRow_19 : decode prog_4_method_17_code 19 = .ok (.aaload, 1) := by decide +kernel
theorem d_Se_writeRow_20 : decode prog_4_method_17_code 20 = .ok (.iload_n 1, 1) := by decide +kernel
theorem d_Se_writeRow_21 : decode prog_4_method_17_code 21 = .ok (.laload, 1) := by decide +kernel
theorem d_Se_writeRow_22 : decode prog_4_method_17_code 22 = .ok (.lconst 0, 1) := by decide +kernel
theorem d_Se_writeRow_23 : decode prog_4_method_17_code 23 = .ok (.lcmp, 1) := by decide +kernel
theorem d_Se_writeRow_24 : decode prog_4_method_17_code 24 = .ok (.ifCond .ne 7, 3) := by decide +kernel
theorem d_Se_writeRow_27 : decode prog_4_method_17_code 27 = .ok (.iconst (-1), 1) := by decide +kernel
theorem d_Se_writeRow_28 : decode prog_4_method_17_code 28 = .ok (.goto 15, 3) := by decide +kernel
theorem d_Se_writeRow_31 : decode prog_4_method_17_code 31 = .ok (.aload_n 0, 1) := by decide +kernel
theorem d_Se_writeRow_32 : decode prog_4_method_17_code 32 = .ok (.getfield 32, 3) := by decide +kernel
theorem d_Se_writeRow_35 : decode prog_4_method_17_code 35 = .ok (.bipush 6, 2) := by decide +kernel
theorem d_Se_writeRow_37 : decode prog_4_method_17_code 37 = .ok (.aaload, 1) := by decide +kernel
theorem d_Se_writeRow_38 : decode prog_4_method_17_code 38 = .ok (.iload_n 1, 1) := by decide +kernel
theorem d_Se_writeRow_39 : decode prog_4_method_17_code 39 = .ok (.laload, 1) := by decide +kernel
theorem d_Se_writeRow_40 : decode prog_4_method_17_code 40 = .ok (.invokestatic 139, 3) := by decide +kernel
theorem d_Se_writeRow_43 : decode prog_4_method_17_code 43 = .ok (.iastore, 1) := by decide +kernel
theorem d_Se_writeRow_44 : decode prog_4_method_17_code 44 = .ok (.iinc 1 1, 3) := by decide +kernel
theorem d_Se_writeRow_47 : decode prog_4_method_17_code 47 = .ok (.goto (-45), 3) := by decide +kernel
theorem d_Se_writeRow_50 : decode prog_4_method_17_code 50 = .ok (.return_, 1) := by decide +kernel
def y_Se_settle : MethodName := ⟨"MergeGraphs$Search", "settle", "(I)Z"⟩
abbrev M_Se_settle (D : Nat) : zM := (nR1, prog_4_method_15_code, 7, (some .boolean), 4 + D)
set_option maxRecDepth 100000 in
theorem zk_Se_settle (D : Nat) : Cond.code y_Se_settle (M_Se_settle D).2.1 (M_Se_settle D).2.2.1 (M_Se_settle D).2.2.2.1 ∈ zTg := zmem 440 rfl rfl
theorem zy_Se_settle : (y_Se_settle).cls ≠ "java/lang/invoke/MethodHandle" ∧ (y_Se_settle).cls ≠ "java/lang/invoke/VarHandle" ∧ (parseMethodDescriptor (y_Se_settle).desc).map (fun d => d.parameters.length) = some 1 := by decide +kernel
theorem d_Se_settle_0 : decode prog_4_method_15_code 0 = .ok (.iload_n 1, 1) := by decide +kernel
theorem d_Se_settle_1 : decode prog_4_method_15_code 1 = .ok (.bipush 6, 2) := by decide +kernel
theorem d_Se_settle_3 : decode prog_4_method_15_code 3 = .ok (.if_icmp .lt 9, 3) := by decide +kernel
theorem d_Se_settle_6 : decode prog_4_method_15_code 6 = .ok (.aload_n 0, 1) := by decide +kernel
theorem d_Se_settle_7 : decode prog_4_method_15_code 7 = .ok (.invokevirtual 126, 3) := by decide +kernel
theorem d_Se_settle_10 : decode prog_4_method_15_code 10 = .ok (.iconst 1, 1) := by decide +kernel
theorem d_Se_settle_11 : decode prog_4_method_15_code 11 = .ok (.ireturn, 1) := by decide +kernel
theorem d_Se_settle_12 : decode prog_4_method_15_code 12 = .ok (.aload_n 0, 1) := by decide +kernel
theorem d_Se_settle_13 : decode prog_4_method_15_code 13 = .ok (.getfield 32, 3) := by decide +kernel
theorem d_Se_settle_16 : decode prog_4_method_15_code 16 = .ok (.iload_n 1, 1) := by decide +kernel
theorem d_Se_settle_17 : decode prog_4_method_15_code 17 = .ok (.aaload, 1) := by decide +kernel
theorem d_Se_settle_18 : decode prog_4_method_15_code 18 = .ok (.iload_n 1, 1) := by decide +kernel
theorem d_Se_settle_19 : decode prog_4_method_15_code 19 = .ok (.laload, 1) := by decide +kernel
theorem d_Se_settle_20 : decode prog_4_method_15_code 20 = .ok (.lstore_n 2, 1) := by decide +kernel
theorem d_Se_settle_21 : decode prog_4_method_15_code 21 = .ok (.lload_n 2, 1) := by decide +kernel
theorem d_Se_settle_22 : decode prog_4_method_15_code 22 = .ok (.lconst 0, 1) := by decide +kernel
theorem d_Se_settle_23 : decode prog_4_method_15_code 23 = .ok (.lcmp, 1) := by decide +kernel
theorem d_Se_settle_24 : decode prog_4_method_15_code 24 = .ok (.ifCond .ne 16, 3) := by decide +kernel
theorem d_Se_settle_27 : decode prog_4_method_15_code 27 = .ok (.aload_n 0, 1) := by decide +kernel
theorem d_Se_settle_28 : decode prog_4_method_15_code 28 = .ok (.iload_n 1, 1) := by decide +kernel
theorem d_Se_settle_29 : decode prog_4_method_15_code 29 = .ok (.invokevirtual 129, 3) := by decide +kernel
theorem d_Se_settle_32 : decode prog_4_method_15_code 32 = .ok (.aload_n 0, 1) := by decide +kernel
theorem d_Se_settle_33 : decode prog_4_method_15_code 33 = .ok (.iload_n 1, 1) := by decide +kernel
theorem d_Se_settle_34 : decode prog_4_method_15_code 34 = .ok (.iconst 1, 1) := by decide +kernel
theorem d_Se_settle_35 : decode prog_4_method_15_code 35 = .ok (.iadd, 1) := by decide +kernel
theorem d_Se_settle_36 : decode prog_4_method_15_code 36 = .ok (.invokevirtual 56, 3) := by decide +kernel
theorem d_Se_settle_39 : decode prog_4_method_15_code 39 = .ok (.ireturn, 1) := by decide +kernel
theorem d_Se_settle_40 : decode prog_4_method_15_code 40 = .ok (.lload_n 2, 1) := by decide +kernel
theorem d_Se_settle_41 : decode prog_4_method_15_code 41 = .ok (.invokestatic 133, 3) := by decide +kernel
theorem d_Se_settle_44 : decode prog_4_method_15_code 44 = .ok (.istore 4, 2) := by decide +kernel
theorem d_Se_settle_46 : decode prog_4_method_15_code 46 = .ok (.iload 4, 2) := by decide +kernel
theorem d_Se_settle_48 : decode prog_4_method_15_code 48 = .ok (.ifCond .le 68, 3) := by decide +kernel
theorem d_Se_settle_51 : decode prog_4_method_15_code 51 = .ok (.lload_n 2, 1) := by decide +kernel
theorem d_Se_settle_52 : decode prog_4_method_15_code 52 = .ok (.lload_n 2, 1) := by decide +kernel
theorem d_Se_settle_53 : decode prog_4_method_15_code 53 = .ok (.lneg, 1) := by decide +kernel
theorem d_Se_settle_54 : decode prog_4_method_15_code 54 = .ok (.land, 1) := by decide +kernel
theorem d_Se_settle_55 : decode prog_4_method_15_code 55 = .ok (.lstore 5, 2) := by decide +kernel
theorem d_Se_settle_57 : decode prog_4_method_15_code 57 = .ok (.lload_n 2, 1) := by decide +kernel
theorem d_Se_settle_58 : decode prog_4_method_15_code 58 = .ok (.lload 5, 2) := by decide +kernel
theorem d_Se_settle_60 : decode prog_4_method_15_code 60 = .ok (.lxor, 1) := by decide +kernel
theorem d_Se_settle_61 : decode prog_4_method_15_code 61 = .ok (.lstore_n 2, 1) := by decide +kernel
theorem d_Se_settle_62 : decode prog_4_method_15_code 62 = .ok (.aload_n 0, 1) := by decide +kernel
theorem d_Se_settle_63 : decode prog_4_method_15_code 63 = .ok (.iload_n 1, 1) := by decide +kernel
theorem d_Se_settle_64 : decode prog_4_method_15_code 64 = .ok (.invokevirtual 129, 3) := by decide +kernel
theorem d_Se_settle_67 : decode prog_4_method_15_code 67 = .ok (.aload_n 0, 1) := by decide +kernel
theorem d_Se_settle_68 : decode prog_4_method_15_code 68 = .ok (.getfield 32, 3) := by decide +kernel
theorem d_Se_settle_71 : decode prog_4_method_15_code 71 = .ok (.iload_n 1, 1) := by decide +kernel
theorem d_Se_settle_72 : decode prog_4_method_15_code 72 = .ok (.iconst 1, 1) := by decide +kernel
theorem d_Se_settle_73 : decode prog_4_method_15_code 73 = .ok (.iadd, 1) := by decide +kernel
theorem d_Se_settle_74 : decode prog_4_method_15_code 74 = .ok (.aaload, 1) := by decide +kernel
theorem d_Se_settle_75 : decode prog_4_method_15_code 75 = .ok (.iload_n 1, 1) := by decide +kernel
theorem d_Se_settle_76 : decode prog_4_method_15_code 76 = .ok (.lload 5, 2) := by decide +kernel
theorem d_Se_settle_78 : decode prog_4_method_15_code 78 = .ok (.lastore, 1) := by decide +kernel
theorem d_Se_settle_79 : decode prog_4_method_15_code 79 = .ok (.aload_n 0, 1) := by decide +kernel
theorem d_Se_settle_80 : decode prog_4_method_15_code 80 = .ok (.aload_n 0, 1) := by decide +kernel
theorem d_Se_settle_81 : decode prog_4_method_15_code 81 = .ok (.getfield 32, 3) := by decide +kernel
theorem d_Se_settle_84 : decode prog_4_method_15_code 84 = .ok (.iload_n 1, 1) := by decide +kernel
theorem d_Se_settle_85 : decode prog_4_method_15_code 85 = .ok (.iconst 1, 1) := by decide +kernel
theorem d_Se_settle_86 : decode prog_4_method_15_code 86 = .ok (.iadd, 1) := by decide +kernel
theorem d_Se_settle_87 : decode prog_4_method_15_code 87 = .ok (.aaload, 1) := by decide +kernel
theorem d_Se_settle_88 : decode prog_4_method_15_code 88 = .ok (.iconst 1, 1) := by decide +kernel
theorem d_Se_settle_89 : decode prog_4_method_15_code 89 = .ok (.iload_n 1, 1) := by decide +kernel
theorem d_Se_settle_90 : decode prog_4_method_15_code 90 = .ok (.ishl, 1) := by decide +kernel
theorem d_Se_settle_91 : decode prog_4_method_15_code 91 = .ok (.iconst 0, 1) := by decide +kernel
theorem d_Se_settle_92 : decode prog_4_method_15_code 92 = .ok (.invokevirtual 107, 3) := by decide +kernel
theorem d_Se_settle_95 : decode prog_4_method_15_code 95 = .ok (.ifCond .eq 15, 3) := by decide +kernel
theorem d_Se_settle_98 : decode prog_4_method_15_code 98 = .ok (.aload_n 0, 1) := by decide +kernel
theorem d_Se_settle_99 : decode prog_4_method_15_code 99 = .ok (.iload_n 1, 1) := by decide +kernel
theorem d_Se_settle_100 : decode prog_4_method_15_code 100 = .ok (.iconst 1, 1) := by decide +kernel
theorem d_Se_settle_101 : decode prog_4_method_15_code 101 = .ok (.iadd, 1) := by decide +kernel
theorem d_Se_settle_102 : decode prog_4_method_15_code 102 = .ok (.invokevirtual 56, 3) := by decide +kernel
theorem d_Se_settle_105 : decode prog_4_method_15_code 105 = .ok (.ifCond .eq 5, 3) := by decide +kernel
theorem d_Se_settle_108 : decode prog_4_method_15_code 108 = .ok (.iconst 1, 1) := by decide +kernel
theorem d_Se_settle_109 : decode prog_4_method_15_code 109 = .ok (.ireturn, 1) := by decide +kernel
theorem d_Se_settle_110 : decode prog_4_method_15_code 110 = .ok (.iinc 4 (-1), 3) := by decide +kernel
theorem d_Se_settle_113 : decode prog_4_method_15_code 113 = .ok (.goto (-67), 3) := by decide +kernel
theorem d_Se_settle_116 : decode prog_4_method_15_code 116 = .ok (.iconst 0, 1) := by decide +kernel
theorem d_Se_settle_117 : decode prog_4_method_15_code 117 = .ok (.ireturn, 1) := by decide +kernel
theorem zt_9 : (Cond.selects "MergeGraphs$Search" (⟨"MergeGraphs$Search", "narrow", "([JIZ)Z"⟩ : MethodName) (⟨"MergeGraphs$Search", "narrow", "([JIZ)Z"⟩ : MethodName)) ∈ zTg := zmem 9 (by decide +kernel) (by decide +kernel)
theorem zt_11 : (Cond.selects "MergeGraphs$Search" (⟨"MergeGraphs$Search", "settle", "(I)Z"⟩ : MethodName) (⟨"MergeGraphs$Search", "settle", "(I)Z"⟩ : MethodName)) ∈ zTg := zmem 11 (by decide +kernel) (by decide +kernel)
theorem zt_12 : (Cond.selects "MergeGraphs$Search" (⟨"MergeGraphs$Search", "writeRow", "()V"⟩ : MethodName) (⟨"MergeGraphs$Search", "writeRow", "()V"⟩ : MethodName)) ∈ zTg := zmem 12 (by decide +kernel) (by decide +kernel)
theorem zt_13 : (Cond.selects "MergeGraphs$Search" (⟨"MergeGraphs$Search", "copyChoices", "(I)V"⟩ : MethodName) (⟨"MergeGraphs$Search", "copyChoices", "(I)V"⟩ : MethodName)) ∈ zTg := zmem 13 (by decide +kernel) (by decide +kernel)
theorem zt_418 : (Cond.methodLink "MergeGraphs$Search" (107 : Nat) (⟨"MergeGraphs$Search", "narrow", "([JIZ)Z"⟩ : MethodName)) ∈ zTg := zmem 418 (by decide +kernel) (by decide +kernel)
theorem zt_420 : (Cond.instanceMethod (⟨"MergeGraphs$Search", "narrow", "([JIZ)Z"⟩ : MethodName)) ∈ zTg := zmem 420 (by decide +kernel) (by decide +kernel)
theorem zt_437 : (Cond.methodLink "MergeGraphs$Search" (56 : Nat) (⟨"MergeGraphs$Search", "settle", "(I)Z"⟩ : MethodName)) ∈ zTg := zmem 437 (by decide +kernel) (by decide +kernel)
theorem zt_439 : (Cond.instanceMethod (⟨"MergeGraphs$Search", "settle", "(I)Z"⟩ : MethodName)) ∈ zTg := zmem 439 (by decide +kernel) (by decide +kernel)
theorem zt_441 : (Cond.methodLink "MergeGraphs$Search" (126 : Nat) (⟨"MergeGraphs$Search", "writeRow", "()V"⟩ : MethodName)) ∈ zTg := zmem 441 (by decide +kernel) (by decide +kernel)
theorem zt_443 : (Cond.instanceMethod (⟨"MergeGraphs$Search", "writeRow", "()V"⟩ : MethodName)) ∈ zTg := zmem 443 (by decide +kernel) (by decide +kernel)
theorem zt_445 : (Cond.methodLink "MergeGraphs$Search" (129 : Nat) (⟨"MergeGraphs$Search", "copyChoices", "(I)V"⟩ : MethodName)) ∈ zTg := zmem 445 (by decide +kernel) (by decide +kernel)
theorem zt_447 : (Cond.instanceMethod (⟨"MergeGraphs$Search", "copyChoices", "(I)V"⟩ : MethodName)) ∈ zTg := zmem 447 (by decide +kernel) (by decide +kernel)
def y_Se_start : MethodName := ⟨"MergeGraphs$Search", "start", "(J)Z"⟩
abbrev M_Se_start : zM := (nR1, prog_4_method_10_code, 7, (some .boolean), 4)
set_option maxRecDepth 100000 in
theorem zk_Se_start : Cond.code y_Se_start (M_Se_start).2.1 (M_Se_start).2.2.1 (M_Se_start).2.2.2.1 ∈ zTg := zmem 392 rfl rfl
theorem zy_Se_start : (y_Se_start).cls ≠ "java/lang/invoke/MethodHandle" ∧ (y_Se_start).cls ≠ "java/lang/invoke/VarHandle" ∧ (parseMethodDescriptor (y_Se_start).desc).map (fun d => d.parameters.length) = some 1 := by decide +kernel
theorem d_Se_start_0 : decode prog_4_method_10_code 0 = .ok (.aload_n 0, 1) := by decide +kernel
theorem d_Se_start_1 : decode prog_4_method_10_code 1 = .ok (.getfield 32, 3) := by decide +kernel
theorem d_Se_start_4 : decode prog_4_method_10_code 4 = .ok (.iconst 0, 1) := by decide +kernel
theorem d_Se_start_5 : decode prog_4_method_10_code 5 = .ok (.aaload, 1) := by decide +kernel
theorem d_Se_start_6 : decode prog_4_method_10_code 6 = .ok (.astore_n 3, 1) := by decide +kernel
theorem d_Se_start_7 : decode prog_4_method_10_code 7 = .ok (.aload_n 0, 1) := by decide +kernel
theorem d_Se_start_8 : decode prog_4_method_10_code 8 = .ok (.getfield 12, 3) := by decide +kernel
theorem d_Se_start_11 : decode prog_4_method_10_code 11 = .ok (.invokevirtual 95, 3) := by decide +kernel
theorem d_Se_start_14 : decode prog_4_method_10_code 14 = .ok (.lstore 4, 2) := by decide +kernel
theorem d_Se_start_16 : decode prog_4_method_10_code 16 = .ok (.lload 4, 2) := by decide +kernel
theorem d_Se_start_18 : decode prog_4_method_10_code 18 = .ok (.lconst 0, 1) := by decide +kernel
theorem d_Se_start_19 : decode prog_4_method_10_code 19 = .ok (.lcmp, 1) := by decide +kernel
theorem d_Se_start_20 : decode prog_4_method_10_code 20 = .ok (.ifCond .eq 11, 3) := by decide +kernel
theorem d_Se_start_23 : decode prog_4_method_10_code 23 = .ok (.lload_n 1, 1) := by decide +kernel
theorem d_Se_start_24 : decode prog_4_method_10_code 24 = .ok (.lconst 0, 1) := by decide +kernel
theorem d_Se_start_25 : decode prog_4_method_10_code 25 = .ok (.lcmp, 1) := by decide +kernel
theorem d_Se_start_26 : decode prog_4_method_10_code 26 = .ok (.ifCond .ne 5, 3) := by decide +kernel
theorem d_Se_start_29 : decode prog_4_method_10_code 29 = .ok (.iconst 0, 1) := by decide +kernel
theorem d_Se_start_30 : decode prog_4_method_10_code 30 = .ok (.ireturn, 1) := by decide +kernel
theorem d_Se_start_31 : decode prog_4_method_10_code 31 = .ok (.iconst 0, 1) := by decide +kernel
theorem d_Se_start_32 : decode prog_4_method_10_code 32 = .ok (.istore 6, 2) := by decide +kernel
theorem d_Se_start_34 : decode prog_4_method_10_code 34 = .ok (.iload 6, 2) := by decide +kernel
theorem d_Se_start_36 : decode prog_4_method_10_code 36 = .ok (.bipush 6, 2) := by decide +kernel
theorem d_Se_start_38 : decode prog_4_method_10_code 38 = .ok (.if_icmp .ge 31, 3) := by decide +kernel
theorem d_Se_start_41 : decode prog_4_method_10_code 41 = .ok (.aload_n 3, 1) := by decide +kernel
theorem d_Se_start_42 : decode prog_4_method_10_code 42 = .ok (.iload 6, 2) := by decide +kernel
theorem d_Se_start_44 : decode prog_4_method_10_code 44 = .ok (.lload 4, 2) := by decide +kernel
theorem d_Se_start_46 : decode prog_4_method_10_code 46 = .ok (.bipush 40, 2) := by decide +kernel
theorem d_Se_start_48 : decode prog_4_method_10_code 48 = .ok (.iload 6, 2) := by decide +kernel
theorem d_Se_start_50 : decode prog_4_method_10_code 50 = .ok (.iadd, 1) := by decide +kernel
theorem d_Se_start_51 : decode prog_4_method_10_code 51 = .ok (.invokestatic 99, 3) := by decide +kernel
theorem d_Se_start_54 : decode prog_4_method_10_code 54 = .ok (.ifCond .eq 7, 3) := by decide +kernel
theorem d_Se_start_57 : decode prog_4_method_10_code 57 = .ok (.lload_n 1, 1) := by decide +kernel
theorem d_Se_start_58 : decode prog_4_method_10_code 58 = .ok (.goto 4, 3) := by decide +kernel
theorem d_Se_start_61 : decode prog_4_method_10_code 61 = .ok (.lconst 0, 1) := by decide +kernel
theorem d_Se_start_62 : decode prog_4_method_10_code 62 = .ok (.lastore, 1) := by decide +kernel
theorem d_Se_start_63 : decode prog_4_method_10_code 63 = .ok (.iinc 6 1, 3) := by decide +kernel
theorem d_Se_start_66 : decode prog_4_method_10_code 66 = .ok (.goto (-32), 3) := by decide +kernel
theorem d_Se_start_69 : decode prog_4_method_10_code 69 = .ok (.aload_n 0, 1) := by decide +kernel
theorem d_Se_start_70 : decode prog_4_method_10_code 70 = .ok (.iconst 0, 1) := by decide +kernel
theorem d_Se_start_71 : decode prog_4_method_10_code 71 = .ok (.putfield 26, 3) := by decide +kernel
theorem d_Se_start_74 : decode prog_4_method_10_code 74 = .ok (.iconst 0, 1) := by decide +kernel
theorem d_Se_start_75 : decode prog_4_method_10_code 75 = .ok (.istore 6, 2) := by decide +kernel
theorem d_Se_start_77 : decode prog_4_method_10_code 77 = .ok (.iload 6, 2) := by decide +kernel
theorem d_Se_start_79 : decode prog_4_method_10_code 79 = .ok (.aload_n 0, 1) := by decide +kernel
theorem d_Se_start_80 : decode prog_4_method_10_code 80 = .ok (.getfield 12, 3) := by decide +kernel
theorem d_Se_start_83 : decode prog_4_method_10_code 83 = .ok (.invokevirtual 70, 3) := by decide +kernel
theorem d_Se_start_86 : decode prog_4_method_10_code 86 = .ok (.if_icmp .ge 28, 3) := by decide +kernel
theorem d_Se_start_89 : decode prog_4_method_10_code 89 = .ok (.aload_n 0, 1) := by decide +kernel
theorem d_Se_start_90 : decode prog_4_method_10_code 90 = .ok (.aload_n 3, 1) := by decide +kernel
theorem d_Se_start_91 : decode prog_4_method_10_code 91 = .ok (.aload_n 0, 1) := by decide +kernel
theorem d_Se_start_92 : decode prog_4_method_10_code 92 = .ok (.getfield 12, 3) := by decide +kernel
theorem d_Se_start_95 : decode prog_4_method_10_code 95 = .ok (.iload 6, 2) := by decide +kernel
theorem d_Se_start_97 : decode prog_4_method_10_code 97 = .ok (.invokevirtual 74, 3) := by decide +kernel
theorem d_Se_start_100 : decode prog_4_method_10_code 100 = .ok (.invokevirtual 103, 3) := by decide +kernel
theorem d_Se_start_103 : decode prog_4_method_10_code 103 = .ok (.ifCond .ne 5, 3) := by decide +kernel
theorem d_Se_start_106 : decode prog_4_method_10_code 106 = .ok (.iconst 0, 1) := by decide +kernel
theorem d_Se_start_107 : decode prog_4_method_10_code 107 = .ok (.ireturn, 1) := by decide +kernel
theorem d_Se_start_108 : decode prog_4_method_10_code 108 = .ok (.iinc 6 1, 3) := by decide +kernel
theorem d_Se_start_111 : decode prog_4_method_10_code 111 = .ok (.goto (-34), 3) := by decide +kernel
theorem d_Se_start_114 : decode prog_4_method_10_code 114 = .ok (.aload_n 0, 1) := by decide +kernel
theorem d_Se_start_115 : decode prog_4_method_10_code 115 = .ok (.aload_n 3, 1) := by decide +kernel
theorem d_Se_start_116 : decode prog_4_method_10_code 116 = .ok (.bipush 63, 2) := by decide +kernel
theorem d_Se_start_118 : decode prog_4_method_10_code 118 = .ok (.iconst 1, 1) := by decide +kernel
theorem d_Se_start_119 : decode prog_4_method_10_code 119 = .ok (.invokevirtual 107, 3) := by decide +kernel
theorem d_Se_start_122 : decode prog_4_method_10_code 122 = .ok (.ireturn, 1) := by decide +kernel
theorem zf_Se_12 : Cond.fieldLink nR1 12 (nT1 0).1 (nT1 0).2.1 (nT1 0).2.2.1 ∈ zTg := zmem 92 (by decide +kernel) (by decide +kernel)
theorem zt_6 : (Cond.selects "MergeGraphs$Search" (⟨"MergeGraphs$Search", "takeIn", "([JI)Z"⟩ : MethodName) (⟨"MergeGraphs$Search", "takeIn", "([JI)Z"⟩ : MethodName)) ∈ zTg := zmem 6 (by decide +kernel) (by decide +kernel)
theorem zt_322 : (Cond.instanceMethod (⟨"MergeGraphs$Graph", "nodes", "()J"⟩ : MethodName)) ∈ zTg := zmem 322 (by decide +kernel) (by decide +kernel)
theorem zt_323 : (Cond.selects "MergeGraphs$Graph" (⟨"MergeGraphs$Graph", "nodes", "()J"⟩ : MethodName) (⟨"MergeGraphs$Graph", "nodes", "()J"⟩ : MethodName)) ∈ zTg := zmem 323 (by decide +kernel) (by decide +kernel)
theorem zt_393 : (Cond.methodLink "MergeGraphs$Search" (95 : Nat) (⟨"MergeGraphs$Graph", "nodes", "()J"⟩ : MethodName)) ∈ zTg := zmem 393 (by decide +kernel) (by decide +kernel)
theorem zt_397 : (Cond.methodLink "MergeGraphs$Search" (103 : Nat) (⟨"MergeGraphs$Search", "takeIn", "([JI)Z"⟩ : MethodName)) ∈ zTg := zmem 397 (by decide +kernel) (by decide +kernel)
theorem zt_399 : (Cond.instanceMethod (⟨"MergeGraphs$Search", "takeIn", "([JI)Z"⟩ : MethodName)) ∈ zTg := zmem 399 (by decide +kernel) (by decide +kernel)
def y_Se_find : MethodName := ⟨"MergeGraphs$Search", "find", "(LMergeGraphs$Graph;LMergeGraphs$Graph;JZ)Z"⟩
abbrev M_Se_find : zM := (nR1, prog_4_method_2_code, 7, (some .boolean), 13)
set_option maxRecDepth 100000 in
theorem zk_Se_find : Cond.code y_Se_find (M_Se_find).2.1 (M_Se_find).2.2.1 (M_Se_find).2.2.2.1 ∈ zTg := zmem 370 rfl rfl
theorem zy_Se_find : (y_Se_find).cls ≠ "java/lang/invoke/MethodHandle" ∧ (y_Se_find).cls ≠ "java/lang/invoke/VarHandle" ∧ (parseMethodDescriptor (y_Se_find).desc).map (fun d => d.parameters.length) = some 4 := by decide +kernel
theorem d_Se_find_0 : decode prog_4_method_2_code 0 = .ok (.aload_n 0, 1) := by decide +kernel
theorem d_Se_find_1 : decode prog_4_method_2_code 1 = .ok (.getfield 12, 3) := by decide +kernel
theorem d_Se_find_4 : decode prog_4_method_2_code 4 = .ok (.aload_n 1, 1) := by decide +kernel
theorem d_Se_find_5 : decode prog_4_method_2_code 5 = .ok (.invokevirtual 45, 3) := by decide +kernel
theorem d_Se_find_8 : decode prog_4_method_2_code 8 = .ok (.aload_n 0, 1) := by decide +kernel
theorem d_Se_find_9 : decode prog_4_method_2_code 9 = .ok (.iload 5, 2) := by decide +kernel
theorem d_Se_find_11 : decode prog_4_method_2_code 11 = .ok (.putfield 18, 3) := by decide +kernel
theorem d_Se_find_14 : decode prog_4_method_2_code 14 = .ok (.aload_n 0, 1) := by decide +kernel
theorem d_Se_find_15 : decode prog_4_method_2_code 15 = .ok (.aload_n 2, 1) := by decide +kernel
theorem d_Se_find_16 : decode prog_4_method_2_code 16 = .ok (.invokevirtual 49, 3) := by decide +kernel
theorem d_Se_find_19 : decode prog_4_method_2_code 19 = .ok (.aload_n 0, 1) := by decide +kernel
theorem d_Se_find_20 : decode prog_4_method_2_code 20 = .ok (.lload_n 3, 1) := by decide +kernel
theorem d_Se_find_21 : decode prog_4_method_2_code 21 = .ok (.invokevirtual 52, 3) := by decide +kernel
theorem d_Se_find_24 : decode prog_4_method_2_code 24 = .ok (.ifCond .eq 15, 3) := by decide +kernel
theorem d_Se_find_27 : decode prog_4_method_2_code 27 = .ok (.aload_n 0, 1) := by decide +kernel
theorem d_Se_find_28 : decode prog_4_method_2_code 28 = .ok (.iconst 0, 1) := by decide +kernel
theorem d_Se_find_29 : decode prog_4_method_2_code 29 = .ok (.invokevirtual 56, 3) := by decide +kernel
theorem d_Se_find_32 : decode prog_4_method_2_code 32 = .ok (.ifCond .eq 7, 3) := by decide +kernel
theorem d_Se_find_35 : decode prog_4_method_2_code 35 = .ok (.iconst 1, 1) := by decide +kernel
theorem d_Se_find_36 : decode prog_4_method_2_code 36 = .ok (.goto 4, 3) := by decide +kernel
theorem d_Se_find_39 : decode prog_4_method_2_code 39 = .ok (.iconst 0, 1) := by decide +kernel
theorem d_Se_find_40 : decode prog_4_method_2_code 40 = .ok (.istore 6, 2) := by decide +kernel
theorem d_Se_find_42 : decode prog_4_method_2_code 42 = .ok (.aload_n 0, 1) := by decide +kernel
theorem d_Se_find_43 : decode prog_4_method_2_code 43 = .ok (.aload_n 2, 1) := by decide +kernel
theorem d_Se_find_44 : decode prog_4_method_2_code 44 = .ok (.invokevirtual 60, 3) := by decide +kernel
theorem d_Se_find_47 : decode prog_4_method_2_code 47 = .ok (.iload 6, 2) := by decide +kernel
theorem d_Se_find_49 : decode prog_4_method_2_code 49 = .ok (.ireturn, 1) := by decide +kernel
theorem zt_4 : (Cond.selects "MergeGraphs$Search" (⟨"MergeGraphs$Search", "mark", "(LMergeGraphs$Graph;)V"⟩ : MethodName) (⟨"MergeGraphs$Search", "mark", "(LMergeGraphs$Graph;)V"⟩ : MethodName)) ∈ zTg := zmem 4 (by decide +kernel) (by decide +kernel)
theorem zt_5 : (Cond.selects "MergeGraphs$Search" (⟨"MergeGraphs$Search", "start", "(J)Z"⟩ : MethodName) (⟨"MergeGraphs$Search", "start", "(J)Z"⟩ : MethodName)) ∈ zTg := zmem 5 (by decide +kernel) (by decide +kernel)
theorem zt_14 : (Cond.selects "MergeGraphs$Search" (⟨"MergeGraphs$Search", "unmark", "(LMergeGraphs$Graph;)V"⟩ : MethodName) (⟨"MergeGraphs$Search", "unmark", "(LMergeGraphs$Graph;)V"⟩ : MethodName)) ∈ zTg := zmem 14 (by decide +kernel) (by decide +kernel)
theorem zt_307 : (Cond.instanceMethod (⟨"MergeGraphs$Graph", "become", "(LMergeGraphs$Graph;)V"⟩ : MethodName)) ∈ zTg := zmem 307 (by decide +kernel) (by decide +kernel)
theorem zt_308 : (Cond.selects "MergeGraphs$Graph" (⟨"MergeGraphs$Graph", "become", "(LMergeGraphs$Graph;)V"⟩ : MethodName) (⟨"MergeGraphs$Graph", "become", "(LMergeGraphs$Graph;)V"⟩ : MethodName)) ∈ zTg := zmem 308 (by decide +kernel) (by decide +kernel)
theorem zt_371 : (Cond.methodLink "MergeGraphs$Search" (45 : Nat) (⟨"MergeGraphs$Graph", "become", "(LMergeGraphs$Graph;)V"⟩ : MethodName)) ∈ zTg := zmem 371 (by decide +kernel) (by decide +kernel)
theorem zt_372 : (Cond.methodLink "MergeGraphs$Search" (49 : Nat) (⟨"MergeGraphs$Search", "mark", "(LMergeGraphs$Graph;)V"⟩ : MethodName)) ∈ zTg := zmem 372 (by decide +kernel) (by decide +kernel)
theorem zt_374 : (Cond.instanceMethod (⟨"MergeGraphs$Search", "mark", "(LMergeGraphs$Graph;)V"⟩ : MethodName)) ∈ zTg := zmem 374 (by decide +kernel) (by decide +kernel)
theorem zt_389 : (Cond.methodLink "MergeGraphs$Search" (52 : Nat) (⟨"MergeGraphs$Search", "start", "(J)Z"⟩ : MethodName)) ∈ zTg := zmem 389 (by decide +kernel) (by decide +kernel)
theorem zt_391 : (Cond.instanceMethod (⟨"MergeGraphs$Search", "start", "(J)Z"⟩ : MethodName)) ∈ zTg := zmem 391 (by decide +kernel) (by decide +kernel)
theorem zt_449 : (Cond.methodLink "MergeGraphs$Search" (60 : Nat) (⟨"MergeGraphs$Search", "unmark", "(LMergeGraphs$Graph;)V"⟩ : MethodName)) ∈ zTg := zmem 449 (by decide +kernel) (by decide +kernel)
theorem zt_451 : (Cond.instanceMethod (⟨"MergeGraphs$Search", "unmark", "(LMergeGraphs$Graph;)V"⟩ : MethodName)) ∈ zTg := zmem 451 (by decide +kernel) (by decide +kernel)
def f_Se_marked_b23 (G : Nat) (k24 : Int64 → pH → Option pR) (h : pH) : Option pR := k24 (0 : Int64) h
theorem f_Se_marked_b23_eq (G : Nat) (k24 : Int64 → pH → Option pR) (h : pH) : f_Se_marked_b23 G k24 h = (k24 (0 : Int64) h) := rfl
def f_Se_marked_b24 (G : Nat) (s0 : Int64) (h : pH) : Option pR := some (some (.long s0), h)
theorem f_Se_marked_b24_eq (G : Nat) (s0 : Int64) (h : pH) : f_Se_marked_b24 G s0 h = (some (some (.long s0), h)) := rfl
def f_Se_marked (G : Nat) (x0 : Nat) (x1 : Int32) (x2 : Int32) (h : pH) : Option pR := if ((x1 * (46 : Int32)) + x2) < 0 then ((f_Se_marked_b23 G (f_Se_marked_b24 G)) h) else ((aL h 1 x0).bind fun v1 => if v1 ≤ ((x1 * (46 : Int32)) + x2) then ((f_Se_marked_b23 G (f_Se_marked_b24 G)) h) else ((aJ h x0 ((x1 * (46 : Int32)) + x2)).bind fun v2 => (f_Se_marked_b24 G) v2 h))
theorem f_Se_marked_eq (G : Nat) (x0 : Nat) (x1 : Int32) (x2 : Int32) (h : pH) : f_Se_marked G x0 x1 x2 h = (if ((x1 * (46 : Int32)) + x2) < 0 then ((f_Se_marked_b23 G (f_Se_marked_b24 G)) h) else ((aL h 1 x0).bind fun v1 => if v1 ≤ ((x1 * (46 : Int32)) + x2) then ((f_Se_marked_b23 G (f_Se_marked_b24 G)) h) else ((aJ h x0 ((x1 * (46 : Int32)) + x2)).bind fun v2 => (f_Se_marked_b24 G) v2 h))) := rfl
set_option maxRecDepth 100000 in
set_option maxHeartbeats 4000000 in
theorem w_Se_marked_b23 {X : zX} {r : pR} {G : Nat} {k24 : Int64 → pH → Option pR} (hQ : zQ X r) (hk24 : ∀ (s0 : Int64) (h : pH), k24 s0 h = some r → Z X M_Se_marked 0 0 h 24 [] [.long s0]) : ∀ (h : pH), f_Se_marked_b23 G k24 h = some r → Z X M_Se_marked 0 0 h 23 [] [] := by
  intro h E
  rw [f_Se_marked_b23_eq] at E
  refine z_lconst (v := (0 : Int64)) d_Se_marked_23 (by decide) ?_
  exact hk24 (0 : Int64) h E
set_option maxRecDepth 100000 in
set_option maxHeartbeats 4000000 in
theorem w_Se_marked_b24 {X : zX} {r : pR} {G : Nat} (hQ : zQ X r) : ∀ (s0 : Int64) (h : pH), f_Se_marked_b24 G s0 h = some r → Z X M_Se_marked 0 0 h 24 [] [.long s0] := by
  intro s0 h E
  rw [f_Se_marked_b24_eq] at E
  exact z_lreturn hQ rfl z00 d_Se_marked_24 E
set_option maxRecDepth 100000 in
set_option maxHeartbeats 4000000 in
theorem w_Se_marked_b0 {X : zX} {r : pR} {G : Nat} (hQ : zQ X r) : ∀ (x0 : Nat) (x1 : Int32) (x2 : Int32) (h : pH), f_Se_marked G x0 x1 x2 h = some r → Z X M_Se_marked 0 0 h 0 [(0, .ref x0), (1, .int x1), (2, .int x2)] [] := by
  intro x0 x1 x2 h E
  rw [f_Se_marked_eq] at E
  refine z_iload_n 1 d_Se_marked_0 rfl rfl ?_
  refine z_bipush (v := (46 : Int32)) d_Se_marked_1 (by decide) ?_
  refine z_imul d_Se_marked_3 ?_
  refine z_iload_n 2 d_Se_marked_4 rfl rfl ?_
  refine z_iadd d_Se_marked_5 ?_
  refine z_istore_n (lv2 := [(3, .int ((x1 * (46 : Int32)) + x2)), (0, .ref x0), (1, .int x1), (2, .int x2)]) d_Se_marked_6 rfl (Nat.le_of_ble_eq_true rfl) rfl ?_
  refine z_iload_n 0 d_Se_marked_7 rfl rfl ?_
  refine z_if_lt (y := 0) (tgt := 23) d_Se_marked_8 (by decide) E (fun E => ?_) (fun E => ?_)
  · refine z_lv [] rfl ?_
    exact (w_Se_marked_b23 hQ (w_Se_marked_b24 hQ)) h E
  · refine z_iload_n 0 d_Se_marked_11 rfl rfl ?_
    refine z_aload_n 1 d_Se_marked_12 rfl rfl ?_
    refine z_alen 1 (fun _ => rfl) d_Se_marked_13 E (fun v1 _ E => ?_)
    refine z_ic_ge (tgt := 23) d_Se_marked_14 (by decide) E (fun E => ?_) (fun E => ?_)
    · refine z_lv [] rfl ?_
      exact (w_Se_marked_b23 hQ (w_Se_marked_b24 hQ)) h E
    · refine z_aload_n 1 d_Se_marked_17 rfl rfl ?_
      refine z_iload_n 0 d_Se_marked_18 rfl rfl ?_
      refine z_laload d_Se_marked_19 E (fun v2 _ E => ?_)
      refine z_goto (tgt := 24) d_Se_marked_20 (by decide) ?_
      refine z_lv [] rfl ?_
      exact (w_Se_marked_b24 hQ) v2 h E
theorem m_Se_marked {l : Launch} {G : Nat} {x0 : Nat} {x1 : Int32} {x2 : Int32} {h : pH} {r : pR} (E : f_Se_marked G x0 x1 x2 h = some r) : zMet l y_Se_marked M_Se_marked 0 0 [.ref x0, .int x1, .int x2] h r :=
  zMet_of (by decide) rfl (Nat.le_of_ble_eq_true rfl) (fun p e s m args below meth c D0 cT => w_Se_marked_b0 (X := (p, l, e, s, m, args, below, meth, c, D0, cT, h, _, 0, 0)) rfl x0 x1 x2 h E)
def f_Se_setMarked_b25 (G : Nat) (h : pH) : Option pR := some (none, h)
theorem f_Se_setMarked_b25_eq (G : Nat) (h : pH) : f_Se_setMarked_b25 G h = (some (none, h)) := rfl
def f_Se_setMarked (G : Nat) (x0 : Nat) (x1 : Int32) (x2 : Int32) (x3 : Int64) (h : pH) : Option pR := if ((x1 * (46 : Int32)) + x2) < 0 then ((f_Se_setMarked_b25 G) h) else ((aL h 1 x0).bind fun v1 => if v1 ≤ ((x1 * (46 : Int32)) + x2) then ((f_Se_setMarked_b25 G) h) else ((sJ h x0 ((x1 * (46 : Int32)) + x2) x3).bind fun h2 => (f_Se_setMarked_b25 G) h2))
theorem f_Se_setMarked_eq (G : Nat) (x0 : Nat) (x1 : Int32) (x2 : Int32) (x3 : Int64) (h : pH) : f_Se_setMarked G x0 x1 x2 x3 h = (if ((x1 * (46 : Int32)) + x2) < 0 then ((f_Se_setMarked_b25 G) h) else ((aL h 1 x0).bind fun v1 => if v1 ≤ ((x1 * (46 : Int32)) + x2) then ((f_Se_setMarked_b25 G) h) else ((sJ h x0 ((x1 * (46 : Int32)) + x2) x3).bind fun h2 => (f_Se_setMarked_b25 G) h2))) := rfl
set_option maxRecDepth 100000 in
set_option maxHeartbeats 4000000 in
theorem w_Se_setMarked_b25 {X : zX} {r : pR} {G : Nat} (hQ : zQ X r) : ∀ (h : pH), f_Se_setMarked_b25 G h = some r → Z X M_Se_setMarked 0 0 h 25 [] [] := by
  intro h E
  rw [f_Se_setMarked_b25_eq] at E
  exact z_return hQ rfl z00 d_Se_setMarked_25 E
set_option maxRecDepth 100000 in
set_option maxHeartbeats 4000000 in
theorem w_Se_setMarked_b0 {X : zX} {r : pR} {G : Nat} (hQ : zQ X r) : ∀ (x0 : Nat) (x1 : Int32) (x2 : Int32) (x3 : Int64) (h : pH), f_Se_setMarked G x0 x1 x2 x3 h = some r → Z X M_Se_setMarked 0 0 h 0 [(0, .ref x0), (1, .int x1), (2, .int x2), (3, .long x3)] [] := by
  intro x0 x1 x2 x3 h E
  rw [f_Se_setMarked_eq] at E
  refine z_iload_n 1 d_Se_setMarked_0 rfl rfl ?_
  refine z_bipush (v := (46 : Int32)) d_Se_setMarked_1 (by decide) ?_
  refine z_imul d_Se_setMarked_3 ?_
  refine z_iload_n 2 d_Se_setMarked_4 rfl rfl ?_
  refine z_iadd d_Se_setMarked_5 ?_
  refine z_istore (lv2 := [(5, .int ((x1 * (46 : Int32)) + x2)), (0, .ref x0), (1, .int x1), (2, .int x2), (3, .long x3)]) d_Se_setMarked_6 (Nat.le_of_ble_eq_true rfl) rfl ?_
  refine z_iload 0 d_Se_setMarked_8 rfl ?_
  refine z_if_lt (y := 0) (tgt := 25) d_Se_setMarked_10 (by decide) E (fun E => ?_) (fun E => ?_)
  · refine z_lv [] rfl ?_
    exact (w_Se_setMarked_b25 hQ) h E
  · refine z_iload 0 d_Se_setMarked_13 rfl ?_
    refine z_aload_n 1 d_Se_setMarked_15 rfl rfl ?_
    refine z_alen 1 (fun _ => rfl) d_Se_setMarked_16 E (fun v1 _ E => ?_)
    refine z_ic_ge (tgt := 25) d_Se_setMarked_17 (by decide) E (fun E => ?_) (fun E => ?_)
    · refine z_lv [] rfl ?_
      exact (w_Se_setMarked_b25 hQ) h E
    · refine z_aload_n 1 d_Se_setMarked_20 rfl rfl ?_
      refine z_iload 0 d_Se_setMarked_21 rfl ?_
      refine z_lload_n 4 d_Se_setMarked_23 rfl rfl ?_
      refine z_lastore d_Se_setMarked_24 E (fun h2 _ E => ?_)
      refine z_lv [] rfl ?_
      exact (w_Se_setMarked_b25 hQ) h2 E
theorem m_Se_setMarked {l : Launch} {G : Nat} {x0 : Nat} {x1 : Int32} {x2 : Int32} {x3 : Int64} {h : pH} {r : pR} (E : f_Se_setMarked G x0 x1 x2 x3 h = some r) : zMet l y_Se_setMarked M_Se_setMarked 0 0 [.ref x0, .int x1, .int x2, .long x3] h r :=
  zMet_of (by decide) rfl (Nat.le_of_ble_eq_true rfl) (fun p e s m args below meth c D0 cT => w_Se_setMarked_b0 (X := (p, l, e, s, m, args, below, meth, c, D0, cT, h, _, 0, 0)) rfl x0 x1 x2 x3 h E)
def f_Se_termFor_b20 (G : Nat) (s0 : Int32) (h : pH) : Option pR := some (some (.int s0), h)
theorem f_Se_termFor_b20_eq (G : Nat) (s0 : Int32) (h : pH) : f_Se_termFor_b20 G s0 h = (some (some (.int s0), h)) := rfl
def f_Se_termFor (G : Nat) (x0 : Nat) (x1 : Int32) (h : pH) : Option pR := cI true (f_Mg_isNode G x1 h) fun v4 h1 => if v4 = 0 then ((f_Se_termFor_b20 G) (-1 : Int32) h1) else ((gR h1 x0 1 7).bind fun v5 => (aI h1 v5 (x1 - (40 : Int32))).bind fun v6 => (f_Se_termFor_b20 G) v6 h1)
theorem f_Se_termFor_eq (G : Nat) (x0 : Nat) (x1 : Int32) (h : pH) : f_Se_termFor G x0 x1 h = (cI true (f_Mg_isNode G x1 h) fun v4 h1 => if v4 = 0 then ((f_Se_termFor_b20 G) (-1 : Int32) h1) else ((gR h1 x0 1 7).bind fun v5 => (aI h1 v5 (x1 - (40 : Int32))).bind fun v6 => (f_Se_termFor_b20 G) v6 h1)) := rfl
set_option maxRecDepth 100000 in
set_option maxHeartbeats 4000000 in
theorem w_Se_termFor_b20 {X : zX} {r : pR} {G : Nat} (hQ : zQ X r) : ∀ (s0 : Int32) (h : pH), f_Se_termFor_b20 G s0 h = some r → Z X M_Se_termFor 0 0 h 20 [] [.int s0] := by
  intro s0 h E
  rw [f_Se_termFor_b20_eq] at E
  exact z_ireturn hQ rfl z00 d_Se_termFor_20 E
set_option maxRecDepth 100000 in
set_option maxHeartbeats 4000000 in
theorem w_Se_termFor_b0 {X : zX} {r : pR} {G : Nat} (hQ : zQ X r) : ∀ (x0 : Nat) (x1 : Int32) (h : pH), f_Se_termFor G x0 x1 h = some r → Z X M_Se_termFor 0 0 h 0 [(0, .ref x0), (1, .int x1)] [] := by
  intro x0 x1 h E
  rw [f_Se_termFor_eq] at E
  refine z_iload_n 1 d_Se_termFor_0 rfl rfl ?_
  obtain ⟨g2, v4, h1, e3, E⟩ := cI_some E
  refine z_invSN (y := y_Mg_isNode) (Mc := M_Mg_isNode) (av := [.int x1]) (rest := []) ⟨(List.mem_of_getElem? (i := 11) rfl), zt_402, zt_48⟩ zk_Mg_isNode zy_Mg_isNode (by decide) (Nat.le_of_ble_eq_true rfl) z00 rfl (Nat.le_of_ble_eq_true rfl) d_Se_termFor_1 (m_Mg_isNode e3) ?_
  show Z X M_Se_termFor 0 0 h1 4 [(0, .ref x0), (1, .int x1)] [.int v4]
  refine z_if_eq (y := 0) (tgt := 19) d_Se_termFor_4 (by decide) E (fun E => ?_) (fun E => ?_)
  · refine z_iconst (v := (-1 : Int32)) d_Se_termFor_19 (by decide) ?_
    refine z_lv [] rfl ?_
    exact (w_Se_termFor_b20 hQ) (-1 : Int32) h1 E
  · refine z_aload_n 0 d_Se_termFor_7 rfl rfl ?_
    refine z_getR (ci := 1) (j := 7) rfl (by decide) zf_Se_42 d_Se_termFor_8 E (fun v5 _ E => ?_)
    refine z_iload_n 1 d_Se_termFor_11 rfl rfl ?_
    refine z_bipush (v := (40 : Int32)) d_Se_termFor_12 (by decide) ?_
    refine z_isub d_Se_termFor_14 ?_
    refine z_iaload d_Se_termFor_15 E (fun v6 _ E => ?_)
    refine z_goto (tgt := 20) d_Se_termFor_16 (by decide) ?_
    refine z_lv [] rfl ?_
    exact (w_Se_termFor_b20 hQ) v6 h1 E
theorem m_Se_termFor {l : Launch} {G : Nat} {x0 : Nat} {x1 : Int32} {h : pH} {r : pR} (E : f_Se_termFor G x0 x1 h = some r) : zMet l y_Se_termFor M_Se_termFor 0 0 [.ref x0, .int x1] h r :=
  zMet_of (by decide) rfl (Nat.le_of_ble_eq_true rfl) (fun p e s m args below meth c D0 cT => w_Se_termFor_b0 (X := (p, l, e, s, m, args, below, meth, c, D0, cT, h, _, 0, 0)) rfl x0 x1 h E)
def f_Se_rowIsBefore (G : Nat) (x0 : Nat) (x1 : Nat) (h : pH) : Option pR := (gR h x0 1 7).bind fun v1 => cI true (f_Mg_isBefore G v1 x1 (6 : Int32) h) fun v5 h2 => (if isZ v5 = true then some (some (.int v5), h2) else none)
theorem f_Se_rowIsBefore_eq (G : Nat) (x0 : Nat) (x1 : Nat) (h : pH) : f_Se_rowIsBefore G x0 x1 h = ((gR h x0 1 7).bind fun v1 => cI true (f_Mg_isBefore G v1 x1 (6 : Int32) h) fun v5 h2 => (if isZ v5 = true then some (some (.int v5), h2) else none)) := rfl
set_option maxRecDepth 100000 in
set_option maxHeartbeats 4000000 in
theorem w_Se_rowIsBefore_b0 {X : zX} {r : pR} {G : Nat} (hQ : zQ X r) : ∀ (x0 : Nat) (x1 : Nat) (h : pH), f_Se_rowIsBefore G x0 x1 h = some r → Z X M_Se_rowIsBefore 0 0 h 0 [(0, .ref x0), (1, .ref x1)] [] := by
  intro x0 x1 h E
  rw [f_Se_rowIsBefore_eq] at E
  refine z_aload_n 0 d_Se_rowIsBefore_0 rfl rfl ?_
  refine z_getR (ci := 1) (j := 7) rfl (by decide) zf_Se_42 d_Se_rowIsBefore_1 E (fun v1 _ E => ?_)
  refine z_aload_n 1 d_Se_rowIsBefore_4 rfl rfl ?_
  refine z_bipush (v := (6 : Int32)) d_Se_rowIsBefore_5 (by decide) ?_
  obtain ⟨g3, v5, h2, e4, E⟩ := cI_some E
  refine z_invSN (y := y_Mg_isBefore) (Mc := M_Mg_isBefore) (av := [.ref v1, .ref x1, .int (6 : Int32)]) (rest := []) ⟨(List.mem_of_getElem? (i := 16) rfl), zt_519, zt_48⟩ zk_Mg_isBefore zy_Mg_isBefore (by decide) (Nat.le_of_ble_eq_true rfl) z00 rfl (Nat.le_of_ble_eq_true rfl) d_Se_rowIsBefore_7 (m_Mg_isBefore e4) ?_
  show Z X M_Se_rowIsBefore 0 0 h2 10 [(0, .ref x0), (1, .ref x1)] [.int v5]
  exact z_zreturn hQ rfl z00 d_Se_rowIsBefore_10 E
theorem m_Se_rowIsBefore {l : Launch} {G : Nat} {x0 : Nat} {x1 : Nat} {h : pH} {r : pR} (E : f_Se_rowIsBefore G x0 x1 h = some r) : zMet l y_Se_rowIsBefore M_Se_rowIsBefore 0 0 [.ref x0, .ref x1] h r :=
  zMet_of (by decide) rfl (Nat.le_of_ble_eq_true rfl) (fun p e s m args below meth c D0 cT => w_Se_rowIsBefore_b0 (X := (p, l, e, s, m, args, below, meth, c, D0, cT, h, _, 0, 0)) rfl x0 x1 h E)
def f_Se_giveRow_b29 (G : Nat) (h : pH) : Option pR := some (none, h)
theorem f_Se_giveRow_b29_eq (G : Nat) (h : pH) : f_Se_giveRow_b29 G h = (some (none, h)) := rfl
def f_Se_giveRow_b2 (G : Nat) : Nat → Nat → Nat → Int32 → pH → Option pR
  | 0 => fun _ _ _ _ => none
  | F + 1 => fun x0 x1 x2 h => if (6 : Int32) ≤ x2 then ((f_Se_giveRow_b29 G) h) else ((aL h 0 x1).bind fun v1 => if v1 ≤ x2 then ((f_Se_giveRow_b29 G) h) else ((gR h x0 1 7).bind fun v2 => (aI h v2 x2).bind fun v3 => (sI h x1 x2 v3).bind fun h4 => (f_Se_giveRow_b2 G F) x0 x1 (x2 + 1) h4))
theorem f_Se_giveRow_b2_eq (G : Nat) (F : Nat) (x0 : Nat) (x1 : Nat) (x2 : Int32) (h : pH) : f_Se_giveRow_b2 G (F + 1) x0 x1 x2 h = (if (6 : Int32) ≤ x2 then ((f_Se_giveRow_b29 G) h) else ((aL h 0 x1).bind fun v1 => if v1 ≤ x2 then ((f_Se_giveRow_b29 G) h) else ((gR h x0 1 7).bind fun v2 => (aI h v2 x2).bind fun v3 => (sI h x1 x2 v3).bind fun h4 => (f_Se_giveRow_b2 G F) x0 x1 (x2 + 1) h4))) := rfl
def f_Se_giveRow (G : Nat) (x0 : Nat) (x1 : Nat) (h : pH) : Option pR := (f_Se_giveRow_b2 G G) x0 x1 (0 : Int32) h
theorem f_Se_giveRow_eq (G : Nat) (x0 : Nat) (x1 : Nat) (h : pH) : f_Se_giveRow G x0 x1 h = ((f_Se_giveRow_b2 G G) x0 x1 (0 : Int32) h) := rfl
set_option maxRecDepth 100000 in
set_option maxHeartbeats 4000000 in
theorem w_Se_giveRow_b29 {X : zX} {r : pR} {G : Nat} (hQ : zQ X r) : ∀ (h : pH), f_Se_giveRow_b29 G h = some r → Z X M_Se_giveRow 0 0 h 29 [] [] := by
  intro h E
  rw [f_Se_giveRow_b29_eq] at E
  exact z_return hQ rfl z00 d_Se_giveRow_29 E
set_option maxRecDepth 100000 in
set_option maxHeartbeats 4000000 in
theorem w_Se_giveRow_b2 {X : zX} {r : pR} {G : Nat} (hQ : zQ X r) : ∀ (F : Nat) (x0 : Nat) (x1 : Nat) (x2 : Int32) (h : pH), f_Se_giveRow_b2 G F x0 x1 x2 h = some r → Z X M_Se_giveRow 0 0 h 2 [(0, .ref x0), (1, .ref x1), (2, .int x2)] [] := by
  intro F
  induction F with
  | zero => intro x0 x1 x2 h E; exact nomatch (show (none : Option pR) = some _ from E)
  | succ F ih =>
    intro x0 x1 x2 h E
    rw [f_Se_giveRow_b2_eq] at E
    refine z_iload_n 2 d_Se_giveRow_2 rfl rfl ?_
    refine z_bipush (v := (6 : Int32)) d_Se_giveRow_3 (by decide) ?_
    refine z_ic_ge (tgt := 29) d_Se_giveRow_5 (by decide) E (fun E => ?_) (fun E => ?_)
    · refine z_lv [] rfl ?_
      exact (w_Se_giveRow_b29 hQ) h E
    · refine z_iload_n 2 d_Se_giveRow_8 rfl rfl ?_
      refine z_aload_n 1 d_Se_giveRow_9 rfl rfl ?_
      refine z_alen 0 (fun _ => rfl) d_Se_giveRow_10 E (fun v1 _ E => ?_)
      refine z_ic_ge (tgt := 29) d_Se_giveRow_11 (by decide) E (fun E => ?_) (fun E => ?_)
      · refine z_lv [] rfl ?_
        exact (w_Se_giveRow_b29 hQ) h E
      · refine z_aload_n 1 d_Se_giveRow_14 rfl rfl ?_
        refine z_iload_n 2 d_Se_giveRow_15 rfl rfl ?_
        refine z_aload_n 0 d_Se_giveRow_16 rfl rfl ?_
        refine z_getR (ci := 1) (j := 7) rfl (by decide) zf_Se_42 d_Se_giveRow_17 E (fun v2 _ E => ?_)
        refine z_iload_n 2 d_Se_giveRow_20 rfl rfl ?_
        refine z_iaload d_Se_giveRow_21 E (fun v3 _ E => ?_)
        refine z_iastore d_Se_giveRow_22 E (fun h4 _ E => ?_)
        refine z_iinc (v := (x2 + 1)) (lv2 := [(2, .int (x2 + 1)), (0, .ref x0), (1, .ref x1)]) 2 d_Se_giveRow_23 rfl rfl (Nat.le_of_ble_eq_true rfl) rfl ?_
        refine z_goto (tgt := 2) d_Se_giveRow_26 (by decide) ?_
        refine z_lv [1, 2, 0] rfl ?_
        exact ih x0 x1 (x2 + 1) h4 E
set_option maxRecDepth 100000 in
set_option maxHeartbeats 4000000 in
theorem w_Se_giveRow_b0 {X : zX} {r : pR} {G : Nat} (hQ : zQ X r) : ∀ (x0 : Nat) (x1 : Nat) (h : pH), f_Se_giveRow G x0 x1 h = some r → Z X M_Se_giveRow 0 0 h 0 [(0, .ref x0), (1, .ref x1)] [] := by
  intro x0 x1 h E
  rw [f_Se_giveRow_eq] at E
  refine z_iconst (v := (0 : Int32)) d_Se_giveRow_0 (by decide) ?_
  refine z_istore_n (lv2 := [(2, .int (0 : Int32)), (0, .ref x0), (1, .ref x1)]) d_Se_giveRow_1 rfl (Nat.le_of_ble_eq_true rfl) rfl ?_
  refine z_lv [1, 2, 0] rfl ?_
  exact (w_Se_giveRow_b2 hQ G) x0 x1 (0 : Int32) h E
theorem m_Se_giveRow {l : Launch} {G : Nat} {x0 : Nat} {x1 : Nat} {h : pH} {r : pR} (E : f_Se_giveRow G x0 x1 h = some r) : zMet l y_Se_giveRow M_Se_giveRow 0 0 [.ref x0, .ref x1] h r :=
  zMet_of (by decide) rfl (Nat.le_of_ble_eq_true rfl) (fun p e s m args below meth c D0 cT => w_Se_giveRow_b0 (X := (p, l, e, s, m, args, below, meth, c, D0, cT, h, _, 0, 0)) rfl x0 x1 h E)
def f_Se_mark_b2 (G : Nat) : Nat → Nat → Nat → Int32 → pH → Option pR
  | 0 => fun _ _ _ _ => none
  | F + 1 => fun x0 x1 x2 h => cI (oC h x1 0) (f_Gr_count G x1 h) fun v4 h1 => if v4 ≤ x2 then (some (none, h1)) else (cI (oC h1 x1 0) (f_Gr_at G x1 x2 h1) fun v8 h5 => cI true (f_Mg_subjectOf G v8 h5) fun v12 h9 => cI true (f_Mg_verbOf G v8 h9) fun v16 h13 => cI true (f_Mg_objectOf G v8 h13) fun v20 h17 => (gR h17 x0 1 5).bind fun v21 => (gR h17 x0 1 5).bind fun v22 => cJ true (f_Se_marked G v22 v16 v12 h17) fun v26 h23 => cV true (f_Se_setMarked G v21 v16 v12 (v26 ||| ((1 : Int64) <<< ((v20).toInt64 &&& 63))) h23) fun h27 => (gR h27 x0 1 6).bind fun v30 => (gR h27 x0 1 6).bind fun v31 => cJ true (f_Se_marked G v31 v16 v20 h27) fun v35 h32 => cV true (f_Se_setMarked G v30 v16 v20 (v35 ||| ((1 : Int64) <<< ((v12).toInt64 &&& 63))) h32) fun h36 => (f_Se_mark_b2 G F) x0 x1 (x2 + 1) h36)
theorem f_Se_mark_b2_eq (G : Nat) (F : Nat) (x0 : Nat) (x1 : Nat) (x2 : Int32) (h : pH) : f_Se_mark_b2 G (F + 1) x0 x1 x2 h = (cI (oC h x1 0) (f_Gr_count G x1 h) fun v4 h1 => if v4 ≤ x2 then (some (none, h1)) else (cI (oC h1 x1 0) (f_Gr_at G x1 x2 h1) fun v8 h5 => cI true (f_Mg_subjectOf G v8 h5) fun v12 h9 => cI true (f_Mg_verbOf G v8 h9) fun v16 h13 => cI true (f_Mg_objectOf G v8 h13) fun v20 h17 => (gR h17 x0 1 5).bind fun v21 => (gR h17 x0 1 5).bind fun v22 => cJ true (f_Se_marked G v22 v16 v12 h17) fun v26 h23 => cV true (f_Se_setMarked G v21 v16 v12 (v26 ||| ((1 : Int64) <<< ((v20).toInt64 &&& 63))) h23) fun h27 => (gR h27 x0 1 6).bind fun v30 => (gR h27 x0 1 6).bind fun v31 => cJ true (f_Se_marked G v31 v16 v20 h27) fun v35 h32 => cV true (f_Se_setMarked G v30 v16 v20 (v35 ||| ((1 : Int64) <<< ((v12).toInt64 &&& 63))) h32) fun h36 => (f_Se_mark_b2 G F) x0 x1 (x2 + 1) h36)) := rfl
def f_Se_mark (G : Nat) (x0 : Nat) (x1 : Nat) (h : pH) : Option pR := (f_Se_mark_b2 G G) x0 x1 (0 : Int32) h
theorem f_Se_mark_eq (G : Nat) (x0 : Nat) (x1 : Nat) (h : pH) : f_Se_mark G x0 x1 h = ((f_Se_mark_b2 G G) x0 x1 (0 : Int32) h) := rfl
set_option maxRecDepth 100000 in
set_option maxHeartbeats 4000000 in
theorem w_Se_mark_b2 {X : zX} {r : pR} {G : Nat} (hQ : zQ X r) : ∀ (F : Nat) (x0 : Nat) (x1 : Nat) (x2 : Int32) (h : pH), f_Se_mark_b2 G F x0 x1 x2 h = some r → Z X M_Se_mark 0 0 h 2 [(0, .ref x0), (1, .ref x1), (2, .int x2)] [] := by
  intro F
  induction F with
  | zero => intro x0 x1 x2 h E; exact nomatch (show (none : Option pR) = some _ from E)
  | succ F ih =>
    intro x0 x1 x2 h E
    rw [f_Se_mark_b2_eq] at E
    refine z_iload_n 2 d_Se_mark_2 rfl rfl ?_
    refine z_aload_n 1 d_Se_mark_3 rfl rfl ?_
    obtain ⟨g2, v4, h1, e3, E⟩ := cI_some E
    refine z_invV (ci := 0) (y := y_Gr_count) (Mc := M_Gr_count) (av := []) (rest := [.int x2]) rfl rfl ⟨zt_376, zt_311, zt_312, zt_49⟩ zk_Gr_count zy_Gr_count (by decide) (Nat.le_of_ble_eq_true rfl) z00 rfl (Nat.le_of_ble_eq_true rfl) d_Se_mark_4 g2 (m_Gr_count e3) ?_
    show Z X M_Se_mark 0 0 h1 7 [(0, .ref x0), (1, .ref x1), (2, .int x2)] [.int v4, .int x2]
    refine z_ic_ge (tgt := 94) d_Se_mark_7 (by decide) E (fun E => ?_) (fun E => ?_)
    · exact z_return hQ rfl z00 d_Se_mark_94 E
    · refine z_aload_n 1 d_Se_mark_10 rfl rfl ?_
      refine z_iload_n 2 d_Se_mark_11 rfl rfl ?_
      obtain ⟨g6, v8, h5, e7, E⟩ := cI_some E
      refine z_invV (ci := 0) (y := y_Gr_at) (Mc := M_Gr_at) (av := [.int x2]) (rest := []) rfl rfl ⟨zt_377, zt_285, zt_286, zt_49⟩ zk_Gr_at zy_Gr_at (by decide) (Nat.le_of_ble_eq_true rfl) z00 rfl (Nat.le_of_ble_eq_true rfl) d_Se_mark_12 g6 (m_Gr_at e7) ?_
      show Z X M_Se_mark 0 0 h5 15 [(0, .ref x0), (1, .ref x1), (2, .int x2)] [.int v8]
      refine z_istore_n (lv2 := [(3, .int v8), (0, .ref x0), (1, .ref x1), (2, .int x2)]) d_Se_mark_15 rfl (Nat.le_of_ble_eq_true rfl) rfl ?_
      refine z_iload_n 0 d_Se_mark_16 rfl rfl ?_
      obtain ⟨g10, v12, h9, e11, E⟩ := cI_some E
      refine z_invSN (y := y_Mg_subjectOf) (Mc := M_Mg_subjectOf) (av := [.int v8]) (rest := []) ⟨(List.mem_of_getElem? (i := 7) rfl), zt_330, zt_48⟩ zk_Mg_subjectOf zy_Mg_subjectOf (by decide) (Nat.le_of_ble_eq_true rfl) z00 rfl (Nat.le_of_ble_eq_true rfl) d_Se_mark_17 (m_Mg_subjectOf e11) ?_
      show Z X M_Se_mark 0 0 h9 20 [(3, .int v8), (0, .ref x0), (1, .ref x1), (2, .int x2)] [.int v12]
      refine z_istore (lv2 := [(4, .int v12), (3, .int v8), (0, .ref x0), (1, .ref x1), (2, .int x2)]) d_Se_mark_20 (Nat.le_of_ble_eq_true rfl) rfl ?_
      refine z_iload_n 1 d_Se_mark_22 rfl rfl ?_
      obtain ⟨g14, v16, h13, e15, E⟩ := cI_some E
      refine z_invSN (y := y_Mg_verbOf) (Mc := M_Mg_verbOf) (av := [.int v8]) (rest := []) ⟨(List.mem_of_getElem? (i := 8) rfl), zt_380, zt_48⟩ zk_Mg_verbOf zy_Mg_verbOf (by decide) (Nat.le_of_ble_eq_true rfl) z00 rfl (Nat.le_of_ble_eq_true rfl) d_Se_mark_23 (m_Mg_verbOf e15) ?_
      show Z X M_Se_mark 0 0 h13 26 [(4, .int v12), (3, .int v8), (0, .ref x0), (1, .ref x1), (2, .int x2)] [.int v16]
      refine z_istore (lv2 := [(5, .int v16), (4, .int v12), (3, .int v8), (0, .ref x0), (1, .ref x1), (2, .int x2)]) d_Se_mark_26 (Nat.le_of_ble_eq_true rfl) rfl ?_
      refine z_iload_n 2 d_Se_mark_28 rfl rfl ?_
      obtain ⟨g18, v20, h17, e19, E⟩ := cI_some E
      refine z_invSN (y := y_Mg_objectOf) (Mc := M_Mg_objectOf) (av := [.int v8]) (rest := []) ⟨(List.mem_of_getElem? (i := 9) rfl), zt_333, zt_48⟩ zk_Mg_objectOf zy_Mg_objectOf (by decide) (Nat.le_of_ble_eq_true rfl) z00 rfl (Nat.le_of_ble_eq_true rfl) d_Se_mark_29 (m_Mg_objectOf e19) ?_
      show Z X M_Se_mark 0 0 h17 32 [(5, .int v16), (4, .int v12), (3, .int v8), (0, .ref x0), (1, .ref x1), (2, .int x2)] [.int v20]
      refine z_istore (lv2 := [(6, .int v20), (5, .int v16), (4, .int v12), (3, .int v8), (0, .ref x0), (1, .ref x1), (2, .int x2)]) d_Se_mark_32 (Nat.le_of_ble_eq_true rfl) rfl ?_
      refine z_aload_n 4 d_Se_mark_34 rfl rfl ?_
      refine z_getR (ci := 1) (j := 5) rfl (by decide) zf_Se_35 d_Se_mark_35 E (fun v21 _ E => ?_)
      refine z_iload 1 d_Se_mark_38 rfl ?_
      refine z_iload 2 d_Se_mark_40 rfl ?_
      refine z_aload_n 4 d_Se_mark_42 rfl rfl ?_
      refine z_getR (ci := 1) (j := 5) rfl (by decide) zf_Se_35 d_Se_mark_43 E (fun v22 _ E => ?_)
      refine z_iload 1 d_Se_mark_46 rfl ?_
      refine z_iload 2 d_Se_mark_48 rfl ?_
      obtain ⟨g24, v26, h23, e25, E⟩ := cJ_some E
      refine z_invS (y := y_Se_marked) (Mc := M_Se_marked) (av := [.ref v22, .int v16, .int v12]) (rest := [.int v12, .int v16, .ref v21]) ⟨zt_383, zt_384, zt_50⟩ zk_Se_marked zy_Se_marked (by decide) (Nat.le_of_ble_eq_true rfl) z00 rfl (Nat.le_of_ble_eq_true rfl) d_Se_mark_50 (m_Se_marked e25) ?_
      show Z X M_Se_mark 0 0 h23 53 [(6, .int v20), (5, .int v16), (4, .int v12), (3, .int v8), (0, .ref x0), (1, .ref x1), (2, .int x2)] [.long v26, .int v12, .int v16, .ref v21]
      refine z_lconst (v := (1 : Int64)) d_Se_mark_53 (by decide) ?_
      refine z_iload 0 d_Se_mark_54 rfl ?_
      refine z_lshl d_Se_mark_56 ?_
      refine z_lor d_Se_mark_57 ?_
      obtain ⟨g28, h27, e29, E⟩ := cV_some E
      refine z_invS (y := y_Se_setMarked) (Mc := M_Se_setMarked) (av := [.ref v21, .int v16, .int v12, .long (v26 ||| ((1 : Int64) <<< ((v20).toInt64 &&& 63)))]) (rest := []) ⟨zt_386, zt_387, zt_50⟩ zk_Se_setMarked zy_Se_setMarked (by decide) (Nat.le_of_ble_eq_true rfl) z00 rfl (Nat.le_of_ble_eq_true rfl) d_Se_mark_58 (m_Se_setMarked e29) ?_
      show Z X M_Se_mark 0 0 h27 61 [(6, .int v20), (5, .int v16), (4, .int v12), (3, .int v8), (0, .ref x0), (1, .ref x1), (2, .int x2)] []
      refine z_aload_n 4 d_Se_mark_61 rfl rfl ?_
      refine z_getR (ci := 1) (j := 6) rfl (by decide) zf_Se_39 d_Se_mark_62 E (fun v30 _ E => ?_)
      refine z_iload 1 d_Se_mark_65 rfl ?_
      refine z_iload 0 d_Se_mark_67 rfl ?_
      refine z_aload_n 4 d_Se_mark_69 rfl rfl ?_
      refine z_getR (ci := 1) (j := 6) rfl (by decide) zf_Se_39 d_Se_mark_70 E (fun v31 _ E => ?_)
      refine z_iload 1 d_Se_mark_73 rfl ?_
      refine z_iload 0 d_Se_mark_75 rfl ?_
      obtain ⟨g33, v35, h32, e34, E⟩ := cJ_some E
      refine z_invS (y := y_Se_marked) (Mc := M_Se_marked) (av := [.ref v31, .int v16, .int v20]) (rest := [.int v20, .int v16, .ref v30]) ⟨zt_383, zt_384, zt_50⟩ zk_Se_marked zy_Se_marked (by decide) (Nat.le_of_ble_eq_true rfl) z00 rfl (Nat.le_of_ble_eq_true rfl) d_Se_mark_77 (m_Se_marked e34) ?_
      show Z X M_Se_mark 0 0 h32 80 [(6, .int v20), (5, .int v16), (4, .int v12), (3, .int v8), (0, .ref x0), (1, .ref x1), (2, .int x2)] [.long v35, .int v20, .int v16, .ref v30]
      refine z_lconst (v := (1 : Int64)) d_Se_mark_80 (by decide) ?_
      refine z_iload 2 d_Se_mark_81 rfl ?_
      refine z_lshl d_Se_mark_83 ?_
      refine z_lor d_Se_mark_84 ?_
      obtain ⟨g37, h36, e38, E⟩ := cV_some E
      refine z_invS (y := y_Se_setMarked) (Mc := M_Se_setMarked) (av := [.ref v30, .int v16, .int v20, .long (v35 ||| ((1 : Int64) <<< ((v12).toInt64 &&& 63)))]) (rest := []) ⟨zt_386, zt_387, zt_50⟩ zk_Se_setMarked zy_Se_setMarked (by decide) (Nat.le_of_ble_eq_true rfl) z00 rfl (Nat.le_of_ble_eq_true rfl) d_Se_mark_85 (m_Se_setMarked e38) ?_
      show Z X M_Se_mark 0 0 h36 88 [(6, .int v20), (5, .int v16), (4, .int v12), (3, .int v8), (0, .ref x0), (1, .ref x1), (2, .int x2)] []
      refine z_iinc (v := (x2 + 1)) (lv2 := [(2, .int (x2 + 1)), (6, .int v20), (5, .int v16), (4, .int v12), (3, .int v8), (0, .ref x0), (1, .ref x1)]) 6 d_Se_mark_88 rfl rfl (Nat.le_of_ble_eq_true rfl) rfl ?_
      refine z_goto (tgt := 2) d_Se_mark_91 (by decide) ?_
      refine z_lv [5, 6, 0] rfl ?_
      exact ih x0 x1 (x2 + 1) h36 E
set_option maxRecDepth 100000 in
set_option maxHeartbeats 4000000 in
theorem w_Se_mark_b0 {X : zX} {r : pR} {G : Nat} (hQ : zQ X r) : ∀ (x0 : Nat) (x1 : Nat) (h : pH), f_Se_mark G x0 x1 h = some r → Z X M_Se_mark 0 0 h 0 [(0, .ref x0), (1, .ref x1)] [] := by
  intro x0 x1 h E
  rw [f_Se_mark_eq] at E
  refine z_iconst (v := (0 : Int32)) d_Se_mark_0 (by decide) ?_
  refine z_istore_n (lv2 := [(2, .int (0 : Int32)), (0, .ref x0), (1, .ref x1)]) d_Se_mark_1 rfl (Nat.le_of_ble_eq_true rfl) rfl ?_
  refine z_lv [1, 2, 0] rfl ?_
  exact (w_Se_mark_b2 hQ G) x0 x1 (0 : Int32) h E
theorem m_Se_mark {l : Launch} {G : Nat} {x0 : Nat} {x1 : Nat} {h : pH} {r : pR} (E : f_Se_mark G x0 x1 h = some r) : zMet l y_Se_mark M_Se_mark 0 0 [.ref x0, .ref x1] h r :=
  zMet_of (by decide) rfl (Nat.le_of_ble_eq_true rfl) (fun p e s m args below meth c D0 cT => w_Se_mark_b0 (X := (p, l, e, s, m, args, below, meth, c, D0, cT, h, _, 0, 0)) rfl x0 x1 h E)
def f_Se_unmark_b2 (G : Nat) : Nat → Nat → Nat → Int32 → pH → Option pR
  | 0 => fun _ _ _ _ => none
  | F + 1 => fun x0 x1 x2 h => cI (oC h x1 0) (f_Gr_count G x1 h) fun v4 h1 => if v4 ≤ x2 then (some (none, h1)) else (cI (oC h1 x1 0) (f_Gr_at G x1 x2 h1) fun v8 h5 => (gR h5 x0 1 5).bind fun v9 => cI true (f_Mg_verbOf G v8 h5) fun v13 h10 => cI true (f_Mg_subjectOf G v8 h10) fun v17 h14 => cV true (f_Se_setMarked G v9 v13 v17 (0 : Int64) h14) fun h18 => (gR h18 x0 1 6).bind fun v21 => cI true (f_Mg_verbOf G v8 h18) fun v25 h22 => cI true (f_Mg_objectOf G v8 h22) fun v29 h26 => cV true (f_Se_setMarked G v21 v25 v29 (0 : Int64) h26) fun h30 => (f_Se_unmark_b2 G F) x0 x1 (x2 + 1) h30)
theorem f_Se_unmark_b2_eq (G : Nat) (F : Nat) (x0 : Nat) (x1 : Nat) (x2 : Int32) (h : pH) : f_Se_unmark_b2 G (F + 1) x0 x1 x2 h = (cI (oC h x1 0) (f_Gr_count G x1 h) fun v4 h1 => if v4 ≤ x2 then (some (none, h1)) else (cI (oC h1 x1 0) (f_Gr_at G x1 x2 h1) fun v8 h5 => (gR h5 x0 1 5).bind fun v9 => cI true (f_Mg_verbOf G v8 h5) fun v13 h10 => cI true (f_Mg_subjectOf G v8 h10) fun v17 h14 => cV true (f_Se_setMarked G v9 v13 v17 (0 : Int64) h14) fun h18 => (gR h18 x0 1 6).bind fun v21 => cI true (f_Mg_verbOf G v8 h18) fun v25 h22 => cI true (f_Mg_objectOf G v8 h22) fun v29 h26 => cV true (f_Se_setMarked G v21 v25 v29 (0 : Int64) h26) fun h30 => (f_Se_unmark_b2 G F) x0 x1 (x2 + 1) h30)) := rfl
def f_Se_unmark (G : Nat) (x0 : Nat) (x1 : Nat) (h : pH) : Option pR := (f_Se_unmark_b2 G G) x0 x1 (0 : Int32) h
theorem f_Se_unmark_eq (G : Nat) (x0 : Nat) (x1 : Nat) (h : pH) : f_Se_unmark G x0 x1 h = ((f_Se_unmark_b2 G G) x0 x1 (0 : Int32) h) := rfl
set_option maxRecDepth 100000 in
set_option maxHeartbeats 4000000 in
theorem w_Se_unmark_b2 {X : zX} {r : pR} {G : Nat} (hQ : zQ X r) : ∀ (F : Nat) (x0 : Nat) (x1 : Nat) (x2 : Int32) (h : pH), f_Se_unmark_b2 G F x0 x1 x2 h = some r → Z X M_Se_unmark 0 0 h 2 [(0, .ref x0), (1, .ref x1), (2, .int x2)] [] := by
  intro F
  induction F with
  | zero => intro x0 x1 x2 h E; exact nomatch (show (none : Option pR) = some _ from E)
  | succ F ih =>
    intro x0 x1 x2 h E
    rw [f_Se_unmark_b2_eq] at E
    refine z_iload_n 2 d_Se_unmark_2 rfl rfl ?_
    refine z_aload_n 1 d_Se_unmark_3 rfl rfl ?_
    obtain ⟨g2, v4, h1, e3, E⟩ := cI_some E
    refine z_invV (ci := 0) (y := y_Gr_count) (Mc := M_Gr_count) (av := []) (rest := [.int x2]) rfl rfl ⟨zt_376, zt_311, zt_312, zt_49⟩ zk_Gr_count zy_Gr_count (by decide) (Nat.le_of_ble_eq_true rfl) z00 rfl (Nat.le_of_ble_eq_true rfl) d_Se_unmark_4 g2 (m_Gr_count e3) ?_
    show Z X M_Se_unmark 0 0 h1 7 [(0, .ref x0), (1, .ref x1), (2, .int x2)] [.int v4, .int x2]
    refine z_ic_ge (tgt := 54) d_Se_unmark_7 (by decide) E (fun E => ?_) (fun E => ?_)
    · exact z_return hQ rfl z00 d_Se_unmark_54 E
    · refine z_aload_n 1 d_Se_unmark_10 rfl rfl ?_
      refine z_iload_n 2 d_Se_unmark_11 rfl rfl ?_
      obtain ⟨g6, v8, h5, e7, E⟩ := cI_some E
      refine z_invV (ci := 0) (y := y_Gr_at) (Mc := M_Gr_at) (av := [.int x2]) (rest := []) rfl rfl ⟨zt_377, zt_285, zt_286, zt_49⟩ zk_Gr_at zy_Gr_at (by decide) (Nat.le_of_ble_eq_true rfl) z00 rfl (Nat.le_of_ble_eq_true rfl) d_Se_unmark_12 g6 (m_Gr_at e7) ?_
      show Z X M_Se_unmark 0 0 h5 15 [(0, .ref x0), (1, .ref x1), (2, .int x2)] [.int v8]
      refine z_istore_n (lv2 := [(3, .int v8), (0, .ref x0), (1, .ref x1), (2, .int x2)]) d_Se_unmark_15 rfl (Nat.le_of_ble_eq_true rfl) rfl ?_
      refine z_aload_n 1 d_Se_unmark_16 rfl rfl ?_
      refine z_getR (ci := 1) (j := 5) rfl (by decide) zf_Se_35 d_Se_unmark_17 E (fun v9 _ E => ?_)
      refine z_iload_n 0 d_Se_unmark_20 rfl rfl ?_
      obtain ⟨g11, v13, h10, e12, E⟩ := cI_some E
      refine z_invSN (y := y_Mg_verbOf) (Mc := M_Mg_verbOf) (av := [.int v8]) (rest := [.ref v9]) ⟨(List.mem_of_getElem? (i := 8) rfl), zt_380, zt_48⟩ zk_Mg_verbOf zy_Mg_verbOf (by decide) (Nat.le_of_ble_eq_true rfl) z00 rfl (Nat.le_of_ble_eq_true rfl) d_Se_unmark_21 (m_Mg_verbOf e12) ?_
      show Z X M_Se_unmark 0 0 h10 24 [(3, .int v8), (0, .ref x0), (1, .ref x1), (2, .int x2)] [.int v13, .ref v9]
      refine z_iload_n 0 d_Se_unmark_24 rfl rfl ?_
      obtain ⟨g15, v17, h14, e16, E⟩ := cI_some E
      refine z_invSN (y := y_Mg_subjectOf) (Mc := M_Mg_subjectOf) (av := [.int v8]) (rest := [.int v13, .ref v9]) ⟨(List.mem_of_getElem? (i := 7) rfl), zt_330, zt_48⟩ zk_Mg_subjectOf zy_Mg_subjectOf (by decide) (Nat.le_of_ble_eq_true rfl) z00 rfl (Nat.le_of_ble_eq_true rfl) d_Se_unmark_25 (m_Mg_subjectOf e16) ?_
      show Z X M_Se_unmark 0 0 h14 28 [(3, .int v8), (0, .ref x0), (1, .ref x1), (2, .int x2)] [.int v17, .int v13, .ref v9]
      refine z_lconst (v := (0 : Int64)) d_Se_unmark_28 (by decide) ?_
      obtain ⟨g19, h18, e20, E⟩ := cV_some E
      refine z_invS (y := y_Se_setMarked) (Mc := M_Se_setMarked) (av := [.ref v9, .int v13, .int v17, .long (0 : Int64)]) (rest := []) ⟨zt_386, zt_387, zt_50⟩ zk_Se_setMarked zy_Se_setMarked (by decide) (Nat.le_of_ble_eq_true rfl) z00 rfl (Nat.le_of_ble_eq_true rfl) d_Se_unmark_29 (m_Se_setMarked e20) ?_
      show Z X M_Se_unmark 0 0 h18 32 [(3, .int v8), (0, .ref x0), (1, .ref x1), (2, .int x2)] []
      refine z_aload_n 1 d_Se_unmark_32 rfl rfl ?_
      refine z_getR (ci := 1) (j := 6) rfl (by decide) zf_Se_39 d_Se_unmark_33 E (fun v21 _ E => ?_)
      refine z_iload_n 0 d_Se_unmark_36 rfl rfl ?_
      obtain ⟨g23, v25, h22, e24, E⟩ := cI_some E
      refine z_invSN (y := y_Mg_verbOf) (Mc := M_Mg_verbOf) (av := [.int v8]) (rest := [.ref v21]) ⟨(List.mem_of_getElem? (i := 8) rfl), zt_380, zt_48⟩ zk_Mg_verbOf zy_Mg_verbOf (by decide) (Nat.le_of_ble_eq_true rfl) z00 rfl (Nat.le_of_ble_eq_true rfl) d_Se_unmark_37 (m_Mg_verbOf e24) ?_
      show Z X M_Se_unmark 0 0 h22 40 [(3, .int v8), (0, .ref x0), (1, .ref x1), (2, .int x2)] [.int v25, .ref v21]
      refine z_iload_n 0 d_Se_unmark_40 rfl rfl ?_
      obtain ⟨g27, v29, h26, e28, E⟩ := cI_some E
      refine z_invSN (y := y_Mg_objectOf) (Mc := M_Mg_objectOf) (av := [.int v8]) (rest := [.int v25, .ref v21]) ⟨(List.mem_of_getElem? (i := 9) rfl), zt_333, zt_48⟩ zk_Mg_objectOf zy_Mg_objectOf (by decide) (Nat.le_of_ble_eq_true rfl) z00 rfl (Nat.le_of_ble_eq_true rfl) d_Se_unmark_41 (m_Mg_objectOf e28) ?_
      show Z X M_Se_unmark 0 0 h26 44 [(3, .int v8), (0, .ref x0), (1, .ref x1), (2, .int x2)] [.int v29, .int v25, .ref v21]
      refine z_lconst (v := (0 : Int64)) d_Se_unmark_44 (by decide) ?_
      obtain ⟨g31, h30, e32, E⟩ := cV_some E
      refine z_invS (y := y_Se_setMarked) (Mc := M_Se_setMarked) (av := [.ref v21, .int v25, .int v29, .long (0 : Int64)]) (rest := []) ⟨zt_386, zt_387, zt_50⟩ zk_Se_setMarked zy_Se_setMarked (by decide) (Nat.le_of_ble_eq_true rfl) z00 rfl (Nat.le_of_ble_eq_true rfl) d_Se_unmark_45 (m_Se_setMarked e32) ?_
      show Z X M_Se_unmark 0 0 h30 48 [(3, .int v8), (0, .ref x0), (1, .ref x1), (2, .int x2)] []
      refine z_iinc (v := (x2 + 1)) (lv2 := [(2, .int (x2 + 1)), (3, .int v8), (0, .ref x0), (1, .ref x1)]) 3 d_Se_unmark_48 rfl rfl (Nat.le_of_ble_eq_true rfl) rfl ?_
      refine z_goto (tgt := 2) d_Se_unmark_51 (by decide) ?_
      refine z_lv [2, 3, 0] rfl ?_
      exact ih x0 x1 (x2 + 1) h30 E
set_option maxRecDepth 100000 in
set_option maxHeartbeats 4000000 in
theorem w_Se_unmark_b0 {X : zX} {r : pR} {G : Nat} (hQ : zQ X r) : ∀ (x0 : Nat) (x1 : Nat) (h : pH), f_Se_unmark G x0 x1 h = some r → Z X M_Se_unmark 0 0 h 0 [(0, .ref x0), (1, .ref x1)] [] := by
  intro x0 x1 h E
  rw [f_Se_unmark_eq] at E
  refine z_iconst (v := (0 : Int32)) d_Se_unmark_0 (by decide) ?_
  refine z_istore_n (lv2 := [(2, .int (0 : Int32)), (0, .ref x0), (1, .ref x1)]) d_Se_unmark_1 rfl (Nat.le_of_ble_eq_true rfl) rfl ?_
  refine z_lv [1, 2, 0] rfl ?_
  exact (w_Se_unmark_b2 hQ G) x0 x1 (0 : Int32) h E
theorem m_Se_unmark {l : Launch} {G : Nat} {x0 : Nat} {x1 : Nat} {h : pH} {r : pR} (E : f_Se_unmark G x0 x1 h = some r) : zMet l y_Se_unmark M_Se_unmark 0 0 [.ref x0, .ref x1] h r :=
  zMet_of (by decide) rfl (Nat.le_of_ble_eq_true rfl) (fun p e s m args below meth c D0 cT => w_Se_unmark_b0 (X := (p, l, e, s, m, args, below, meth, c, D0, cT, h, _, 0, 0)) rfl x0 x1 h E)
def f_Se_keepOnly_b18 (G : Nat) (k19 : Nat → Int32 → Int64 → pH → Option pR) (x0 : Nat) (x1 : Int32) (h : pH) : Option pR := k19 x0 x1 (0 : Int64) h
theorem f_Se_keepOnly_b18_eq (G : Nat) (k19 : Nat → Int32 → Int64 → pH → Option pR) (x0 : Nat) (x1 : Int32) (h : pH) : f_Se_keepOnly_b18 G k19 x0 x1 h = (k19 x0 x1 (0 : Int64) h) := rfl
def f_Se_keepOnly_b19 (G : Nat) (x0 : Nat) (x1 : Int32) (s0 : Int64) (h : pH) : Option pR := if (lg_cmp s0 (0 : Int64)) = 0 then (some (some (.int (-1 : Int32)), h)) else ((aJ h x0 x1).bind fun v3 => if (lg_cmp s0 v3) = 0 then (some (some (.int (0 : Int32)), h)) else ((sJ h x0 x1 s0).bind fun h4 => some (some (.int ((1 : Int32) <<< (x1 &&& 31))), h4)))
theorem f_Se_keepOnly_b19_eq (G : Nat) (x0 : Nat) (x1 : Int32) (s0 : Int64) (h : pH) : f_Se_keepOnly_b19 G x0 x1 s0 h = (if (lg_cmp s0 (0 : Int64)) = 0 then (some (some (.int (-1 : Int32)), h)) else ((aJ h x0 x1).bind fun v3 => if (lg_cmp s0 v3) = 0 then (some (some (.int (0 : Int32)), h)) else ((sJ h x0 x1 s0).bind fun h4 => some (some (.int ((1 : Int32) <<< (x1 &&& 31))), h4)))) := rfl
def f_Se_keepOnly (G : Nat) (x0 : Nat) (x1 : Int32) (x2 : Int64) (h : pH) : Option pR := if x1 < 0 then ((f_Se_keepOnly_b18 G (f_Se_keepOnly_b19 G)) x0 x1 h) else ((aL h 1 x0).bind fun v1 => if v1 ≤ x1 then ((f_Se_keepOnly_b18 G (f_Se_keepOnly_b19 G)) x0 x1 h) else ((aJ h x0 x1).bind fun v2 => (f_Se_keepOnly_b19 G) x0 x1 (v2 &&& x2) h))
theorem f_Se_keepOnly_eq (G : Nat) (x0 : Nat) (x1 : Int32) (x2 : Int64) (h : pH) : f_Se_keepOnly G x0 x1 x2 h = (if x1 < 0 then ((f_Se_keepOnly_b18 G (f_Se_keepOnly_b19 G)) x0 x1 h) else ((aL h 1 x0).bind fun v1 => if v1 ≤ x1 then ((f_Se_keepOnly_b18 G (f_Se_keepOnly_b19 G)) x0 x1 h) else ((aJ h x0 x1).bind fun v2 => (f_Se_keepOnly_b19 G) x0 x1 (v2 &&& x2) h))) := rfl
set_option maxRecDepth 100000 in
set_option maxHeartbeats 4000000 in
theorem w_Se_keepOnly_b18 {X : zX} {r : pR} {G : Nat} {k19 : Nat → Int32 → Int64 → pH → Option pR} (hQ : zQ X r) (hk19 : ∀ (x0 : Nat) (x1 : Int32) (s0 : Int64) (h : pH), k19 x0 x1 s0 h = some r → Z X M_Se_keepOnly 0 0 h 19 [(0, .ref x0), (1, .int x1)] [.long s0]) : ∀ (x0 : Nat) (x1 : Int32) (h : pH), f_Se_keepOnly_b18 G k19 x0 x1 h = some r → Z X M_Se_keepOnly 0 0 h 18 [(0, .ref x0), (1, .int x1)] [] := by
  intro x0 x1 h E
  rw [f_Se_keepOnly_b18_eq] at E
  refine z_lconst (v := (0 : Int64)) d_Se_keepOnly_18 (by decide) ?_
  exact hk19 x0 x1 (0 : Int64) h E
set_option maxRecDepth 100000 in
set_option maxHeartbeats 4000000 in
theorem w_Se_keepOnly_b19 {X : zX} {r : pR} {G : Nat} (hQ : zQ X r) : ∀ (x0 : Nat) (x1 : Int32) (s0 : Int64) (h : pH), f_Se_keepOnly_b19 G x0 x1 s0 h = some r → Z X M_Se_keepOnly 0 0 h 19 [(0, .ref x0), (1, .int x1)] [.long s0] := by
  intro x0 x1 s0 h E
  rw [f_Se_keepOnly_b19_eq] at E
  refine z_lstore (lv2 := [(4, .long s0), (0, .ref x0), (1, .int x1)]) d_Se_keepOnly_19 (Nat.le_of_ble_eq_true rfl) rfl ?_
  refine z_lload 0 d_Se_keepOnly_21 rfl ?_
  refine z_lconst (v := (0 : Int64)) d_Se_keepOnly_23 (by decide) ?_
  refine z_lcmp d_Se_keepOnly_24 ?_
  refine z_if_ne (y := 0) (tgt := 30) d_Se_keepOnly_25 (by decide) E (fun E => ?_) (fun E => ?_)
  · refine z_lload 0 d_Se_keepOnly_30 rfl ?_
    refine z_aload_n 1 d_Se_keepOnly_32 rfl rfl ?_
    refine z_iload_n 2 d_Se_keepOnly_33 rfl rfl ?_
    refine z_laload d_Se_keepOnly_34 E (fun v3 _ E => ?_)
    refine z_lcmp d_Se_keepOnly_35 ?_
    refine z_if_ne (y := 0) (tgt := 41) d_Se_keepOnly_36 (by decide) E (fun E => ?_) (fun E => ?_)
    · refine z_aload_n 1 d_Se_keepOnly_41 rfl rfl ?_
      refine z_iload_n 2 d_Se_keepOnly_42 rfl rfl ?_
      refine z_lload 0 d_Se_keepOnly_43 rfl ?_
      refine z_lastore d_Se_keepOnly_45 E (fun h4 _ E => ?_)
      refine z_iconst (v := (1 : Int32)) d_Se_keepOnly_46 (by decide) ?_
      refine z_iload_n 2 d_Se_keepOnly_47 rfl rfl ?_
      refine z_ishl d_Se_keepOnly_48 ?_
      exact z_ireturn hQ rfl z00 d_Se_keepOnly_49 E
    · refine z_iconst (v := (0 : Int32)) d_Se_keepOnly_39 (by decide) ?_
      exact z_ireturn hQ rfl z00 d_Se_keepOnly_40 E
  · refine z_iconst (v := (-1 : Int32)) d_Se_keepOnly_28 (by decide) ?_
    exact z_ireturn hQ rfl z00 d_Se_keepOnly_29 E
set_option maxRecDepth 100000 in
set_option maxHeartbeats 4000000 in
theorem w_Se_keepOnly_b0 {X : zX} {r : pR} {G : Nat} (hQ : zQ X r) : ∀ (x0 : Nat) (x1 : Int32) (x2 : Int64) (h : pH), f_Se_keepOnly G x0 x1 x2 h = some r → Z X M_Se_keepOnly 0 0 h 0 [(0, .ref x0), (1, .int x1), (2, .long x2)] [] := by
  intro x0 x1 x2 h E
  rw [f_Se_keepOnly_eq] at E
  refine z_iload_n 1 d_Se_keepOnly_0 rfl rfl ?_
  refine z_if_lt (y := 0) (tgt := 18) d_Se_keepOnly_1 (by decide) E (fun E => ?_) (fun E => ?_)
  · refine z_lv [0, 1] rfl ?_
    exact (w_Se_keepOnly_b18 hQ (w_Se_keepOnly_b19 hQ)) x0 x1 h E
  · refine z_iload_n 1 d_Se_keepOnly_4 rfl rfl ?_
    refine z_aload_n 0 d_Se_keepOnly_5 rfl rfl ?_
    refine z_alen 1 (fun _ => rfl) d_Se_keepOnly_6 E (fun v1 _ E => ?_)
    refine z_ic_ge (tgt := 18) d_Se_keepOnly_7 (by decide) E (fun E => ?_) (fun E => ?_)
    · refine z_lv [0, 1] rfl ?_
      exact (w_Se_keepOnly_b18 hQ (w_Se_keepOnly_b19 hQ)) x0 x1 h E
    · refine z_aload_n 0 d_Se_keepOnly_10 rfl rfl ?_
      refine z_iload_n 1 d_Se_keepOnly_11 rfl rfl ?_
      refine z_laload d_Se_keepOnly_12 E (fun v2 _ E => ?_)
      refine z_lload_n 2 d_Se_keepOnly_13 rfl rfl ?_
      refine z_land d_Se_keepOnly_14 ?_
      refine z_goto (tgt := 19) d_Se_keepOnly_15 (by decide) ?_
      refine z_lv [0, 1] rfl ?_
      exact (w_Se_keepOnly_b19 hQ) x0 x1 (v2 &&& x2) h E
theorem m_Se_keepOnly {l : Launch} {G : Nat} {x0 : Nat} {x1 : Int32} {x2 : Int64} {h : pH} {r : pR} (E : f_Se_keepOnly G x0 x1 x2 h = some r) : zMet l y_Se_keepOnly M_Se_keepOnly 0 0 [.ref x0, .int x1, .long x2] h r :=
  zMet_of (by decide) rfl (Nat.le_of_ble_eq_true rfl) (fun p e s m args below meth c D0 cT => w_Se_keepOnly_b0 (X := (p, l, e, s, m, args, below, meth, c, D0, cT, h, _, 0, 0)) rfl x0 x1 x2 h E)
def f_Se_limit_b15 (G : Nat) (s0 : Int32) (h : pH) : Option pR := (if isZ s0 = true then some (some (.int s0), h) else none)
theorem f_Se_limit_b15_eq (G : Nat) (s0 : Int32) (h : pH) : f_Se_limit_b15 G s0 h = ((if isZ s0 = true then some (some (.int s0), h) else none)) := rfl
def f_Se_limit (G : Nat) (x0 : Nat) (x1 : Int32) (x2 : Int64) (h : pH) : Option pR := cI true (f_Se_keepOnly G x0 x1 x2 h) fun v4 h1 => if v4 = (-1 : Int32) then ((f_Se_limit_b15 G) (0 : Int32) h1) else ((f_Se_limit_b15 G) (1 : Int32) h1)
theorem f_Se_limit_eq (G : Nat) (x0 : Nat) (x1 : Int32) (x2 : Int64) (h : pH) : f_Se_limit G x0 x1 x2 h = (cI true (f_Se_keepOnly G x0 x1 x2 h) fun v4 h1 => if v4 = (-1 : Int32) then ((f_Se_limit_b15 G) (0 : Int32) h1) else ((f_Se_limit_b15 G) (1 : Int32) h1)) := rfl
set_option maxRecDepth 100000 in
set_option maxHeartbeats 4000000 in
theorem w_Se_limit_b15 {X : zX} {r : pR} {G : Nat} (hQ : zQ X r) : ∀ (s0 : Int32) (h : pH), f_Se_limit_b15 G s0 h = some r → Z X M_Se_limit 0 0 h 15 [] [.int s0] := by
  intro s0 h E
  rw [f_Se_limit_b15_eq] at E
  exact z_zreturn hQ rfl z00 d_Se_limit_15 E
set_option maxRecDepth 100000 in
set_option maxHeartbeats 4000000 in
theorem w_Se_limit_b0 {X : zX} {r : pR} {G : Nat} (hQ : zQ X r) : ∀ (x0 : Nat) (x1 : Int32) (x2 : Int64) (h : pH), f_Se_limit G x0 x1 x2 h = some r → Z X M_Se_limit 0 0 h 0 [(0, .ref x0), (1, .int x1), (2, .long x2)] [] := by
  intro x0 x1 x2 h E
  rw [f_Se_limit_eq] at E
  refine z_aload_n 0 d_Se_limit_0 rfl rfl ?_
  refine z_iload_n 1 d_Se_limit_1 rfl rfl ?_
  refine z_lload_n 2 d_Se_limit_2 rfl rfl ?_
  obtain ⟨g2, v4, h1, e3, E⟩ := cI_some E
  refine z_invS (y := y_Se_keepOnly) (Mc := M_Se_keepOnly) (av := [.ref x0, .int x1, .long x2]) (rest := []) ⟨zt_407, zt_408, zt_50⟩ zk_Se_keepOnly zy_Se_keepOnly (by decide) (Nat.le_of_ble_eq_true rfl) z00 rfl (Nat.le_of_ble_eq_true rfl) d_Se_limit_3 (m_Se_keepOnly e3) ?_
  show Z X M_Se_limit 0 0 h1 6 [(0, .ref x0), (1, .int x1), (2, .long x2)] [.int v4]
  refine z_iconst (v := (-1 : Int32)) d_Se_limit_6 (by decide) ?_
  refine z_ic_eq (tgt := 14) d_Se_limit_7 (by decide) E (fun E => ?_) (fun E => ?_)
  · refine z_iconst (v := (0 : Int32)) d_Se_limit_14 (by decide) ?_
    refine z_lv [] rfl ?_
    exact (w_Se_limit_b15 hQ) (0 : Int32) h1 E
  · refine z_iconst (v := (1 : Int32)) d_Se_limit_10 (by decide) ?_
    refine z_goto (tgt := 15) d_Se_limit_11 (by decide) ?_
    refine z_lv [] rfl ?_
    exact (w_Se_limit_b15 hQ) (1 : Int32) h1 E
theorem m_Se_limit {l : Launch} {G : Nat} {x0 : Nat} {x1 : Int32} {x2 : Int64} {h : pH} {r : pR} (E : f_Se_limit G x0 x1 x2 h = some r) : zMet l y_Se_limit M_Se_limit 0 0 [.ref x0, .int x1, .long x2] h r :=
  zMet_of (by decide) rfl (Nat.le_of_ble_eq_true rfl) (fun p e s m args below meth c D0 cT => w_Se_limit_b0 (X := (p, l, e, s, m, args, below, meth, c, D0, cT, h, _, 0, 0)) rfl x0 x1 x2 h E)
def f_Se_loops_b5 (G : Nat) : Nat → Nat → Int32 → Int64 → Int32 → pH → Option pR
  | 0 => fun _ _ _ _ _ => none
  | F + 1 => fun x0 x1 x2 x4 h => if (46 : Int32) ≤ x4 then (some (some (.long x2), h)) else ((gR h x0 1 5).bind fun v1 => cJ true (f_Se_marked G v1 x1 x4 h) fun v5 h2 => (f_Se_loops_b5 G F) x0 x1 (x2 ||| (v5 &&& ((1 : Int64) <<< ((x4).toInt64 &&& 63)))) (x4 + 1) h2)
theorem f_Se_loops_b5_eq (G : Nat) (F : Nat) (x0 : Nat) (x1 : Int32) (x2 : Int64) (x4 : Int32) (h : pH) : f_Se_loops_b5 G (F + 1) x0 x1 x2 x4 h = (if (46 : Int32) ≤ x4 then (some (some (.long x2), h)) else ((gR h x0 1 5).bind fun v1 => cJ true (f_Se_marked G v1 x1 x4 h) fun v5 h2 => (f_Se_loops_b5 G F) x0 x1 (x2 ||| (v5 &&& ((1 : Int64) <<< ((x4).toInt64 &&& 63)))) (x4 + 1) h2)) := rfl
def f_Se_loops (G : Nat) (x0 : Nat) (x1 : Int32) (h : pH) : Option pR := (f_Se_loops_b5 G G) x0 x1 (0 : Int64) (0 : Int32) h
theorem f_Se_loops_eq (G : Nat) (x0 : Nat) (x1 : Int32) (h : pH) : f_Se_loops G x0 x1 h = ((f_Se_loops_b5 G G) x0 x1 (0 : Int64) (0 : Int32) h) := rfl
set_option maxRecDepth 100000 in
set_option maxHeartbeats 4000000 in
theorem w_Se_loops_b5 {X : zX} {r : pR} {G : Nat} (hQ : zQ X r) : ∀ (F : Nat) (x0 : Nat) (x1 : Int32) (x2 : Int64) (x4 : Int32) (h : pH), f_Se_loops_b5 G F x0 x1 x2 x4 h = some r → Z X M_Se_loops 0 0 h 5 [(0, .ref x0), (1, .int x1), (2, .long x2), (4, .int x4)] [] := by
  intro F
  induction F with
  | zero => intro x0 x1 x2 x4 h E; exact nomatch (show (none : Option pR) = some _ from E)
  | succ F ih =>
    intro x0 x1 x2 x4 h E
    rw [f_Se_loops_b5_eq] at E
    refine z_iload 3 d_Se_loops_5 rfl ?_
    refine z_bipush (v := (46 : Int32)) d_Se_loops_7 (by decide) ?_
    refine z_ic_ge (tgt := 36) d_Se_loops_9 (by decide) E (fun E => ?_) (fun E => ?_)
    · refine z_lload_n 2 d_Se_loops_36 rfl rfl ?_
      exact z_lreturn hQ rfl z00 d_Se_loops_37 E
    · refine z_lload_n 2 d_Se_loops_12 rfl rfl ?_
      refine z_aload_n 0 d_Se_loops_13 rfl rfl ?_
      refine z_getR (ci := 1) (j := 5) rfl (by decide) zf_Se_35 d_Se_loops_14 E (fun v1 _ E => ?_)
      refine z_iload_n 1 d_Se_loops_17 rfl rfl ?_
      refine z_iload 3 d_Se_loops_18 rfl ?_
      obtain ⟨g3, v5, h2, e4, E⟩ := cJ_some E
      refine z_invS (y := y_Se_marked) (Mc := M_Se_marked) (av := [.ref v1, .int x1, .int x4]) (rest := [.long x2]) ⟨zt_383, zt_384, zt_50⟩ zk_Se_marked zy_Se_marked (by decide) (Nat.le_of_ble_eq_true rfl) z00 rfl (Nat.le_of_ble_eq_true rfl) d_Se_loops_20 (m_Se_marked e4) ?_
      show Z X M_Se_loops 0 0 h2 23 [(0, .ref x0), (1, .int x1), (2, .long x2), (4, .int x4)] [.long v5, .long x2]
      refine z_lconst (v := (1 : Int64)) d_Se_loops_23 (by decide) ?_
      refine z_iload 3 d_Se_loops_24 rfl ?_
      refine z_lshl d_Se_loops_26 ?_
      refine z_land d_Se_loops_27 ?_
      refine z_lor d_Se_loops_28 ?_
      refine z_lstore_n (lv2 := [(2, .long (x2 ||| (v5 &&& ((1 : Int64) <<< ((x4).toInt64 &&& 63))))), (0, .ref x0), (1, .int x1), (4, .int x4)]) d_Se_loops_29 rfl (Nat.le_of_ble_eq_true rfl) rfl ?_
      refine z_iinc (v := (x4 + 1)) (lv2 := [(4, .int (x4 + 1)), (2, .long (x2 ||| (v5 &&& ((1 : Int64) <<< ((x4).toInt64 &&& 63))))), (0, .ref x0), (1, .int x1)]) 3 d_Se_loops_30 rfl rfl (Nat.le_of_ble_eq_true rfl) rfl ?_
      refine z_goto (tgt := 5) d_Se_loops_33 (by decide) ?_
      refine z_lv [2, 3, 1, 0] rfl ?_
      exact ih x0 x1 (x2 ||| (v5 &&& ((1 : Int64) <<< ((x4).toInt64 &&& 63)))) (x4 + 1) h2 E
set_option maxRecDepth 100000 in
set_option maxHeartbeats 4000000 in
theorem w_Se_loops_b0 {X : zX} {r : pR} {G : Nat} (hQ : zQ X r) : ∀ (x0 : Nat) (x1 : Int32) (h : pH), f_Se_loops G x0 x1 h = some r → Z X M_Se_loops 0 0 h 0 [(0, .ref x0), (1, .int x1)] [] := by
  intro x0 x1 h E
  rw [f_Se_loops_eq] at E
  refine z_lconst (v := (0 : Int64)) d_Se_loops_0 (by decide) ?_
  refine z_lstore_n (lv2 := [(2, .long (0 : Int64)), (0, .ref x0), (1, .int x1)]) d_Se_loops_1 rfl (Nat.le_of_ble_eq_true rfl) rfl ?_
  refine z_iconst (v := (0 : Int32)) d_Se_loops_2 (by decide) ?_
  refine z_istore (lv2 := [(4, .int (0 : Int32)), (2, .long (0 : Int64)), (0, .ref x0), (1, .int x1)]) d_Se_loops_3 (Nat.le_of_ble_eq_true rfl) rfl ?_
  refine z_lv [2, 3, 1, 0] rfl ?_
  exact (w_Se_loops_b5 hQ G) x0 x1 (0 : Int64) (0 : Int32) h E
theorem m_Se_loops {l : Launch} {G : Nat} {x0 : Nat} {x1 : Int32} {h : pH} {r : pR} (E : f_Se_loops G x0 x1 h = some r) : zMet l y_Se_loops M_Se_loops 0 0 [.ref x0, .int x1] h r :=
  zMet_of (by decide) rfl (Nat.le_of_ble_eq_true rfl) (fun p e s m args below meth c D0 cT => w_Se_loops_b0 (X := (p, l, e, s, m, args, below, meth, c, D0, cT, h, _, 0, 0)) rfl x0 x1 h E)
def f_Se_addLink (G : Nat) (x0 : Nat) (x1 : Int32) (h : pH) : Option pR := (gI h x0 1 3).bind fun v1 => (gR h x0 1 2).bind fun v2 => (aL h 0 v2).bind fun v3 => if v1 < v3 then ((gR h x0 1 2).bind fun v4 => (gI h x0 1 3).bind fun v5 => (sI h v4 v5 x1).bind fun h6 => (gI h6 x0 1 3).bind fun v7 => (oP h6 x0 1 3 (.int (v7 + (1 : Int32)))).bind fun h8 => (if isZ (1 : Int32) = true then some (some (.int (1 : Int32)), h8) else none)) else ((if isZ (0 : Int32) = true then some (some (.int (0 : Int32)), h) else none))
theorem f_Se_addLink_eq (G : Nat) (x0 : Nat) (x1 : Int32) (h : pH) : f_Se_addLink G x0 x1 h = ((gI h x0 1 3).bind fun v1 => (gR h x0 1 2).bind fun v2 => (aL h 0 v2).bind fun v3 => if v1 < v3 then ((gR h x0 1 2).bind fun v4 => (gI h x0 1 3).bind fun v5 => (sI h v4 v5 x1).bind fun h6 => (gI h6 x0 1 3).bind fun v7 => (oP h6 x0 1 3 (.int (v7 + (1 : Int32)))).bind fun h8 => (if isZ (1 : Int32) = true then some (some (.int (1 : Int32)), h8) else none)) else ((if isZ (0 : Int32) = true then some (some (.int (0 : Int32)), h) else none))) := rfl
set_option maxRecDepth 100000 in
set_option maxHeartbeats 4000000 in
theorem w_Se_addLink_b0 {X : zX} {r : pR} {G : Nat} (hQ : zQ X r) : ∀ (x0 : Nat) (x1 : Int32) (h : pH), f_Se_addLink G x0 x1 h = some r → Z X M_Se_addLink 0 0 h 0 [(0, .ref x0), (1, .int x1)] [] := by
  intro x0 x1 h E
  rw [f_Se_addLink_eq] at E
  refine z_aload_n 0 d_Se_addLink_0 rfl rfl ?_
  refine z_getI (ci := 1) (j := 3) rfl (by decide) zf_Se_26 d_Se_addLink_1 E (fun v1 _ E => ?_)
  refine z_aload_n 0 d_Se_addLink_4 rfl rfl ?_
  refine z_getR (ci := 1) (j := 2) rfl (by decide) zf_Se_22 d_Se_addLink_5 E (fun v2 _ E => ?_)
  refine z_alen 0 (fun _ => rfl) d_Se_addLink_8 E (fun v3 _ E => ?_)
  refine z_ic_lt (tgt := 14) d_Se_addLink_9 (by decide) E (fun E => ?_) (fun E => ?_)
  · refine z_aload_n 0 d_Se_addLink_14 rfl rfl ?_
    refine z_getR (ci := 1) (j := 2) rfl (by decide) zf_Se_22 d_Se_addLink_15 E (fun v4 _ E => ?_)
    refine z_aload_n 0 d_Se_addLink_18 rfl rfl ?_
    refine z_getI (ci := 1) (j := 3) rfl (by decide) zf_Se_26 d_Se_addLink_19 E (fun v5 _ E => ?_)
    refine z_iload_n 1 d_Se_addLink_22 rfl rfl ?_
    refine z_iastore d_Se_addLink_23 E (fun h6 _ E => ?_)
    refine z_aload_n 0 d_Se_addLink_24 rfl rfl ?_
    refine z_dup d_Se_addLink_25 rfl ?_
    refine z_getI (ci := 1) (j := 3) rfl (by decide) zf_Se_26 d_Se_addLink_26 E (fun v7 _ E => ?_)
    refine z_iconst (v := (1 : Int32)) d_Se_addLink_29 (by decide) ?_
    refine z_iadd d_Se_addLink_30 ?_
    refine z_putI (ci := 1) (j := 3) rfl (by decide) zf_Se_26 rfl rfl d_Se_addLink_31 E (fun h8 _ E => ?_)
    refine z_iconst (v := (1 : Int32)) d_Se_addLink_34 (by decide) ?_
    exact z_zreturn hQ rfl z00 d_Se_addLink_35 E
  · refine z_iconst (v := (0 : Int32)) d_Se_addLink_12 (by decide) ?_
    exact z_zreturn hQ rfl z00 d_Se_addLink_13 E
theorem m_Se_addLink {l : Launch} {G : Nat} {x0 : Nat} {x1 : Int32} {h : pH} {r : pR} (E : f_Se_addLink G x0 x1 h = some r) : zMet l y_Se_addLink M_Se_addLink 0 0 [.ref x0, .int x1] h r :=
  zMet_of (by decide) rfl (Nat.le_of_ble_eq_true rfl) (fun p e s m args below meth c D0 cT => w_Se_addLink_b0 (X := (p, l, e, s, m, args, below, meth, c, D0, cT, h, _, 0, 0)) rfl x0 x1 h E)
def f_Se_takeIn_b48 (G : Nat) (x0 : Nat) (x1 : Nat) (x2 : Int32) (x3 : Int32) (x4 : Int32) (x5 : Int32) (h : pH) : Option pR := cI true (f_Mg_isNode G x3 h) fun v33 h30 => if v33 = 0 then ((gR h30 x0 1 5).bind fun v59 => cJ true (f_Se_marked G v59 x4 x3 h30) fun v63 h60 => cI true (f_Se_limit G x1 (x5 - (40 : Int32)) v63 h60) fun v67 h64 => (if isZ v67 = true then some (some (.int v67), h64) else none)) else (cI true (f_Mg_isNode G x5 h30) fun v37 h34 => if v37 = 0 then ((gR h34 x0 1 6).bind fun v50 => cJ true (f_Se_marked G v50 x4 x5 h34) fun v54 h51 => cI true (f_Se_limit G x1 (x3 - (40 : Int32)) v54 h51) fun v58 h55 => (if isZ v58 = true then some (some (.int v58), h55) else none)) else (if x3 = x5 then (cJ (oC h34 x0 1) (f_Se_loops G x0 x4 h34) fun v45 h42 => cI true (f_Se_limit G x1 (x3 - (40 : Int32)) v45 h42) fun v49 h46 => (if isZ v49 = true then some (some (.int v49), h46) else none)) else (cI (oC h34 x0 1) (f_Se_addLink G x0 x2 h34) fun v41 h38 => (if isZ v41 = true then some (some (.int v41), h38) else none))))
theorem f_Se_takeIn_b48_eq (G : Nat) (x0 : Nat) (x1 : Nat) (x2 : Int32) (x3 : Int32) (x4 : Int32) (x5 : Int32) (h : pH) : f_Se_takeIn_b48 G x0 x1 x2 x3 x4 x5 h = (cI true (f_Mg_isNode G x3 h) fun v33 h30 => if v33 = 0 then ((gR h30 x0 1 5).bind fun v59 => cJ true (f_Se_marked G v59 x4 x3 h30) fun v63 h60 => cI true (f_Se_limit G x1 (x5 - (40 : Int32)) v63 h60) fun v67 h64 => (if isZ v67 = true then some (some (.int v67), h64) else none)) else (cI true (f_Mg_isNode G x5 h30) fun v37 h34 => if v37 = 0 then ((gR h34 x0 1 6).bind fun v50 => cJ true (f_Se_marked G v50 x4 x5 h34) fun v54 h51 => cI true (f_Se_limit G x1 (x3 - (40 : Int32)) v54 h51) fun v58 h55 => (if isZ v58 = true then some (some (.int v58), h55) else none)) else (if x3 = x5 then (cJ (oC h34 x0 1) (f_Se_loops G x0 x4 h34) fun v45 h42 => cI true (f_Se_limit G x1 (x3 - (40 : Int32)) v45 h42) fun v49 h46 => (if isZ v49 = true then some (some (.int v49), h46) else none)) else (cI (oC h34 x0 1) (f_Se_addLink G x0 x2 h34) fun v41 h38 => (if isZ v41 = true then some (some (.int v41), h38) else none))))) := rfl
def f_Se_takeIn (G : Nat) (x0 : Nat) (x1 : Nat) (x2 : Int32) (h : pH) : Option pR := cI true (f_Mg_subjectOf G x2 h) fun v4 h1 => cI true (f_Mg_verbOf G x2 h1) fun v8 h5 => cI true (f_Mg_objectOf G x2 h5) fun v12 h9 => cI true (f_Mg_isNode G v4 h9) fun v16 h13 => if v16 = 0 then (cI true (f_Mg_isNode G v12 h13) fun v20 h17 => if v20 = 0 then ((gR h17 x0 1 5).bind fun v21 => cJ true (f_Se_marked G v21 v8 v4 h17) fun v25 h22 => cI true (f_Mg_isIn G v25 v12 h22) fun v29 h26 => (if isZ v29 = true then some (some (.int v29), h26) else none)) else ((f_Se_takeIn_b48 G) x0 x1 x2 v4 v8 v12 h17)) else ((f_Se_takeIn_b48 G) x0 x1 x2 v4 v8 v12 h13)
theorem f_Se_takeIn_eq (G : Nat) (x0 : Nat) (x1 : Nat) (x2 : Int32) (h : pH) : f_Se_takeIn G x0 x1 x2 h = (cI true (f_Mg_subjectOf G x2 h) fun v4 h1 => cI true (f_Mg_verbOf G x2 h1) fun v8 h5 => cI true (f_Mg_objectOf G x2 h5) fun v12 h9 => cI true (f_Mg_isNode G v4 h9) fun v16 h13 => if v16 = 0 then (cI true (f_Mg_isNode G v12 h13) fun v20 h17 => if v20 = 0 then ((gR h17 x0 1 5).bind fun v21 => cJ true (f_Se_marked G v21 v8 v4 h17) fun v25 h22 => cI true (f_Mg_isIn G v25 v12 h22) fun v29 h26 => (if isZ v29 = true then some (some (.int v29), h26) else none)) else ((f_Se_takeIn_b48 G) x0 x1 x2 v4 v8 v12 h17)) else ((f_Se_takeIn_b48 G) x0 x1 x2 v4 v8 v12 h13)) := rfl
set_option maxRecDepth 100000 in
set_option maxHeartbeats 4000000 in
theorem w_Se_takeIn_b48 {X : zX} {r : pR} {G : Nat} (hQ : zQ X r) : ∀ (x0 : Nat) (x1 : Nat) (x2 : Int32) (x3 : Int32) (x4 : Int32) (x5 : Int32) (h : pH), f_Se_takeIn_b48 G x0 x1 x2 x3 x4 x5 h = some r → Z X M_Se_takeIn 0 0 h 48 [(0, .ref x0), (1, .ref x1), (2, .int x2), (3, .int x3), (4, .int x4), (5, .int x5)] [] := by
  intro x0 x1 x2 x3 x4 x5 h E
  rw [f_Se_takeIn_b48_eq] at E
  refine z_iload_n 3 d_Se_takeIn_48 rfl rfl ?_
  obtain ⟨g31, v33, h30, e32, E⟩ := cI_some E
  refine z_invSN (y := y_Mg_isNode) (Mc := M_Mg_isNode) (av := [.int x3]) (rest := []) ⟨(List.mem_of_getElem? (i := 11) rfl), zt_402, zt_48⟩ zk_Mg_isNode zy_Mg_isNode (by decide) (Nat.le_of_ble_eq_true rfl) z00 rfl (Nat.le_of_ble_eq_true rfl) d_Se_takeIn_49 (m_Mg_isNode e32) ?_
  show Z X M_Se_takeIn 0 0 h30 52 [(0, .ref x0), (1, .ref x1), (2, .int x2), (3, .int x3), (4, .int x4), (5, .int x5)] [.int v33]
  refine z_if_ne (y := 0) (tgt := 75) d_Se_takeIn_52 (by decide) E (fun E => ?_) (fun E => ?_)
  · refine z_iload 5 d_Se_takeIn_75 rfl ?_
    obtain ⟨g35, v37, h34, e36, E⟩ := cI_some E
    refine z_invSN (y := y_Mg_isNode) (Mc := M_Mg_isNode) (av := [.int x5]) (rest := []) ⟨(List.mem_of_getElem? (i := 11) rfl), zt_402, zt_48⟩ zk_Mg_isNode zy_Mg_isNode (by decide) (Nat.le_of_ble_eq_true rfl) z00 rfl (Nat.le_of_ble_eq_true rfl) d_Se_takeIn_77 (m_Mg_isNode e36) ?_
    show Z X M_Se_takeIn 0 0 h34 80 [(0, .ref x0), (1, .ref x1), (2, .int x2), (3, .int x3), (4, .int x4), (5, .int x5)] [.int v37]
    refine z_if_ne (y := 0) (tgt := 103) d_Se_takeIn_80 (by decide) E (fun E => ?_) (fun E => ?_)
    · refine z_iload_n 3 d_Se_takeIn_103 rfl rfl ?_
      refine z_iload 5 d_Se_takeIn_104 rfl ?_
      refine z_ic_ne (tgt := 124) d_Se_takeIn_106 (by decide) E (fun E => ?_) (fun E => ?_)
      · refine z_aload_n 0 d_Se_takeIn_124 rfl rfl ?_
        refine z_iload_n 2 d_Se_takeIn_125 rfl rfl ?_
        obtain ⟨g39, v41, h38, e40, E⟩ := cI_some E
        refine z_invV (ci := 1) (y := y_Se_addLink) (Mc := M_Se_addLink) (av := [.int x2]) (rest := []) rfl rfl ⟨zt_414, zt_416, zt_8, zt_50⟩ zk_Se_addLink zy_Se_addLink (by decide) (Nat.le_of_ble_eq_true rfl) z00 rfl (Nat.le_of_ble_eq_true rfl) d_Se_takeIn_126 g39 (m_Se_addLink e40) ?_
        show Z X M_Se_takeIn 0 0 h38 129 [(0, .ref x0), (1, .ref x1), (2, .int x2), (3, .int x3), (4, .int x4), (5, .int x5)] [.int v41]
        exact z_zreturn hQ rfl z00 d_Se_takeIn_129 E
      · refine z_aload_n 1 d_Se_takeIn_109 rfl rfl ?_
        refine z_iload_n 3 d_Se_takeIn_110 rfl rfl ?_
        refine z_bipush (v := (40 : Int32)) d_Se_takeIn_111 (by decide) ?_
        refine z_isub d_Se_takeIn_113 ?_
        refine z_aload_n 0 d_Se_takeIn_114 rfl rfl ?_
        refine z_iload 4 d_Se_takeIn_115 rfl ?_
        obtain ⟨g43, v45, h42, e44, E⟩ := cJ_some E
        refine z_invV (ci := 1) (y := y_Se_loops) (Mc := M_Se_loops) (av := [.int x4]) (rest := [.int (x3 - (40 : Int32)), .ref x1]) rfl rfl ⟨zt_410, zt_412, zt_7, zt_50⟩ zk_Se_loops zy_Se_loops (by decide) (Nat.le_of_ble_eq_true rfl) z00 rfl (Nat.le_of_ble_eq_true rfl) d_Se_takeIn_117 g43 (m_Se_loops e44) ?_
        show Z X M_Se_takeIn 0 0 h42 120 [(0, .ref x0), (1, .ref x1), (2, .int x2), (3, .int x3), (4, .int x4), (5, .int x5)] [.long v45, .int (x3 - (40 : Int32)), .ref x1]
        obtain ⟨g47, v49, h46, e48, E⟩ := cI_some E
        refine z_invS (y := y_Se_limit) (Mc := M_Se_limit) (av := [.ref x1, .int (x3 - (40 : Int32)), .long v45]) (rest := []) ⟨zt_404, zt_405, zt_50⟩ zk_Se_limit zy_Se_limit (by decide) (Nat.le_of_ble_eq_true rfl) z00 rfl (Nat.le_of_ble_eq_true rfl) d_Se_takeIn_120 (m_Se_limit e48) ?_
        show Z X M_Se_takeIn 0 0 h46 123 [(0, .ref x0), (1, .ref x1), (2, .int x2), (3, .int x3), (4, .int x4), (5, .int x5)] [.int v49]
        exact z_zreturn hQ rfl z00 d_Se_takeIn_123 E
    · refine z_aload_n 1 d_Se_takeIn_83 rfl rfl ?_
      refine z_iload_n 3 d_Se_takeIn_84 rfl rfl ?_
      refine z_bipush (v := (40 : Int32)) d_Se_takeIn_85 (by decide) ?_
      refine z_isub d_Se_takeIn_87 ?_
      refine z_aload_n 0 d_Se_takeIn_88 rfl rfl ?_
      refine z_getR (ci := 1) (j := 6) rfl (by decide) zf_Se_39 d_Se_takeIn_89 E (fun v50 _ E => ?_)
      refine z_iload 4 d_Se_takeIn_92 rfl ?_
      refine z_iload 5 d_Se_takeIn_94 rfl ?_
      obtain ⟨g52, v54, h51, e53, E⟩ := cJ_some E
      refine z_invS (y := y_Se_marked) (Mc := M_Se_marked) (av := [.ref v50, .int x4, .int x5]) (rest := [.int (x3 - (40 : Int32)), .ref x1]) ⟨zt_383, zt_384, zt_50⟩ zk_Se_marked zy_Se_marked (by decide) (Nat.le_of_ble_eq_true rfl) z00 rfl (Nat.le_of_ble_eq_true rfl) d_Se_takeIn_96 (m_Se_marked e53) ?_
      show Z X M_Se_takeIn 0 0 h51 99 [(0, .ref x0), (1, .ref x1), (2, .int x2), (3, .int x3), (4, .int x4), (5, .int x5)] [.long v54, .int (x3 - (40 : Int32)), .ref x1]
      obtain ⟨g56, v58, h55, e57, E⟩ := cI_some E
      refine z_invS (y := y_Se_limit) (Mc := M_Se_limit) (av := [.ref x1, .int (x3 - (40 : Int32)), .long v54]) (rest := []) ⟨zt_404, zt_405, zt_50⟩ zk_Se_limit zy_Se_limit (by decide) (Nat.le_of_ble_eq_true rfl) z00 rfl (Nat.le_of_ble_eq_true rfl) d_Se_takeIn_99 (m_Se_limit e57) ?_
      show Z X M_Se_takeIn 0 0 h55 102 [(0, .ref x0), (1, .ref x1), (2, .int x2), (3, .int x3), (4, .int x4), (5, .int x5)] [.int v58]
      exact z_zreturn hQ rfl z00 d_Se_takeIn_102 E
  · refine z_aload_n 1 d_Se_takeIn_55 rfl rfl ?_
    refine z_iload 5 d_Se_takeIn_56 rfl ?_
    refine z_bipush (v := (40 : Int32)) d_Se_takeIn_58 (by decide) ?_
    refine z_isub d_Se_takeIn_60 ?_
    refine z_aload_n 0 d_Se_takeIn_61 rfl rfl ?_
    refine z_getR (ci := 1) (j := 5) rfl (by decide) zf_Se_35 d_Se_takeIn_62 E (fun v59 _ E => ?_)
    refine z_iload 4 d_Se_takeIn_65 rfl ?_
    refine z_iload_n 3 d_Se_takeIn_67 rfl rfl ?_
    obtain ⟨g61, v63, h60, e62, E⟩ := cJ_some E
    refine z_invS (y := y_Se_marked) (Mc := M_Se_marked) (av := [.ref v59, .int x4, .int x3]) (rest := [.int (x5 - (40 : Int32)), .ref x1]) ⟨zt_383, zt_384, zt_50⟩ zk_Se_marked zy_Se_marked (by decide) (Nat.le_of_ble_eq_true rfl) z00 rfl (Nat.le_of_ble_eq_true rfl) d_Se_takeIn_68 (m_Se_marked e62) ?_
    show Z X M_Se_takeIn 0 0 h60 71 [(0, .ref x0), (1, .ref x1), (2, .int x2), (3, .int x3), (4, .int x4), (5, .int x5)] [.long v63, .int (x5 - (40 : Int32)), .ref x1]
    obtain ⟨g65, v67, h64, e66, E⟩ := cI_some E
    refine z_invS (y := y_Se_limit) (Mc := M_Se_limit) (av := [.ref x1, .int (x5 - (40 : Int32)), .long v63]) (rest := []) ⟨zt_404, zt_405, zt_50⟩ zk_Se_limit zy_Se_limit (by decide) (Nat.le_of_ble_eq_true rfl) z00 rfl (Nat.le_of_ble_eq_true rfl) d_Se_takeIn_71 (m_Se_limit e66) ?_
    show Z X M_Se_takeIn 0 0 h64 74 [(0, .ref x0), (1, .ref x1), (2, .int x2), (3, .int x3), (4, .int x4), (5, .int x5)] [.int v67]
    exact z_zreturn hQ rfl z00 d_Se_takeIn_74 E
set_option maxRecDepth 100000 in
set_option maxHeartbeats 4000000 in
theorem w_Se_takeIn_b0 {X : zX} {r : pR} {G : Nat} (hQ : zQ X r) : ∀ (x0 : Nat) (x1 : Nat) (x2 : Int32) (h : pH), f_Se_takeIn G x0 x1 x2 h = some r → Z X M_Se_takeIn 0 0 h 0 [(0, .ref x0), (1, .ref x1), (2, .int x2)] [] := by
  intro x0 x1 x2 h E
  rw [f_Se_takeIn_eq] at E
  refine z_iload_n 2 d_Se_takeIn_0 rfl rfl ?_
  obtain ⟨g2, v4, h1, e3, E⟩ := cI_some E
  refine z_invSN (y := y_Mg_subjectOf) (Mc := M_Mg_subjectOf) (av := [.int x2]) (rest := []) ⟨(List.mem_of_getElem? (i := 7) rfl), zt_330, zt_48⟩ zk_Mg_subjectOf zy_Mg_subjectOf (by decide) (Nat.le_of_ble_eq_true rfl) z00 rfl (Nat.le_of_ble_eq_true rfl) d_Se_takeIn_1 (m_Mg_subjectOf e3) ?_
  show Z X M_Se_takeIn 0 0 h1 4 [(0, .ref x0), (1, .ref x1), (2, .int x2)] [.int v4]
  refine z_istore_n (lv2 := [(3, .int v4), (0, .ref x0), (1, .ref x1), (2, .int x2)]) d_Se_takeIn_4 rfl (Nat.le_of_ble_eq_true rfl) rfl ?_
  refine z_iload_n 3 d_Se_takeIn_5 rfl rfl ?_
  obtain ⟨g6, v8, h5, e7, E⟩ := cI_some E
  refine z_invSN (y := y_Mg_verbOf) (Mc := M_Mg_verbOf) (av := [.int x2]) (rest := []) ⟨(List.mem_of_getElem? (i := 8) rfl), zt_380, zt_48⟩ zk_Mg_verbOf zy_Mg_verbOf (by decide) (Nat.le_of_ble_eq_true rfl) z00 rfl (Nat.le_of_ble_eq_true rfl) d_Se_takeIn_6 (m_Mg_verbOf e7) ?_
  show Z X M_Se_takeIn 0 0 h5 9 [(3, .int v4), (0, .ref x0), (1, .ref x1), (2, .int x2)] [.int v8]
  refine z_istore (lv2 := [(4, .int v8), (3, .int v4), (0, .ref x0), (1, .ref x1), (2, .int x2)]) d_Se_takeIn_9 (Nat.le_of_ble_eq_true rfl) rfl ?_
  refine z_iload_n 4 d_Se_takeIn_11 rfl rfl ?_
  obtain ⟨g10, v12, h9, e11, E⟩ := cI_some E
  refine z_invSN (y := y_Mg_objectOf) (Mc := M_Mg_objectOf) (av := [.int x2]) (rest := []) ⟨(List.mem_of_getElem? (i := 9) rfl), zt_333, zt_48⟩ zk_Mg_objectOf zy_Mg_objectOf (by decide) (Nat.le_of_ble_eq_true rfl) z00 rfl (Nat.le_of_ble_eq_true rfl) d_Se_takeIn_12 (m_Mg_objectOf e11) ?_
  show Z X M_Se_takeIn 0 0 h9 15 [(4, .int v8), (3, .int v4), (0, .ref x0), (1, .ref x1), (2, .int x2)] [.int v12]
  refine z_istore (lv2 := [(5, .int v12), (4, .int v8), (3, .int v4), (0, .ref x0), (1, .ref x1), (2, .int x2)]) d_Se_takeIn_15 (Nat.le_of_ble_eq_true rfl) rfl ?_
  refine z_iload_n 2 d_Se_takeIn_17 rfl rfl ?_
  obtain ⟨g14, v16, h13, e15, E⟩ := cI_some E
  refine z_invSN (y := y_Mg_isNode) (Mc := M_Mg_isNode) (av := [.int v4]) (rest := []) ⟨(List.mem_of_getElem? (i := 11) rfl), zt_402, zt_48⟩ zk_Mg_isNode zy_Mg_isNode (by decide) (Nat.le_of_ble_eq_true rfl) z00 rfl (Nat.le_of_ble_eq_true rfl) d_Se_takeIn_18 (m_Mg_isNode e15) ?_
  show Z X M_Se_takeIn 0 0 h13 21 [(5, .int v12), (4, .int v8), (3, .int v4), (0, .ref x0), (1, .ref x1), (2, .int x2)] [.int v16]
  refine z_if_ne (y := 0) (tgt := 48) d_Se_takeIn_21 (by decide) E (fun E => ?_) (fun E => ?_)
  · refine z_lv [3, 4, 5, 2, 1, 0] rfl ?_
    exact (w_Se_takeIn_b48 hQ) x0 x1 x2 v4 v8 v12 h13 E
  · refine z_iload 0 d_Se_takeIn_24 rfl ?_
    obtain ⟨g18, v20, h17, e19, E⟩ := cI_some E
    refine z_invSN (y := y_Mg_isNode) (Mc := M_Mg_isNode) (av := [.int v12]) (rest := []) ⟨(List.mem_of_getElem? (i := 11) rfl), zt_402, zt_48⟩ zk_Mg_isNode zy_Mg_isNode (by decide) (Nat.le_of_ble_eq_true rfl) z00 rfl (Nat.le_of_ble_eq_true rfl) d_Se_takeIn_26 (m_Mg_isNode e19) ?_
    show Z X M_Se_takeIn 0 0 h17 29 [(5, .int v12), (4, .int v8), (3, .int v4), (0, .ref x0), (1, .ref x1), (2, .int x2)] [.int v20]
    refine z_if_ne (y := 0) (tgt := 48) d_Se_takeIn_29 (by decide) E (fun E => ?_) (fun E => ?_)
    · refine z_lv [3, 4, 5, 2, 1, 0] rfl ?_
      exact (w_Se_takeIn_b48 hQ) x0 x1 x2 v4 v8 v12 h17 E
    · refine z_aload_n 3 d_Se_takeIn_32 rfl rfl ?_
      refine z_getR (ci := 1) (j := 5) rfl (by decide) zf_Se_35 d_Se_takeIn_33 E (fun v21 _ E => ?_)
      refine z_iload 1 d_Se_takeIn_36 rfl ?_
      refine z_iload_n 2 d_Se_takeIn_38 rfl rfl ?_
      obtain ⟨g23, v25, h22, e24, E⟩ := cJ_some E
      refine z_invS (y := y_Se_marked) (Mc := M_Se_marked) (av := [.ref v21, .int v8, .int v4]) (rest := []) ⟨zt_383, zt_384, zt_50⟩ zk_Se_marked zy_Se_marked (by decide) (Nat.le_of_ble_eq_true rfl) z00 rfl (Nat.le_of_ble_eq_true rfl) d_Se_takeIn_39 (m_Se_marked e24) ?_
      show Z X M_Se_takeIn 0 0 h22 42 [(5, .int v12), (4, .int v8), (3, .int v4), (0, .ref x0), (1, .ref x1), (2, .int x2)] [.long v25]
      refine z_iload 0 d_Se_takeIn_42 rfl ?_
      obtain ⟨g27, v29, h26, e28, E⟩ := cI_some E
      refine z_invSN (y := y_Mg_isIn) (Mc := M_Mg_isIn) (av := [.long v25, .int v12]) (rest := []) ⟨(List.mem_of_getElem? (i := 10) rfl), zt_395, zt_48⟩ zk_Mg_isIn zy_Mg_isIn (by decide) (Nat.le_of_ble_eq_true rfl) z00 rfl (Nat.le_of_ble_eq_true rfl) d_Se_takeIn_44 (m_Mg_isIn e28) ?_
      show Z X M_Se_takeIn 0 0 h26 47 [(5, .int v12), (4, .int v8), (3, .int v4), (0, .ref x0), (1, .ref x1), (2, .int x2)] [.int v29]
      exact z_zreturn hQ rfl z00 d_Se_takeIn_47 E
theorem m_Se_takeIn {l : Launch} {G : Nat} {x0 : Nat} {x1 : Nat} {x2 : Int32} {h : pH} {r : pR} (E : f_Se_takeIn G x0 x1 x2 h = some r) : zMet l y_Se_takeIn M_Se_takeIn 0 0 [.ref x0, .ref x1, .int x2] h r :=
  zMet_of (by decide) rfl (Nat.le_of_ble_eq_true rfl) (fun p e s m args below meth c D0 cT => w_Se_takeIn_b0 (X := (p, l, e, s, m, args, below, meth, c, D0, cT, h, _, 0, 0)) rfl x0 x1 x2 h E)
def f_Se_reach_b13 (G : Nat) : Nat → Nat → Int32 → Int64 → Int64 → Int32 → pH → Option pR
  | 0 => fun _ _ _ _ _ _ => none
  | F + 1 => fun x0 x1 x4 x6 x8 h => if x8 ≤ 0 then (some (some (.long x4), h)) else (cI true (f_Lo_bitCount G ((x6 &&& (-x6)) - (1 : Int64)) h) fun v8 h5 => cJ true (f_Se_marked G x0 x1 v8 h5) fun v12 h9 => (f_Se_reach_b13 G F) x0 x1 (x4 ||| v12) (x6 &&& (x6 - (1 : Int64))) (x8 + (-1)) h9)
theorem f_Se_reach_b13_eq (G : Nat) (F : Nat) (x0 : Nat) (x1 : Int32) (x4 : Int64) (x6 : Int64) (x8 : Int32) (h : pH) : f_Se_reach_b13 G (F + 1) x0 x1 x4 x6 x8 h = (if x8 ≤ 0 then (some (some (.long x4), h)) else (cI true (f_Lo_bitCount G ((x6 &&& (-x6)) - (1 : Int64)) h) fun v8 h5 => cJ true (f_Se_marked G x0 x1 v8 h5) fun v12 h9 => (f_Se_reach_b13 G F) x0 x1 (x4 ||| v12) (x6 &&& (x6 - (1 : Int64))) (x8 + (-1)) h9)) := rfl
def f_Se_reach (G : Nat) (x0 : Nat) (x1 : Int32) (x2 : Int64) (h : pH) : Option pR := cI true (f_Lo_bitCount G x2 h) fun v4 h1 => (f_Se_reach_b13 G G) x0 x1 (0 : Int64) x2 v4 h1
theorem f_Se_reach_eq (G : Nat) (x0 : Nat) (x1 : Int32) (x2 : Int64) (h : pH) : f_Se_reach G x0 x1 x2 h = (cI true (f_Lo_bitCount G x2 h) fun v4 h1 => (f_Se_reach_b13 G G) x0 x1 (0 : Int64) x2 v4 h1) := rfl
set_option maxRecDepth 100000 in
set_option maxHeartbeats 4000000 in
theorem w_Se_reach_b13 {X : zX} {r : pR} {G : Nat} (hQ : zQ X r) : ∀ (F : Nat) (x0 : Nat) (x1 : Int32) (x4 : Int64) (x6 : Int64) (x8 : Int32) (h : pH), f_Se_reach_b13 G F x0 x1 x4 x6 x8 h = some r → Z X M_Se_reach 0 0 h 13 [(0, .ref x0), (1, .int x1), (4, .long x4), (6, .long x6), (8, .int x8)] [] := by
  intro F
  induction F with
  | zero => intro x0 x1 x4 x6 x8 h E; exact nomatch (show (none : Option pR) = some _ from E)
  | succ F ih =>
    intro x0 x1 x4 x6 x8 h E
    rw [f_Se_reach_b13_eq] at E
    refine z_iload 4 d_Se_reach_13 rfl ?_
    refine z_if_le (y := 0) (tgt := 54) d_Se_reach_15 (by decide) E (fun E => ?_) (fun E => ?_)
    · refine z_lload 2 d_Se_reach_54 rfl ?_
      exact z_lreturn hQ rfl z00 d_Se_reach_56 E
    · refine z_lload 2 d_Se_reach_18 rfl ?_
      refine z_aload_n 0 d_Se_reach_20 rfl rfl ?_
      refine z_iload_n 1 d_Se_reach_21 rfl rfl ?_
      refine z_lload 3 d_Se_reach_22 rfl ?_
      refine z_lload 3 d_Se_reach_24 rfl ?_
      refine z_lneg d_Se_reach_26 ?_
      refine z_land d_Se_reach_27 ?_
      refine z_lconst (v := (1 : Int64)) d_Se_reach_28 (by decide) ?_
      refine z_lsub d_Se_reach_29 ?_
      obtain ⟨g6, v8, h5, e7, E⟩ := cI_some E
      refine z_invS (y := y_Lo_bitCount) (Mc := M_Lo_bitCount) (av := [.long ((x6 &&& (-x6)) - (1 : Int64))]) (rest := [.int x1, .ref x0, .long x4]) ⟨zt_432, zt_337, zt_58⟩ zk_Lo_bitCount zy_Lo_bitCount (by decide) (Nat.le_of_ble_eq_true rfl) z00 rfl (Nat.le_of_ble_eq_true rfl) d_Se_reach_30 (m_Lo_bitCount e7) ?_
      show Z X M_Se_reach 0 0 h5 33 [(0, .ref x0), (1, .int x1), (4, .long x4), (6, .long x6), (8, .int x8)] [.int v8, .int x1, .ref x0, .long x4]
      obtain ⟨g10, v12, h9, e11, E⟩ := cJ_some E
      refine z_invS (y := y_Se_marked) (Mc := M_Se_marked) (av := [.ref x0, .int x1, .int v8]) (rest := [.long x4]) ⟨zt_383, zt_384, zt_50⟩ zk_Se_marked zy_Se_marked (by decide) (Nat.le_of_ble_eq_true rfl) z00 rfl (Nat.le_of_ble_eq_true rfl) d_Se_reach_33 (m_Se_marked e11) ?_
      show Z X M_Se_reach 0 0 h9 36 [(0, .ref x0), (1, .int x1), (4, .long x4), (6, .long x6), (8, .int x8)] [.long v12, .long x4]
      refine z_lor d_Se_reach_36 ?_
      refine z_lstore (lv2 := [(4, .long (x4 ||| v12)), (0, .ref x0), (1, .int x1), (6, .long x6), (8, .int x8)]) d_Se_reach_37 (Nat.le_of_ble_eq_true rfl) rfl ?_
      refine z_lload 3 d_Se_reach_39 rfl ?_
      refine z_lload 3 d_Se_reach_41 rfl ?_
      refine z_lconst (v := (1 : Int64)) d_Se_reach_43 (by decide) ?_
      refine z_lsub d_Se_reach_44 ?_
      refine z_land d_Se_reach_45 ?_
      refine z_lstore (lv2 := [(6, .long (x6 &&& (x6 - (1 : Int64)))), (4, .long (x4 ||| v12)), (0, .ref x0), (1, .int x1), (8, .int x8)]) d_Se_reach_46 (Nat.le_of_ble_eq_true rfl) rfl ?_
      refine z_iinc (v := (x8 + (-1))) (lv2 := [(8, .int (x8 + (-1))), (6, .long (x6 &&& (x6 - (1 : Int64)))), (4, .long (x4 ||| v12)), (0, .ref x0), (1, .int x1)]) 4 d_Se_reach_48 rfl rfl (Nat.le_of_ble_eq_true rfl) rfl ?_
      refine z_goto (tgt := 13) d_Se_reach_51 (by decide) ?_
      refine z_lv [3, 4, 2, 1, 0] rfl ?_
      exact ih x0 x1 (x4 ||| v12) (x6 &&& (x6 - (1 : Int64))) (x8 + (-1)) h9 E
set_option maxRecDepth 100000 in
set_option maxHeartbeats 4000000 in
theorem w_Se_reach_b0 {X : zX} {r : pR} {G : Nat} (hQ : zQ X r) : ∀ (x0 : Nat) (x1 : Int32) (x2 : Int64) (h : pH), f_Se_reach G x0 x1 x2 h = some r → Z X M_Se_reach 0 0 h 0 [(0, .ref x0), (1, .int x1), (2, .long x2)] [] := by
  intro x0 x1 x2 h E
  rw [f_Se_reach_eq] at E
  refine z_lconst (v := (0 : Int64)) d_Se_reach_0 (by decide) ?_
  refine z_lstore (lv2 := [(4, .long (0 : Int64)), (0, .ref x0), (1, .int x1), (2, .long x2)]) d_Se_reach_1 (Nat.le_of_ble_eq_true rfl) rfl ?_
  refine z_lload_n 3 d_Se_reach_3 rfl rfl ?_
  refine z_lstore (lv2 := [(6, .long x2), (4, .long (0 : Int64)), (0, .ref x0), (1, .int x1), (2, .long x2)]) d_Se_reach_4 (Nat.le_of_ble_eq_true rfl) rfl ?_
  refine z_lload 0 d_Se_reach_6 rfl ?_
  obtain ⟨g2, v4, h1, e3, E⟩ := cI_some E
  refine z_invS (y := y_Lo_bitCount) (Mc := M_Lo_bitCount) (av := [.long x2]) (rest := []) ⟨zt_432, zt_337, zt_58⟩ zk_Lo_bitCount zy_Lo_bitCount (by decide) (Nat.le_of_ble_eq_true rfl) z00 rfl (Nat.le_of_ble_eq_true rfl) d_Se_reach_8 (m_Lo_bitCount e3) ?_
  show Z X M_Se_reach 0 0 h1 11 [(6, .long x2), (4, .long (0 : Int64)), (0, .ref x0), (1, .int x1), (2, .long x2)] [.int v4]
  refine z_istore (lv2 := [(8, .int v4), (6, .long x2), (4, .long (0 : Int64)), (0, .ref x0), (1, .int x1), (2, .long x2)]) d_Se_reach_11 (Nat.le_of_ble_eq_true rfl) rfl ?_
  refine z_lv [3, 4, 2, 1, 0] rfl ?_
  exact (w_Se_reach_b13 hQ G) x0 x1 (0 : Int64) x2 v4 h1 E
theorem m_Se_reach {l : Launch} {G : Nat} {x0 : Nat} {x1 : Int32} {x2 : Int64} {h : pH} {r : pR} (E : f_Se_reach G x0 x1 x2 h = some r) : zMet l y_Se_reach M_Se_reach 0 0 [.ref x0, .int x1, .long x2] h r :=
  zMet_of (by decide) rfl (Nat.le_of_ble_eq_true rfl) (fun p e s m args below meth c D0 cT => w_Se_reach_b0 (X := (p, l, e, s, m, args, below, meth, c, D0, cT, h, _, 0, 0)) rfl x0 x1 x2 h E)
def f_Se_narrowOthers_b44 (G : Nat) (k6 : Nat → Int32 → Int64 → Int32 → Int32 → pH → Option pR) (x0 : Nat) (x1 : Int32) (x2 : Int64) (x4 : Int32) (x5 : Int32) (h : pH) : Option pR := k6 x0 x1 x2 x4 (x5 + 1) h
theorem f_Se_narrowOthers_b44_eq (G : Nat) (k6 : Nat → Int32 → Int64 → Int32 → Int32 → pH → Option pR) (x0 : Nat) (x1 : Int32) (x2 : Int64) (x4 : Int32) (x5 : Int32) (h : pH) : f_Se_narrowOthers_b44 G k6 x0 x1 x2 x4 x5 h = (k6 x0 x1 x2 x4 (x5 + 1) h) := rfl
def f_Se_narrowOthers_b6 (G : Nat) : Nat → Nat → Int32 → Int64 → Int32 → Int32 → pH → Option pR
  | 0 => fun _ _ _ _ _ _ => none
  | F + 1 => fun x0 x1 x2 x4 x5 h => (aL h 1 x0).bind fun v1 => if v1 ≤ x5 then (some (some (.int x4), h)) else (if x5 = x1 then ((f_Se_narrowOthers_b44 G (f_Se_narrowOthers_b6 G F)) x0 x1 x2 x4 x5 h) else ((aJ h x0 x5).bind fun v2 => if (lg_cmp v2 (0 : Int64)) = 0 then ((f_Se_narrowOthers_b44 G (f_Se_narrowOthers_b6 G F)) x0 x1 x2 x4 x5 h) else (cI true (f_Se_keepOnly G x0 x5 (x2 ^^^ (-1 : Int64)) h) fun v6 h3 => (f_Se_narrowOthers_b44 G (f_Se_narrowOthers_b6 G F)) x0 x1 x2 (x4 ||| v6) x5 h3)))
theorem f_Se_narrowOthers_b6_eq (G : Nat) (F : Nat) (x0 : Nat) (x1 : Int32) (x2 : Int64) (x4 : Int32) (x5 : Int32) (h : pH) : f_Se_narrowOthers_b6 G (F + 1) x0 x1 x2 x4 x5 h = ((aL h 1 x0).bind fun v1 => if v1 ≤ x5 then (some (some (.int x4), h)) else (if x5 = x1 then ((f_Se_narrowOthers_b44 G (f_Se_narrowOthers_b6 G F)) x0 x1 x2 x4 x5 h) else ((aJ h x0 x5).bind fun v2 => if (lg_cmp v2 (0 : Int64)) = 0 then ((f_Se_narrowOthers_b44 G (f_Se_narrowOthers_b6 G F)) x0 x1 x2 x4 x5 h) else (cI true (f_Se_keepOnly G x0 x5 (x2 ^^^ (-1 : Int64)) h) fun v6 h3 => (f_Se_narrowOthers_b44 G (f_Se_narrowOthers_b6 G F)) x0 x1 x2 (x4 ||| v6) x5 h3)))) := rfl
def f_Se_narrowOthers (G : Nat) (x0 : Nat) (x1 : Int32) (x2 : Int64) (h : pH) : Option pR := (f_Se_narrowOthers_b6 G G) x0 x1 x2 (0 : Int32) (0 : Int32) h
theorem f_Se_narrowOthers_eq (G : Nat) (x0 : Nat) (x1 : Int32) (x2 : Int64) (h : pH) : f_Se_narrowOthers G x0 x1 x2 h = ((f_Se_narrowOthers_b6 G G) x0 x1 x2 (0 : Int32) (0 : Int32) h) := rfl
set_option maxRecDepth 100000 in
set_option maxHeartbeats 4000000 in
theorem w_Se_narrowOthers_b44 {X : zX} {r : pR} {G : Nat} {k6 : Nat → Int32 → Int64 → Int32 → Int32 → pH → Option pR} (hQ : zQ X r) (hk6 : ∀ (x0 : Nat) (x1 : Int32) (x2 : Int64) (x4 : Int32) (x5 : Int32) (h : pH), k6 x0 x1 x2 x4 x5 h = some r → Z X M_Se_narrowOthers 0 0 h 6 [(0, .ref x0), (1, .int x1), (2, .long x2), (4, .int x4), (5, .int x5)] []) : ∀ (x0 : Nat) (x1 : Int32) (x2 : Int64) (x4 : Int32) (x5 : Int32) (h : pH), f_Se_narrowOthers_b44 G k6 x0 x1 x2 x4 x5 h = some r → Z X M_Se_narrowOthers 0 0 h 44 [(0, .ref x0), (1, .int x1), (2, .long x2), (4, .int x4), (5, .int x5)] [] := by
  intro x0 x1 x2 x4 x5 h E
  rw [f_Se_narrowOthers_b44_eq] at E
  refine z_iinc (v := (x5 + 1)) (lv2 := [(5, .int (x5 + 1)), (0, .ref x0), (1, .int x1), (2, .long x2), (4, .int x4)]) 4 d_Se_narrowOthers_44 rfl rfl (Nat.le_of_ble_eq_true rfl) rfl ?_
  refine z_goto (tgt := 6) d_Se_narrowOthers_47 (by decide) ?_
  refine z_lv [1, 2, 3, 4, 0] rfl ?_
  exact hk6 x0 x1 x2 x4 (x5 + 1) h E
set_option maxRecDepth 100000 in
set_option maxHeartbeats 4000000 in
theorem w_Se_narrowOthers_b6 {X : zX} {r : pR} {G : Nat} (hQ : zQ X r) : ∀ (F : Nat) (x0 : Nat) (x1 : Int32) (x2 : Int64) (x4 : Int32) (x5 : Int32) (h : pH), f_Se_narrowOthers_b6 G F x0 x1 x2 x4 x5 h = some r → Z X M_Se_narrowOthers 0 0 h 6 [(0, .ref x0), (1, .int x1), (2, .long x2), (4, .int x4), (5, .int x5)] [] := by
  intro F
  induction F with
  | zero => intro x0 x1 x2 x4 x5 h E; exact nomatch (show (none : Option pR) = some _ from E)
  | succ F ih =>
    intro x0 x1 x2 x4 x5 h E
    rw [f_Se_narrowOthers_b6_eq] at E
    refine z_iload 4 d_Se_narrowOthers_6 rfl ?_
    refine z_aload_n 0 d_Se_narrowOthers_8 rfl rfl ?_
    refine z_alen 1 (fun _ => rfl) d_Se_narrowOthers_9 E (fun v1 _ E => ?_)
    refine z_ic_ge (tgt := 50) d_Se_narrowOthers_10 (by decide) E (fun E => ?_) (fun E => ?_)
    · refine z_iload 3 d_Se_narrowOthers_50 rfl ?_
      exact z_ireturn hQ rfl z00 d_Se_narrowOthers_52 E
    · refine z_iload 4 d_Se_narrowOthers_13 rfl ?_
      refine z_iload_n 1 d_Se_narrowOthers_15 rfl rfl ?_
      refine z_ic_eq (tgt := 44) d_Se_narrowOthers_16 (by decide) E (fun E => ?_) (fun E => ?_)
      · exact (w_Se_narrowOthers_b44 hQ ih) x0 x1 x2 x4 x5 h E
      · refine z_aload_n 0 d_Se_narrowOthers_19 rfl rfl ?_
        refine z_iload 4 d_Se_narrowOthers_20 rfl ?_
        refine z_laload d_Se_narrowOthers_22 E (fun v2 _ E => ?_)
        refine z_lconst (v := (0 : Int64)) d_Se_narrowOthers_23 (by decide) ?_
        refine z_lcmp d_Se_narrowOthers_24 ?_
        refine z_if_eq (y := 0) (tgt := 44) d_Se_narrowOthers_25 (by decide) E (fun E => ?_) (fun E => ?_)
        · exact (w_Se_narrowOthers_b44 hQ ih) x0 x1 x2 x4 x5 h E
        · refine z_iload 3 d_Se_narrowOthers_28 rfl ?_
          refine z_aload_n 0 d_Se_narrowOthers_30 rfl rfl ?_
          refine z_iload 4 d_Se_narrowOthers_31 rfl ?_
          refine z_lload_n 2 d_Se_narrowOthers_33 rfl rfl ?_
          refine z_ldc2 (v := (-1 : Int64)) d_Se_narrowOthers_34 zt_436 ?_
          refine z_lxor d_Se_narrowOthers_37 ?_
          obtain ⟨g4, v6, h3, e5, E⟩ := cI_some E
          refine z_invS (y := y_Se_keepOnly) (Mc := M_Se_keepOnly) (av := [.ref x0, .int x5, .long (x2 ^^^ (-1 : Int64))]) (rest := [.int x4]) ⟨zt_407, zt_408, zt_50⟩ zk_Se_keepOnly zy_Se_keepOnly (by decide) (Nat.le_of_ble_eq_true rfl) z00 rfl (Nat.le_of_ble_eq_true rfl) d_Se_narrowOthers_38 (m_Se_keepOnly e5) ?_
          show Z X M_Se_narrowOthers 0 0 h3 41 [(0, .ref x0), (1, .int x1), (2, .long x2), (4, .int x4), (5, .int x5)] [.int v6, .int x4]
          refine z_ior d_Se_narrowOthers_41 ?_
          refine z_istore (lv2 := [(4, .int (x4 ||| v6)), (0, .ref x0), (1, .int x1), (2, .long x2), (5, .int x5)]) d_Se_narrowOthers_42 (Nat.le_of_ble_eq_true rfl) rfl ?_
          refine z_lv [1, 2, 3, 0, 4] rfl ?_
          exact (w_Se_narrowOthers_b44 hQ ih) x0 x1 x2 (x4 ||| v6) x5 h3 E
set_option maxRecDepth 100000 in
set_option maxHeartbeats 4000000 in
theorem w_Se_narrowOthers_b0 {X : zX} {r : pR} {G : Nat} (hQ : zQ X r) : ∀ (x0 : Nat) (x1 : Int32) (x2 : Int64) (h : pH), f_Se_narrowOthers G x0 x1 x2 h = some r → Z X M_Se_narrowOthers 0 0 h 0 [(0, .ref x0), (1, .int x1), (2, .long x2)] [] := by
  intro x0 x1 x2 h E
  rw [f_Se_narrowOthers_eq] at E
  refine z_iconst (v := (0 : Int32)) d_Se_narrowOthers_0 (by decide) ?_
  refine z_istore (lv2 := [(4, .int (0 : Int32)), (0, .ref x0), (1, .int x1), (2, .long x2)]) d_Se_narrowOthers_1 (Nat.le_of_ble_eq_true rfl) rfl ?_
  refine z_iconst (v := (0 : Int32)) d_Se_narrowOthers_3 (by decide) ?_
  refine z_istore (lv2 := [(5, .int (0 : Int32)), (4, .int (0 : Int32)), (0, .ref x0), (1, .int x1), (2, .long x2)]) d_Se_narrowOthers_4 (Nat.le_of_ble_eq_true rfl) rfl ?_
  refine z_lv [2, 3, 4, 1, 0] rfl ?_
  exact (w_Se_narrowOthers_b6 hQ G) x0 x1 x2 (0 : Int32) (0 : Int32) h E
theorem m_Se_narrowOthers {l : Launch} {G : Nat} {x0 : Nat} {x1 : Int32} {x2 : Int64} {h : pH} {r : pR} (E : f_Se_narrowOthers G x0 x1 x2 h = some r) : zMet l y_Se_narrowOthers M_Se_narrowOthers 0 0 [.ref x0, .int x1, .long x2] h r :=
  zMet_of (by decide) rfl (Nat.le_of_ble_eq_true rfl) (fun p e s m args below meth c D0 cT => w_Se_narrowOthers_b0 (X := (p, l, e, s, m, args, below, meth, c, D0, cT, h, _, 0, 0)) rfl x0 x1 x2 h E)
def f_Se_narrowLinked_b128 (G : Nat) (k6 : Nat → Nat → Int32 → Int64 → Int32 → Int32 → pH → Option pR) (x0 : Nat) (x1 : Nat) (x2 : Int32) (x3 : Int64) (x5 : Int32) (x6 : Int32) (h : pH) : Option pR := if 0 ≤ x5 then (k6 x0 x1 x2 x3 x5 (x6 + 1) h) else (some (some (.int (-1 : Int32)), h))
theorem f_Se_narrowLinked_b128_eq (G : Nat) (k6 : Nat → Nat → Int32 → Int64 → Int32 → Int32 → pH → Option pR) (x0 : Nat) (x1 : Nat) (x2 : Int32) (x3 : Int64) (x5 : Int32) (x6 : Int32) (h : pH) : f_Se_narrowLinked_b128 G k6 x0 x1 x2 x3 x5 x6 h = (if 0 ≤ x5 then (k6 x0 x1 x2 x3 x5 (x6 + 1) h) else (some (some (.int (-1 : Int32)), h))) := rfl
def f_Se_narrowLinked_b141 (G : Nat) (x5 : Int32) (h : pH) : Option pR := some (some (.int x5), h)
theorem f_Se_narrowLinked_b141_eq (G : Nat) (x5 : Int32) (h : pH) : f_Se_narrowLinked_b141 G x5 h = (some (some (.int x5), h)) := rfl
def f_Se_narrowLinked_b6 (G : Nat) : Nat → Nat → Nat → Int32 → Int64 → Int32 → Int32 → pH → Option pR
  | 0 => fun _ _ _ _ _ _ _ => none
  | F + 1 => fun x0 x1 x2 x3 x5 x6 h => (gI h x0 1 3).bind fun v1 => if v1 ≤ x6 then ((f_Se_narrowLinked_b141 G) x5 h) else ((gR h x0 1 2).bind fun v2 => (aL h 0 v2).bind fun v3 => if v3 ≤ x6 then ((f_Se_narrowLinked_b141 G) x5 h) else ((gR h x0 1 2).bind fun v4 => (aI h v4 x6).bind fun v5 => cI true (f_Mg_subjectOf G v5 h) fun v9 h6 => (gR h6 x0 1 2).bind fun v10 => (aI h6 v10 x6).bind fun v11 => cI true (f_Mg_objectOf G v11 h6) fun v15 h12 => if (v9 - (40 : Int32)) = x2 then ((gR h12 x0 1 5).bind fun v31 => (gR h12 x0 1 2).bind fun v32 => (aI h12 v32 x6).bind fun v33 => cI true (f_Mg_verbOf G v33 h12) fun v37 h34 => cJ true (f_Se_reach G v31 v37 x3 h34) fun v41 h38 => cI true (f_Se_keepOnly G x1 (v15 - (40 : Int32)) v41 h38) fun v45 h42 => (f_Se_narrowLinked_b128 G (f_Se_narrowLinked_b6 G F)) x0 x1 x2 x3 (x5 ||| v45) x6 h42) else (if (v15 - (40 : Int32)) = x2 then ((gR h12 x0 1 6).bind fun v16 => (gR h12 x0 1 2).bind fun v17 => (aI h12 v17 x6).bind fun v18 => cI true (f_Mg_verbOf G v18 h12) fun v22 h19 => cJ true (f_Se_reach G v16 v22 x3 h19) fun v26 h23 => cI true (f_Se_keepOnly G x1 (v9 - (40 : Int32)) v26 h23) fun v30 h27 => (f_Se_narrowLinked_b128 G (f_Se_narrowLinked_b6 G F)) x0 x1 x2 x3 (x5 ||| v30) x6 h27) else ((f_Se_narrowLinked_b128 G (f_Se_narrowLinked_b6 G F)) x0 x1 x2 x3 x5 x6 h12))))
theorem f_Se_narrowLinked_b6_eq (G : Nat) (F : Nat) (x0 : Nat) (x1 : Nat) (x2 : Int32) (x3 : Int64) (x5 : Int32) (x6 : Int32) (h : pH) : f_Se_narrowLinked_b6 G (F + 1) x0 x1 x2 x3 x5 x6 h = ((gI h x0 1 3).bind fun v1 => if v1 ≤ x6 then ((f_Se_narrowLinked_b141 G) x5 h) else ((gR h x0 1 2).bind fun v2 => (aL h 0 v2).bind fun v3 => if v3 ≤ x6 then ((f_Se_narrowLinked_b141 G) x5 h) else ((gR h x0 1 2).bind fun v4 => (aI h v4 x6).bind fun v5 => cI true (f_Mg_subjectOf G v5 h) fun v9 h6 => (gR h6 x0 1 2).bind fun v10 => (aI h6 v10 x6).bind fun v11 => cI true (f_Mg_objectOf G v11 h6) fun v15 h12 => if (v9 - (40 : Int32)) = x2 then ((gR h12 x0 1 5).bind fun v31 => (gR h12 x0 1 2).bind fun v32 => (aI h12 v32 x6).bind fun v33 => cI true (f_Mg_verbOf G v33 h12) fun v37 h34 => cJ true (f_Se_reach G v31 v37 x3 h34) fun v41 h38 => cI true (f_Se_keepOnly G x1 (v15 - (40 : Int32)) v41 h38) fun v45 h42 => (f_Se_narrowLinked_b128 G (f_Se_narrowLinked_b6 G F)) x0 x1 x2 x3 (x5 ||| v45) x6 h42) else (if (v15 - (40 : Int32)) = x2 then ((gR h12 x0 1 6).bind fun v16 => (gR h12 x0 1 2).bind fun v17 => (aI h12 v17 x6).bind fun v18 => cI true (f_Mg_verbOf G v18 h12) fun v22 h19 => cJ true (f_Se_reach G v16 v22 x3 h19) fun v26 h23 => cI true (f_Se_keepOnly G x1 (v9 - (40 : Int32)) v26 h23) fun v30 h27 => (f_Se_narrowLinked_b128 G (f_Se_narrowLinked_b6 G F)) x0 x1 x2 x3 (x5 ||| v30) x6 h27) else ((f_Se_narrowLinked_b128 G (f_Se_narrowLinked_b6 G F)) x0 x1 x2 x3 x5 x6 h12))))) := rfl
def f_Se_narrowLinked (G : Nat) (x0 : Nat) (x1 : Nat) (x2 : Int32) (x3 : Int64) (h : pH) : Option pR := (f_Se_narrowLinked_b6 G G) x0 x1 x2 x3 (0 : Int32) (0 : Int32) h
theorem f_Se_narrowLinked_eq (G : Nat) (x0 : Nat) (x1 : Nat) (x2 : Int32) (x3 : Int64) (h : pH) : f_Se_narrowLinked G x0 x1 x2 x3 h = ((f_Se_narrowLinked_b6 G G) x0 x1 x2 x3 (0 : Int32) (0 : Int32) h) := rfl
set_option maxRecDepth 100000 in
set_option maxHeartbeats 4000000 in
theorem w_Se_narrowLinked_b128 {X : zX} {r : pR} {G : Nat} {k6 : Nat → Nat → Int32 → Int64 → Int32 → Int32 → pH → Option pR} (hQ : zQ X r) (hk6 : ∀ (x0 : Nat) (x1 : Nat) (x2 : Int32) (x3 : Int64) (x5 : Int32) (x6 : Int32) (h : pH), k6 x0 x1 x2 x3 x5 x6 h = some r → Z X M_Se_narrowLinked 0 0 h 6 [(0, .ref x0), (1, .ref x1), (2, .int x2), (3, .long x3), (5, .int x5), (6, .int x6)] []) : ∀ (x0 : Nat) (x1 : Nat) (x2 : Int32) (x3 : Int64) (x5 : Int32) (x6 : Int32) (h : pH), f_Se_narrowLinked_b128 G k6 x0 x1 x2 x3 x5 x6 h = some r → Z X M_Se_narrowLinked 0 0 h 128 [(0, .ref x0), (1, .ref x1), (2, .int x2), (3, .long x3), (5, .int x5), (6, .int x6)] [] := by
  intro x0 x1 x2 x3 x5 x6 h E
  rw [f_Se_narrowLinked_b128_eq] at E
  refine z_iload 4 d_Se_narrowLinked_128 rfl ?_
  refine z_if_ge (y := 0) (tgt := 135) d_Se_narrowLinked_130 (by decide) E (fun E => ?_) (fun E => ?_)
  · refine z_iinc (v := (x6 + 1)) (lv2 := [(6, .int (x6 + 1)), (0, .ref x0), (1, .ref x1), (2, .int x2), (3, .long x3), (5, .int x5)]) 5 d_Se_narrowLinked_135 rfl rfl (Nat.le_of_ble_eq_true rfl) rfl ?_
    refine z_goto (tgt := 6) d_Se_narrowLinked_138 (by decide) ?_
    refine z_lv [1, 2, 3, 4, 5, 0] rfl ?_
    exact hk6 x0 x1 x2 x3 x5 (x6 + 1) h E
  · refine z_iconst (v := (-1 : Int32)) d_Se_narrowLinked_133 (by decide) ?_
    exact z_ireturn hQ rfl z00 d_Se_narrowLinked_134 E
set_option maxRecDepth 100000 in
set_option maxHeartbeats 4000000 in
theorem w_Se_narrowLinked_b141 {X : zX} {r : pR} {G : Nat} (hQ : zQ X r) : ∀ (x5 : Int32) (h : pH), f_Se_narrowLinked_b141 G x5 h = some r → Z X M_Se_narrowLinked 0 0 h 141 [(5, .int x5)] [] := by
  intro x5 h E
  rw [f_Se_narrowLinked_b141_eq] at E
  refine z_iload 0 d_Se_narrowLinked_141 rfl ?_
  exact z_ireturn hQ rfl z00 d_Se_narrowLinked_143 E
set_option maxRecDepth 100000 in
set_option maxHeartbeats 4000000 in
theorem w_Se_narrowLinked_b6 {X : zX} {r : pR} {G : Nat} (hQ : zQ X r) : ∀ (F : Nat) (x0 : Nat) (x1 : Nat) (x2 : Int32) (x3 : Int64) (x5 : Int32) (x6 : Int32) (h : pH), f_Se_narrowLinked_b6 G F x0 x1 x2 x3 x5 x6 h = some r → Z X M_Se_narrowLinked 0 0 h 6 [(0, .ref x0), (1, .ref x1), (2, .int x2), (3, .long x3), (5, .int x5), (6, .int x6)] [] := by
  intro F
  induction F with
  | zero => intro x0 x1 x2 x3 x5 x6 h E; exact nomatch (show (none : Option pR) = some _ from E)
  | succ F ih =>
    intro x0 x1 x2 x3 x5 x6 h E
    rw [f_Se_narrowLinked_b6_eq] at E
    refine z_iload 5 d_Se_narrowLinked_6 rfl ?_
    refine z_aload_n 0 d_Se_narrowLinked_8 rfl rfl ?_
    refine z_getI (ci := 1) (j := 3) rfl (by decide) zf_Se_26 d_Se_narrowLinked_9 E (fun v1 _ E => ?_)
    refine z_ic_ge (tgt := 141) d_Se_narrowLinked_12 (by decide) E (fun E => ?_) (fun E => ?_)
    · refine z_lv [4] rfl ?_
      exact (w_Se_narrowLinked_b141 hQ) x5 h E
    · refine z_iload 5 d_Se_narrowLinked_15 rfl ?_
      refine z_aload_n 0 d_Se_narrowLinked_17 rfl rfl ?_
      refine z_getR (ci := 1) (j := 2) rfl (by decide) zf_Se_22 d_Se_narrowLinked_18 E (fun v2 _ E => ?_)
      refine z_alen 0 (fun _ => rfl) d_Se_narrowLinked_21 E (fun v3 _ E => ?_)
      refine z_ic_ge (tgt := 141) d_Se_narrowLinked_22 (by decide) E (fun E => ?_) (fun E => ?_)
      · refine z_lv [4] rfl ?_
        exact (w_Se_narrowLinked_b141 hQ) x5 h E
      · refine z_aload_n 0 d_Se_narrowLinked_25 rfl rfl ?_
        refine z_getR (ci := 1) (j := 2) rfl (by decide) zf_Se_22 d_Se_narrowLinked_26 E (fun v4 _ E => ?_)
        refine z_iload 5 d_Se_narrowLinked_29 rfl ?_
        refine z_iaload d_Se_narrowLinked_31 E (fun v5 _ E => ?_)
        obtain ⟨g7, v9, h6, e8, E⟩ := cI_some E
        refine z_invSN (y := y_Mg_subjectOf) (Mc := M_Mg_subjectOf) (av := [.int v5]) (rest := []) ⟨(List.mem_of_getElem? (i := 7) rfl), zt_330, zt_48⟩ zk_Mg_subjectOf zy_Mg_subjectOf (by decide) (Nat.le_of_ble_eq_true rfl) z00 rfl (Nat.le_of_ble_eq_true rfl) d_Se_narrowLinked_32 (m_Mg_subjectOf e8) ?_
        show Z X M_Se_narrowLinked 0 0 h6 35 [(0, .ref x0), (1, .ref x1), (2, .int x2), (3, .long x3), (5, .int x5), (6, .int x6)] [.int v9]
        refine z_bipush (v := (40 : Int32)) d_Se_narrowLinked_35 (by decide) ?_
        refine z_isub d_Se_narrowLinked_37 ?_
        refine z_istore (lv2 := [(7, .int (v9 - (40 : Int32))), (0, .ref x0), (1, .ref x1), (2, .int x2), (3, .long x3), (5, .int x5), (6, .int x6)]) d_Se_narrowLinked_38 (Nat.le_of_ble_eq_true rfl) rfl ?_
        refine z_aload_n 1 d_Se_narrowLinked_40 rfl rfl ?_
        refine z_getR (ci := 1) (j := 2) rfl (by decide) zf_Se_22 d_Se_narrowLinked_41 E (fun v10 _ E => ?_)
        refine z_iload 6 d_Se_narrowLinked_44 rfl ?_
        refine z_iaload d_Se_narrowLinked_46 E (fun v11 _ E => ?_)
        obtain ⟨g13, v15, h12, e14, E⟩ := cI_some E
        refine z_invSN (y := y_Mg_objectOf) (Mc := M_Mg_objectOf) (av := [.int v11]) (rest := []) ⟨(List.mem_of_getElem? (i := 9) rfl), zt_333, zt_48⟩ zk_Mg_objectOf zy_Mg_objectOf (by decide) (Nat.le_of_ble_eq_true rfl) z00 rfl (Nat.le_of_ble_eq_true rfl) d_Se_narrowLinked_47 (m_Mg_objectOf e14) ?_
        show Z X M_Se_narrowLinked 0 0 h12 50 [(7, .int (v9 - (40 : Int32))), (0, .ref x0), (1, .ref x1), (2, .int x2), (3, .long x3), (5, .int x5), (6, .int x6)] [.int v15]
        refine z_bipush (v := (40 : Int32)) d_Se_narrowLinked_50 (by decide) ?_
        refine z_isub d_Se_narrowLinked_52 ?_
        refine z_istore (lv2 := [(8, .int (v15 - (40 : Int32))), (7, .int (v9 - (40 : Int32))), (0, .ref x0), (1, .ref x1), (2, .int x2), (3, .long x3), (5, .int x5), (6, .int x6)]) d_Se_narrowLinked_53 (Nat.le_of_ble_eq_true rfl) rfl ?_
        refine z_iload 1 d_Se_narrowLinked_55 rfl ?_
        refine z_iload_n 4 d_Se_narrowLinked_57 rfl rfl ?_
        refine z_ic_ne (tgt := 93) d_Se_narrowLinked_58 (by decide) E (fun E => ?_) (fun E => ?_)
        · refine z_iload 0 d_Se_narrowLinked_93 rfl ?_
          refine z_iload_n 4 d_Se_narrowLinked_95 rfl rfl ?_
          refine z_ic_ne (tgt := 128) d_Se_narrowLinked_96 (by decide) E (fun E => ?_) (fun E => ?_)
          · refine z_lv [2, 3, 4, 5, 6, 7] rfl ?_
            exact (w_Se_narrowLinked_b128 hQ ih) x0 x1 x2 x3 x5 x6 h12 E
          · refine z_iload 6 d_Se_narrowLinked_99 rfl ?_
            refine z_aload_n 3 d_Se_narrowLinked_101 rfl rfl ?_
            refine z_iload 1 d_Se_narrowLinked_102 rfl ?_
            refine z_aload_n 2 d_Se_narrowLinked_104 rfl rfl ?_
            refine z_getR (ci := 1) (j := 6) rfl (by decide) zf_Se_39 d_Se_narrowLinked_105 E (fun v16 _ E => ?_)
            refine z_aload_n 2 d_Se_narrowLinked_108 rfl rfl ?_
            refine z_getR (ci := 1) (j := 2) rfl (by decide) zf_Se_22 d_Se_narrowLinked_109 E (fun v17 _ E => ?_)
            refine z_iload 7 d_Se_narrowLinked_112 rfl ?_
            refine z_iaload d_Se_narrowLinked_114 E (fun v18 _ E => ?_)
            obtain ⟨g20, v22, h19, e21, E⟩ := cI_some E
            refine z_invSN (y := y_Mg_verbOf) (Mc := M_Mg_verbOf) (av := [.int v18]) (rest := [.ref v16, .int (v9 - (40 : Int32)), .ref x1, .int x5]) ⟨(List.mem_of_getElem? (i := 8) rfl), zt_380, zt_48⟩ zk_Mg_verbOf zy_Mg_verbOf (by decide) (Nat.le_of_ble_eq_true rfl) z00 rfl (Nat.le_of_ble_eq_true rfl) d_Se_narrowLinked_115 (m_Mg_verbOf e21) ?_
            show Z X M_Se_narrowLinked 0 0 h19 118 [(8, .int (v15 - (40 : Int32))), (7, .int (v9 - (40 : Int32))), (0, .ref x0), (1, .ref x1), (2, .int x2), (3, .long x3), (5, .int x5), (6, .int x6)] [.int v22, .ref v16, .int (v9 - (40 : Int32)), .ref x1, .int x5]
            refine z_lload_n 5 d_Se_narrowLinked_118 rfl rfl ?_
            obtain ⟨g24, v26, h23, e25, E⟩ := cJ_some E
            refine z_invS (y := y_Se_reach) (Mc := M_Se_reach) (av := [.ref v16, .int v22, .long x3]) (rest := [.int (v9 - (40 : Int32)), .ref x1, .int x5]) ⟨zt_429, zt_430, zt_50⟩ zk_Se_reach zy_Se_reach (by decide) (Nat.le_of_ble_eq_true rfl) z00 rfl (Nat.le_of_ble_eq_true rfl) d_Se_narrowLinked_119 (m_Se_reach e25) ?_
            show Z X M_Se_narrowLinked 0 0 h23 122 [(8, .int (v15 - (40 : Int32))), (7, .int (v9 - (40 : Int32))), (0, .ref x0), (1, .ref x1), (2, .int x2), (3, .long x3), (5, .int x5), (6, .int x6)] [.long v26, .int (v9 - (40 : Int32)), .ref x1, .int x5]
            obtain ⟨g28, v30, h27, e29, E⟩ := cI_some E
            refine z_invS (y := y_Se_keepOnly) (Mc := M_Se_keepOnly) (av := [.ref x1, .int (v9 - (40 : Int32)), .long v26]) (rest := [.int x5]) ⟨zt_407, zt_408, zt_50⟩ zk_Se_keepOnly zy_Se_keepOnly (by decide) (Nat.le_of_ble_eq_true rfl) z00 rfl (Nat.le_of_ble_eq_true rfl) d_Se_narrowLinked_122 (m_Se_keepOnly e29) ?_
            show Z X M_Se_narrowLinked 0 0 h27 125 [(8, .int (v15 - (40 : Int32))), (7, .int (v9 - (40 : Int32))), (0, .ref x0), (1, .ref x1), (2, .int x2), (3, .long x3), (5, .int x5), (6, .int x6)] [.int v30, .int x5]
            refine z_ior d_Se_narrowLinked_125 ?_
            refine z_istore (lv2 := [(5, .int (x5 ||| v30)), (8, .int (v15 - (40 : Int32))), (7, .int (v9 - (40 : Int32))), (0, .ref x0), (1, .ref x1), (2, .int x2), (3, .long x3), (6, .int x6)]) d_Se_narrowLinked_126 (Nat.le_of_ble_eq_true rfl) rfl ?_
            refine z_lv [3, 4, 5, 6, 0, 7] rfl ?_
            exact (w_Se_narrowLinked_b128 hQ ih) x0 x1 x2 x3 (x5 ||| v30) x6 h27 E
        · refine z_iload 6 d_Se_narrowLinked_61 rfl ?_
          refine z_aload_n 3 d_Se_narrowLinked_63 rfl rfl ?_
          refine z_iload 0 d_Se_narrowLinked_64 rfl ?_
          refine z_aload_n 2 d_Se_narrowLinked_66 rfl rfl ?_
          refine z_getR (ci := 1) (j := 5) rfl (by decide) zf_Se_35 d_Se_narrowLinked_67 E (fun v31 _ E => ?_)
          refine z_aload_n 2 d_Se_narrowLinked_70 rfl rfl ?_
          refine z_getR (ci := 1) (j := 2) rfl (by decide) zf_Se_22 d_Se_narrowLinked_71 E (fun v32 _ E => ?_)
          refine z_iload 7 d_Se_narrowLinked_74 rfl ?_
          refine z_iaload d_Se_narrowLinked_76 E (fun v33 _ E => ?_)
          obtain ⟨g35, v37, h34, e36, E⟩ := cI_some E
          refine z_invSN (y := y_Mg_verbOf) (Mc := M_Mg_verbOf) (av := [.int v33]) (rest := [.ref v31, .int (v15 - (40 : Int32)), .ref x1, .int x5]) ⟨(List.mem_of_getElem? (i := 8) rfl), zt_380, zt_48⟩ zk_Mg_verbOf zy_Mg_verbOf (by decide) (Nat.le_of_ble_eq_true rfl) z00 rfl (Nat.le_of_ble_eq_true rfl) d_Se_narrowLinked_77 (m_Mg_verbOf e36) ?_
          show Z X M_Se_narrowLinked 0 0 h34 80 [(8, .int (v15 - (40 : Int32))), (7, .int (v9 - (40 : Int32))), (0, .ref x0), (1, .ref x1), (2, .int x2), (3, .long x3), (5, .int x5), (6, .int x6)] [.int v37, .ref v31, .int (v15 - (40 : Int32)), .ref x1, .int x5]
          refine z_lload_n 5 d_Se_narrowLinked_80 rfl rfl ?_
          obtain ⟨g39, v41, h38, e40, E⟩ := cJ_some E
          refine z_invS (y := y_Se_reach) (Mc := M_Se_reach) (av := [.ref v31, .int v37, .long x3]) (rest := [.int (v15 - (40 : Int32)), .ref x1, .int x5]) ⟨zt_429, zt_430, zt_50⟩ zk_Se_reach zy_Se_reach (by decide) (Nat.le_of_ble_eq_true rfl) z00 rfl (Nat.le_of_ble_eq_true rfl) d_Se_narrowLinked_81 (m_Se_reach e40) ?_
          show Z X M_Se_narrowLinked 0 0 h38 84 [(8, .int (v15 - (40 : Int32))), (7, .int (v9 - (40 : Int32))), (0, .ref x0), (1, .ref x1), (2, .int x2), (3, .long x3), (5, .int x5), (6, .int x6)] [.long v41, .int (v15 - (40 : Int32)), .ref x1, .int x5]
          obtain ⟨g43, v45, h42, e44, E⟩ := cI_some E
          refine z_invS (y := y_Se_keepOnly) (Mc := M_Se_keepOnly) (av := [.ref x1, .int (v15 - (40 : Int32)), .long v41]) (rest := [.int x5]) ⟨zt_407, zt_408, zt_50⟩ zk_Se_keepOnly zy_Se_keepOnly (by decide) (Nat.le_of_ble_eq_true rfl) z00 rfl (Nat.le_of_ble_eq_true rfl) d_Se_narrowLinked_84 (m_Se_keepOnly e44) ?_
          show Z X M_Se_narrowLinked 0 0 h42 87 [(8, .int (v15 - (40 : Int32))), (7, .int (v9 - (40 : Int32))), (0, .ref x0), (1, .ref x1), (2, .int x2), (3, .long x3), (5, .int x5), (6, .int x6)] [.int v45, .int x5]
          refine z_ior d_Se_narrowLinked_87 ?_
          refine z_istore (lv2 := [(5, .int (x5 ||| v45)), (8, .int (v15 - (40 : Int32))), (7, .int (v9 - (40 : Int32))), (0, .ref x0), (1, .ref x1), (2, .int x2), (3, .long x3), (6, .int x6)]) d_Se_narrowLinked_88 (Nat.le_of_ble_eq_true rfl) rfl ?_
          refine z_goto (tgt := 128) d_Se_narrowLinked_90 (by decide) ?_
          refine z_lv [3, 4, 5, 6, 0, 7] rfl ?_
          exact (w_Se_narrowLinked_b128 hQ ih) x0 x1 x2 x3 (x5 ||| v45) x6 h42 E
set_option maxRecDepth 100000 in
set_option maxHeartbeats 4000000 in
theorem w_Se_narrowLinked_b0 {X : zX} {r : pR} {G : Nat} (hQ : zQ X r) : ∀ (x0 : Nat) (x1 : Nat) (x2 : Int32) (x3 : Int64) (h : pH), f_Se_narrowLinked G x0 x1 x2 x3 h = some r → Z X M_Se_narrowLinked 0 0 h 0 [(0, .ref x0), (1, .ref x1), (2, .int x2), (3, .long x3)] [] := by
  intro x0 x1 x2 x3 h E
  rw [f_Se_narrowLinked_eq] at E
  refine z_iconst (v := (0 : Int32)) d_Se_narrowLinked_0 (by decide) ?_
  refine z_istore (lv2 := [(5, .int (0 : Int32)), (0, .ref x0), (1, .ref x1), (2, .int x2), (3, .long x3)]) d_Se_narrowLinked_1 (Nat.le_of_ble_eq_true rfl) rfl ?_
  refine z_iconst (v := (0 : Int32)) d_Se_narrowLinked_3 (by decide) ?_
  refine z_istore (lv2 := [(6, .int (0 : Int32)), (5, .int (0 : Int32)), (0, .ref x0), (1, .ref x1), (2, .int x2), (3, .long x3)]) d_Se_narrowLinked_4 (Nat.le_of_ble_eq_true rfl) rfl ?_
  refine z_lv [2, 3, 4, 5, 1, 0] rfl ?_
  exact (w_Se_narrowLinked_b6 hQ G) x0 x1 x2 x3 (0 : Int32) (0 : Int32) h E
theorem m_Se_narrowLinked {l : Launch} {G : Nat} {x0 : Nat} {x1 : Nat} {x2 : Int32} {x3 : Int64} {h : pH} {r : pR} (E : f_Se_narrowLinked G x0 x1 x2 x3 h = some r) : zMet l y_Se_narrowLinked M_Se_narrowLinked 0 0 [.ref x0, .ref x1, .int x2, .long x3] h r :=
  zMet_of (by decide) rfl (Nat.le_of_ble_eq_true rfl) (fun p e s m args below meth c D0 cT => w_Se_narrowLinked_b0 (X := (p, l, e, s, m, args, below, meth, c, D0, cT, h, _, 0, 0)) rfl x0 x1 x2 x3 h E)
def f_Se_narrow_b129 (G : Nat) (k143 : Nat → Nat → Int32 → Int32 → Int32 → pH → Option pR) (x0 : Nat) (x1 : Nat) (x3 : Int32) (x4 : Int32) (x5 : Int32) (x10 : Int32) (h : pH) : Option pR := if 0 ≤ x10 then (k143 x0 x1 x3 (x4 ||| x10) x5 h) else ((if isZ (0 : Int32) = true then some (some (.int (0 : Int32)), h) else none))
theorem f_Se_narrow_b129_eq (G : Nat) (k143 : Nat → Nat → Int32 → Int32 → Int32 → pH → Option pR) (x0 : Nat) (x1 : Nat) (x3 : Int32) (x4 : Int32) (x5 : Int32) (x10 : Int32) (h : pH) : f_Se_narrow_b129 G k143 x0 x1 x3 x4 x5 x10 h = (if 0 ≤ x10 then (k143 x0 x1 x3 (x4 ||| x10) x5 h) else ((if isZ (0 : Int32) = true then some (some (.int (0 : Int32)), h) else none))) := rfl
def f_Se_narrow_b88 (G : Nat) (k143 : Nat → Nat → Int32 → Int32 → Int32 → pH → Option pR) (x0 : Nat) (x1 : Nat) (x3 : Int32) (x4 : Int32) (x5 : Int32) (x6 : Int32) (x7 : Int64) (x9 : Int32) (h : pH) : Option pR := cI (oC h x0 1) (f_Se_narrowLinked G x0 x1 x6 x7 h) fun v10 h7 => if v10 < 0 then ((f_Se_narrow_b129 G k143) x0 x1 x3 x4 x5 v10 h7) else (if x9 = 0 then ((f_Se_narrow_b129 G k143) x0 x1 x3 x4 x5 v10 h7) else ((gI h7 x0 1 1).bind fun v11 => if v11 = 0 then ((f_Se_narrow_b129 G k143) x0 x1 x3 x4 x5 v10 h7) else (cI true (f_Se_narrowOthers G x1 x6 x7 h7) fun v15 h12 => (f_Se_narrow_b129 G k143) x0 x1 x3 x4 x5 (v10 ||| v15) h12)))
theorem f_Se_narrow_b88_eq (G : Nat) (k143 : Nat → Nat → Int32 → Int32 → Int32 → pH → Option pR) (x0 : Nat) (x1 : Nat) (x3 : Int32) (x4 : Int32) (x5 : Int32) (x6 : Int32) (x7 : Int64) (x9 : Int32) (h : pH) : f_Se_narrow_b88 G k143 x0 x1 x3 x4 x5 x6 x7 x9 h = (cI (oC h x0 1) (f_Se_narrowLinked G x0 x1 x6 x7 h) fun v10 h7 => if v10 < 0 then ((f_Se_narrow_b129 G k143) x0 x1 x3 x4 x5 v10 h7) else (if x9 = 0 then ((f_Se_narrow_b129 G k143) x0 x1 x3 x4 x5 v10 h7) else ((gI h7 x0 1 1).bind fun v11 => if v11 = 0 then ((f_Se_narrow_b129 G k143) x0 x1 x3 x4 x5 v10 h7) else (cI true (f_Se_narrowOthers G x1 x6 x7 h7) fun v15 h12 => (f_Se_narrow_b129 G k143) x0 x1 x3 x4 x5 (v10 ||| v15) h12)))) := rfl
def f_Se_narrow_b143 (G : Nat) (k6 : Nat → Nat → Int32 → Int32 → Int32 → pH → Option pR) (x0 : Nat) (x1 : Nat) (x3 : Int32) (x4 : Int32) (x5 : Int32) (h : pH) : Option pR := k6 x0 x1 x3 x4 (x5 + 1) h
theorem f_Se_narrow_b143_eq (G : Nat) (k6 : Nat → Nat → Int32 → Int32 → Int32 → pH → Option pR) (x0 : Nat) (x1 : Nat) (x3 : Int32) (x4 : Int32) (x5 : Int32) (h : pH) : f_Se_narrow_b143 G k6 x0 x1 x3 x4 x5 h = (k6 x0 x1 x3 x4 (x5 + 1) h) := rfl
def f_Se_narrow_b70 (G : Nat) (k6 : Nat → Nat → Int32 → Int32 → Int32 → pH → Option pR) (x0 : Nat) (x1 : Nat) (x3 : Int32) (x4 : Int32) (x5 : Int32) (x6 : Int32) (x7 : Int64) (s0 : Int32) (h : pH) : Option pR := if (lg_cmp x7 (0 : Int64)) = 0 then ((f_Se_narrow_b143 G k6) x0 x1 x3 x4 x5 h) else (if x3 = 0 then (if s0 = 0 then ((f_Se_narrow_b143 G k6) x0 x1 x3 x4 x5 h) else ((f_Se_narrow_b88 G (f_Se_narrow_b143 G k6)) x0 x1 x3 x4 x5 x6 x7 s0 h)) else ((f_Se_narrow_b88 G (f_Se_narrow_b143 G k6)) x0 x1 x3 x4 x5 x6 x7 s0 h))
theorem f_Se_narrow_b70_eq (G : Nat) (k6 : Nat → Nat → Int32 → Int32 → Int32 → pH → Option pR) (x0 : Nat) (x1 : Nat) (x3 : Int32) (x4 : Int32) (x5 : Int32) (x6 : Int32) (x7 : Int64) (s0 : Int32) (h : pH) : f_Se_narrow_b70 G k6 x0 x1 x3 x4 x5 x6 x7 s0 h = (if (lg_cmp x7 (0 : Int64)) = 0 then ((f_Se_narrow_b143 G k6) x0 x1 x3 x4 x5 h) else (if x3 = 0 then (if s0 = 0 then ((f_Se_narrow_b143 G k6) x0 x1 x3 x4 x5 h) else ((f_Se_narrow_b88 G (f_Se_narrow_b143 G k6)) x0 x1 x3 x4 x5 x6 x7 s0 h)) else ((f_Se_narrow_b88 G (f_Se_narrow_b143 G k6)) x0 x1 x3 x4 x5 x6 x7 s0 h))) := rfl
def f_Se_narrow_b51 (G : Nat) (k6 : Nat → Nat → Int32 → Int32 → Int32 → pH → Option pR) (x0 : Nat) (x1 : Nat) (x3 : Int32) (x4 : Int32) (x5 : Int32) (x6 : Int32) (s0 : Int64) (h : pH) : Option pR := if (lg_cmp (s0 &&& (s0 - (1 : Int64))) (0 : Int64)) = 0 then ((f_Se_narrow_b70 G k6) x0 x1 x3 x4 x5 x6 s0 (1 : Int32) h) else ((f_Se_narrow_b70 G k6) x0 x1 x3 x4 x5 x6 s0 (0 : Int32) h)
theorem f_Se_narrow_b51_eq (G : Nat) (k6 : Nat → Nat → Int32 → Int32 → Int32 → pH → Option pR) (x0 : Nat) (x1 : Nat) (x3 : Int32) (x4 : Int32) (x5 : Int32) (x6 : Int32) (s0 : Int64) (h : pH) : f_Se_narrow_b51 G k6 x0 x1 x3 x4 x5 x6 s0 h = (if (lg_cmp (s0 &&& (s0 - (1 : Int64))) (0 : Int64)) = 0 then ((f_Se_narrow_b70 G k6) x0 x1 x3 x4 x5 x6 s0 (1 : Int32) h) else ((f_Se_narrow_b70 G k6) x0 x1 x3 x4 x5 x6 s0 (0 : Int32) h)) := rfl
def f_Se_narrow_b149 (G : Nat) (h : pH) : Option pR := (if isZ (1 : Int32) = true then some (some (.int (1 : Int32)), h) else none)
theorem f_Se_narrow_b149_eq (G : Nat) (h : pH) : f_Se_narrow_b149 G h = ((if isZ (1 : Int32) = true then some (some (.int (1 : Int32)), h) else none)) := rfl
def f_Se_narrow_b6 (G : Nat) : Nat → Nat → Nat → Int32 → Int32 → Int32 → pH → Option pR
  | 0 => fun _ _ _ _ _ _ => none
  | F + 1 => fun x0 x1 x3 x4 x5 h => if (282 : Int32) ≤ x5 then ((f_Se_narrow_b149 G) h) else (if x4 = 0 then ((f_Se_narrow_b149 G) h) else (cI true (f_Mg_lowestOf G (x4).toInt64 h) fun v4 h1 => (aL h1 1 x1).bind fun v5 => if v5 ≤ v4 then ((f_Se_narrow_b51 G (f_Se_narrow_b6 G F)) x0 x1 x3 (x4 &&& (x4 - (1 : Int32))) x5 v4 (0 : Int64) h1) else ((aJ h1 x1 v4).bind fun v6 => (f_Se_narrow_b51 G (f_Se_narrow_b6 G F)) x0 x1 x3 (x4 &&& (x4 - (1 : Int32))) x5 v4 v6 h1)))
theorem f_Se_narrow_b6_eq (G : Nat) (F : Nat) (x0 : Nat) (x1 : Nat) (x3 : Int32) (x4 : Int32) (x5 : Int32) (h : pH) : f_Se_narrow_b6 G (F + 1) x0 x1 x3 x4 x5 h = (if (282 : Int32) ≤ x5 then ((f_Se_narrow_b149 G) h) else (if x4 = 0 then ((f_Se_narrow_b149 G) h) else (cI true (f_Mg_lowestOf G (x4).toInt64 h) fun v4 h1 => (aL h1 1 x1).bind fun v5 => if v5 ≤ v4 then ((f_Se_narrow_b51 G (f_Se_narrow_b6 G F)) x0 x1 x3 (x4 &&& (x4 - (1 : Int32))) x5 v4 (0 : Int64) h1) else ((aJ h1 x1 v4).bind fun v6 => (f_Se_narrow_b51 G (f_Se_narrow_b6 G F)) x0 x1 x3 (x4 &&& (x4 - (1 : Int32))) x5 v4 v6 h1)))) := rfl
def f_Se_narrow (G : Nat) (x0 : Nat) (x1 : Nat) (x2 : Int32) (x3 : Int32) (h : pH) : Option pR := (f_Se_narrow_b6 G G) x0 x1 x3 x2 (0 : Int32) h
theorem f_Se_narrow_eq (G : Nat) (x0 : Nat) (x1 : Nat) (x2 : Int32) (x3 : Int32) (h : pH) : f_Se_narrow G x0 x1 x2 x3 h = ((f_Se_narrow_b6 G G) x0 x1 x3 x2 (0 : Int32) h) := rfl
set_option maxRecDepth 100000 in
set_option maxHeartbeats 4000000 in
theorem w_Se_narrow_b129 {X : zX} {r : pR} {G : Nat} {k143 : Nat → Nat → Int32 → Int32 → Int32 → pH → Option pR} (hQ : zQ X r) (hk143 : ∀ (x0 : Nat) (x1 : Nat) (x3 : Int32) (x4 : Int32) (x5 : Int32) (h : pH), k143 x0 x1 x3 x4 x5 h = some r → Z X M_Se_narrow 0 0 h 143 [(0, .ref x0), (1, .ref x1), (3, .int x3), (4, .int x4), (5, .int x5)] []) : ∀ (x0 : Nat) (x1 : Nat) (x3 : Int32) (x4 : Int32) (x5 : Int32) (x10 : Int32) (h : pH), f_Se_narrow_b129 G k143 x0 x1 x3 x4 x5 x10 h = some r → Z X M_Se_narrow 0 0 h 129 [(0, .ref x0), (1, .ref x1), (3, .int x3), (4, .int x4), (5, .int x5), (10, .int x10)] [] := by
  intro x0 x1 x3 x4 x5 x10 h E
  rw [f_Se_narrow_b129_eq] at E
  refine z_iload 5 d_Se_narrow_129 rfl ?_
  refine z_if_ge (y := 0) (tgt := 136) d_Se_narrow_131 (by decide) E (fun E => ?_) (fun E => ?_)
  · refine z_iload 3 d_Se_narrow_136 rfl ?_
    refine z_iload 5 d_Se_narrow_138 rfl ?_
    refine z_ior d_Se_narrow_140 ?_
    refine z_istore (lv2 := [(4, .int (x4 ||| x10)), (0, .ref x0), (1, .ref x1), (3, .int x3), (5, .int x5), (10, .int x10)]) d_Se_narrow_141 (Nat.le_of_ble_eq_true rfl) rfl ?_
    refine z_lv [1, 2, 3, 0, 4] rfl ?_
    exact hk143 x0 x1 x3 (x4 ||| x10) x5 h E
  · refine z_iconst (v := (0 : Int32)) d_Se_narrow_134 (by decide) ?_
    exact z_zreturn hQ rfl z00 d_Se_narrow_135 E
set_option maxRecDepth 100000 in
set_option maxHeartbeats 4000000 in
theorem w_Se_narrow_b88 {X : zX} {r : pR} {G : Nat} {k143 : Nat → Nat → Int32 → Int32 → Int32 → pH → Option pR} (hQ : zQ X r) (hk143 : ∀ (x0 : Nat) (x1 : Nat) (x3 : Int32) (x4 : Int32) (x5 : Int32) (h : pH), k143 x0 x1 x3 x4 x5 h = some r → Z X M_Se_narrow 0 0 h 143 [(0, .ref x0), (1, .ref x1), (3, .int x3), (4, .int x4), (5, .int x5)] []) : ∀ (x0 : Nat) (x1 : Nat) (x3 : Int32) (x4 : Int32) (x5 : Int32) (x6 : Int32) (x7 : Int64) (x9 : Int32) (h : pH), f_Se_narrow_b88 G k143 x0 x1 x3 x4 x5 x6 x7 x9 h = some r → Z X M_Se_narrow 0 0 h 88 [(0, .ref x0), (1, .ref x1), (3, .int x3), (4, .int x4), (5, .int x5), (6, .int x6), (7, .long x7), (9, .int x9)] [] := by
  intro x0 x1 x3 x4 x5 x6 x7 x9 h E
  rw [f_Se_narrow_b88_eq] at E
  refine z_aload_n 0 d_Se_narrow_88 rfl rfl ?_
  refine z_aload_n 1 d_Se_narrow_89 rfl rfl ?_
  refine z_iload 5 d_Se_narrow_90 rfl ?_
  refine z_lload 6 d_Se_narrow_92 rfl ?_
  obtain ⟨g8, v10, h7, e9, E⟩ := cI_some E
  refine z_invV (ci := 1) (y := y_Se_narrowLinked) (Mc := M_Se_narrowLinked) (av := [.ref x1, .int x6, .long x7]) (rest := []) rfl rfl ⟨zt_425, zt_427, zt_10, zt_50⟩ zk_Se_narrowLinked zy_Se_narrowLinked (by decide) (Nat.le_of_ble_eq_true rfl) z00 rfl (Nat.le_of_ble_eq_true rfl) d_Se_narrow_94 g8 (m_Se_narrowLinked e9) ?_
  show Z X M_Se_narrow 0 0 h7 97 [(0, .ref x0), (1, .ref x1), (3, .int x3), (4, .int x4), (5, .int x5), (6, .int x6), (7, .long x7), (9, .int x9)] [.int v10]
  refine z_istore (lv2 := [(10, .int v10), (0, .ref x0), (1, .ref x1), (3, .int x3), (4, .int x4), (5, .int x5), (6, .int x6), (7, .long x7), (9, .int x9)]) d_Se_narrow_97 (Nat.le_of_ble_eq_true rfl) rfl ?_
  refine z_iload 0 d_Se_narrow_99 rfl ?_
  refine z_if_lt (y := 0) (tgt := 129) d_Se_narrow_101 (by decide) E (fun E => ?_) (fun E => ?_)
  · refine z_lv [1, 2, 3, 4, 5, 0] rfl ?_
    exact (w_Se_narrow_b129 hQ hk143) x0 x1 x3 x4 x5 v10 h7 E
  · refine z_iload 8 d_Se_narrow_104 rfl ?_
    refine z_if_eq (y := 0) (tgt := 129) d_Se_narrow_106 (by decide) E (fun E => ?_) (fun E => ?_)
    · refine z_lv [1, 2, 3, 4, 5, 0] rfl ?_
      exact (w_Se_narrow_b129 hQ hk143) x0 x1 x3 x4 x5 v10 h7 E
    · refine z_aload_n 1 d_Se_narrow_109 rfl rfl ?_
      refine z_getI (ci := 1) (j := 1) rfl (by decide) zf_Se_18 d_Se_narrow_110 E (fun v11 _ E => ?_)
      refine z_if_eq (y := 0) (tgt := 129) d_Se_narrow_113 (by decide) E (fun E => ?_) (fun E => ?_)
      · refine z_lv [1, 2, 3, 4, 5, 0] rfl ?_
        exact (w_Se_narrow_b129 hQ hk143) x0 x1 x3 x4 x5 v10 h7 E
      · refine z_iload 0 d_Se_narrow_116 rfl ?_
        refine z_aload_n 2 d_Se_narrow_118 rfl rfl ?_
        refine z_iload 6 d_Se_narrow_119 rfl ?_
        refine z_lload 7 d_Se_narrow_121 rfl ?_
        obtain ⟨g13, v15, h12, e14, E⟩ := cI_some E
        refine z_invS (y := y_Se_narrowOthers) (Mc := M_Se_narrowOthers) (av := [.ref x1, .int x6, .long x7]) (rest := [.int v10]) ⟨zt_433, zt_434, zt_50⟩ zk_Se_narrowOthers zy_Se_narrowOthers (by decide) (Nat.le_of_ble_eq_true rfl) z00 rfl (Nat.le_of_ble_eq_true rfl) d_Se_narrow_123 (m_Se_narrowOthers e14) ?_
        show Z X M_Se_narrow 0 0 h12 126 [(10, .int v10), (0, .ref x0), (1, .ref x1), (3, .int x3), (4, .int x4), (5, .int x5), (6, .int x6), (7, .long x7), (9, .int x9)] [.int v15, .int v10]
        refine z_ior d_Se_narrow_126 ?_
        refine z_istore (lv2 := [(10, .int (v10 ||| v15)), (0, .ref x0), (1, .ref x1), (3, .int x3), (4, .int x4), (5, .int x5), (6, .int x6), (7, .long x7), (9, .int x9)]) d_Se_narrow_127 (Nat.le_of_ble_eq_true rfl) rfl ?_
        refine z_lv [1, 2, 3, 4, 5, 0] rfl ?_
        exact (w_Se_narrow_b129 hQ hk143) x0 x1 x3 x4 x5 (v10 ||| v15) h12 E
set_option maxRecDepth 100000 in
set_option maxHeartbeats 4000000 in
theorem w_Se_narrow_b143 {X : zX} {r : pR} {G : Nat} {k6 : Nat → Nat → Int32 → Int32 → Int32 → pH → Option pR} (hQ : zQ X r) (hk6 : ∀ (x0 : Nat) (x1 : Nat) (x3 : Int32) (x4 : Int32) (x5 : Int32) (h : pH), k6 x0 x1 x3 x4 x5 h = some r → Z X M_Se_narrow 0 0 h 6 [(0, .ref x0), (1, .ref x1), (3, .int x3), (4, .int x4), (5, .int x5)] []) : ∀ (x0 : Nat) (x1 : Nat) (x3 : Int32) (x4 : Int32) (x5 : Int32) (h : pH), f_Se_narrow_b143 G k6 x0 x1 x3 x4 x5 h = some r → Z X M_Se_narrow 0 0 h 143 [(0, .ref x0), (1, .ref x1), (3, .int x3), (4, .int x4), (5, .int x5)] [] := by
  intro x0 x1 x3 x4 x5 h E
  rw [f_Se_narrow_b143_eq] at E
  refine z_iinc (v := (x5 + 1)) (lv2 := [(5, .int (x5 + 1)), (0, .ref x0), (1, .ref x1), (3, .int x3), (4, .int x4)]) 4 d_Se_narrow_143 rfl rfl (Nat.le_of_ble_eq_true rfl) rfl ?_
  refine z_goto (tgt := 6) d_Se_narrow_146 (by decide) ?_
  refine z_lv [1, 2, 3, 4, 0] rfl ?_
  exact hk6 x0 x1 x3 x4 (x5 + 1) h E
set_option maxRecDepth 100000 in
set_option maxHeartbeats 4000000 in
theorem w_Se_narrow_b70 {X : zX} {r : pR} {G : Nat} {k6 : Nat → Nat → Int32 → Int32 → Int32 → pH → Option pR} (hQ : zQ X r) (hk6 : ∀ (x0 : Nat) (x1 : Nat) (x3 : Int32) (x4 : Int32) (x5 : Int32) (h : pH), k6 x0 x1 x3 x4 x5 h = some r → Z X M_Se_narrow 0 0 h 6 [(0, .ref x0), (1, .ref x1), (3, .int x3), (4, .int x4), (5, .int x5)] []) : ∀ (x0 : Nat) (x1 : Nat) (x3 : Int32) (x4 : Int32) (x5 : Int32) (x6 : Int32) (x7 : Int64) (s0 : Int32) (h : pH), f_Se_narrow_b70 G k6 x0 x1 x3 x4 x5 x6 x7 s0 h = some r → Z X M_Se_narrow 0 0 h 70 [(0, .ref x0), (1, .ref x1), (3, .int x3), (4, .int x4), (5, .int x5), (6, .int x6), (7, .long x7)] [.int s0] := by
  intro x0 x1 x3 x4 x5 x6 x7 s0 h E
  rw [f_Se_narrow_b70_eq] at E
  refine z_istore (lv2 := [(9, .int s0), (0, .ref x0), (1, .ref x1), (3, .int x3), (4, .int x4), (5, .int x5), (6, .int x6), (7, .long x7)]) d_Se_narrow_70 (Nat.le_of_ble_eq_true rfl) rfl ?_
  refine z_lload 7 d_Se_narrow_72 rfl ?_
  refine z_lconst (v := (0 : Int64)) d_Se_narrow_74 (by decide) ?_
  refine z_lcmp d_Se_narrow_75 ?_
  refine z_if_eq (y := 0) (tgt := 143) d_Se_narrow_76 (by decide) E (fun E => ?_) (fun E => ?_)
  · refine z_lv [1, 2, 3, 4, 5] rfl ?_
    exact (w_Se_narrow_b143 hQ hk6) x0 x1 x3 x4 x5 h E
  · refine z_iload_n 3 d_Se_narrow_79 rfl rfl ?_
    refine z_if_ne (y := 0) (tgt := 88) d_Se_narrow_80 (by decide) E (fun E => ?_) (fun E => ?_)
    · refine z_lv [1, 2, 3, 4, 5, 6, 7, 0] rfl ?_
      exact (w_Se_narrow_b88 hQ (w_Se_narrow_b143 hQ hk6)) x0 x1 x3 x4 x5 x6 x7 s0 h E
    · refine z_iload 0 d_Se_narrow_83 rfl ?_
      refine z_if_eq (y := 0) (tgt := 143) d_Se_narrow_85 (by decide) E (fun E => ?_) (fun E => ?_)
      · refine z_lv [1, 2, 3, 4, 5] rfl ?_
        exact (w_Se_narrow_b143 hQ hk6) x0 x1 x3 x4 x5 h E
      · refine z_lv [1, 2, 3, 4, 5, 6, 7, 0] rfl ?_
        exact (w_Se_narrow_b88 hQ (w_Se_narrow_b143 hQ hk6)) x0 x1 x3 x4 x5 x6 x7 s0 h E
set_option maxRecDepth 100000 in
set_option maxHeartbeats 4000000 in
theorem w_Se_narrow_b51 {X : zX} {r : pR} {G : Nat} {k6 : Nat → Nat → Int32 → Int32 → Int32 → pH → Option pR} (hQ : zQ X r) (hk6 : ∀ (x0 : Nat) (x1 : Nat) (x3 : Int32) (x4 : Int32) (x5 : Int32) (h : pH), k6 x0 x1 x3 x4 x5 h = some r → Z X M_Se_narrow 0 0 h 6 [(0, .ref x0), (1, .ref x1), (3, .int x3), (4, .int x4), (5, .int x5)] []) : ∀ (x0 : Nat) (x1 : Nat) (x3 : Int32) (x4 : Int32) (x5 : Int32) (x6 : Int32) (s0 : Int64) (h : pH), f_Se_narrow_b51 G k6 x0 x1 x3 x4 x5 x6 s0 h = some r → Z X M_Se_narrow 0 0 h 51 [(0, .ref x0), (1, .ref x1), (3, .int x3), (4, .int x4), (5, .int x5), (6, .int x6)] [.long s0] := by
  intro x0 x1 x3 x4 x5 x6 s0 h E
  rw [f_Se_narrow_b51_eq] at E
  refine z_lstore (lv2 := [(7, .long s0), (0, .ref x0), (1, .ref x1), (3, .int x3), (4, .int x4), (5, .int x5), (6, .int x6)]) d_Se_narrow_51 (Nat.le_of_ble_eq_true rfl) rfl ?_
  refine z_lload 0 d_Se_narrow_53 rfl ?_
  refine z_lload 0 d_Se_narrow_55 rfl ?_
  refine z_lconst (v := (1 : Int64)) d_Se_narrow_57 (by decide) ?_
  refine z_lsub d_Se_narrow_58 ?_
  refine z_land d_Se_narrow_59 ?_
  refine z_lconst (v := (0 : Int64)) d_Se_narrow_60 (by decide) ?_
  refine z_lcmp d_Se_narrow_61 ?_
  refine z_if_ne (y := 0) (tgt := 69) d_Se_narrow_62 (by decide) E (fun E => ?_) (fun E => ?_)
  · refine z_iconst (v := (0 : Int32)) d_Se_narrow_69 (by decide) ?_
    refine z_lv [1, 2, 3, 4, 5, 6, 0] rfl ?_
    exact (w_Se_narrow_b70 hQ hk6) x0 x1 x3 x4 x5 x6 s0 (0 : Int32) h E
  · refine z_iconst (v := (1 : Int32)) d_Se_narrow_65 (by decide) ?_
    refine z_goto (tgt := 70) d_Se_narrow_66 (by decide) ?_
    refine z_lv [1, 2, 3, 4, 5, 6, 0] rfl ?_
    exact (w_Se_narrow_b70 hQ hk6) x0 x1 x3 x4 x5 x6 s0 (1 : Int32) h E
set_option maxRecDepth 100000 in
set_option maxHeartbeats 4000000 in
theorem w_Se_narrow_b149 {X : zX} {r : pR} {G : Nat} (hQ : zQ X r) : ∀ (h : pH), f_Se_narrow_b149 G h = some r → Z X M_Se_narrow 0 0 h 149 [] [] := by
  intro h E
  rw [f_Se_narrow_b149_eq] at E
  refine z_iconst (v := (1 : Int32)) d_Se_narrow_149 (by decide) ?_
  exact z_zreturn hQ rfl z00 d_Se_narrow_150 E
set_option maxRecDepth 100000 in
set_option maxHeartbeats 4000000 in
theorem w_Se_narrow_b6 {X : zX} {r : pR} {G : Nat} (hQ : zQ X r) : ∀ (F : Nat) (x0 : Nat) (x1 : Nat) (x3 : Int32) (x4 : Int32) (x5 : Int32) (h : pH), f_Se_narrow_b6 G F x0 x1 x3 x4 x5 h = some r → Z X M_Se_narrow 0 0 h 6 [(0, .ref x0), (1, .ref x1), (3, .int x3), (4, .int x4), (5, .int x5)] [] := by
  intro F
  induction F with
  | zero => intro x0 x1 x3 x4 x5 h E; exact nomatch (show (none : Option pR) = some _ from E)
  | succ F ih =>
    intro x0 x1 x3 x4 x5 h E
    rw [f_Se_narrow_b6_eq] at E
    refine z_iload 4 d_Se_narrow_6 rfl ?_
    refine z_sipush (v := (282 : Int32)) d_Se_narrow_8 (by decide) ?_
    refine z_ic_ge (tgt := 149) d_Se_narrow_11 (by decide) E (fun E => ?_) (fun E => ?_)
    · refine z_lv [] rfl ?_
      exact (w_Se_narrow_b149 hQ) h E
    · refine z_iload 3 d_Se_narrow_14 rfl ?_
      refine z_if_eq (y := 0) (tgt := 149) d_Se_narrow_16 (by decide) E (fun E => ?_) (fun E => ?_)
      · refine z_lv [] rfl ?_
        exact (w_Se_narrow_b149 hQ) h E
      · refine z_iload 3 d_Se_narrow_19 rfl ?_
        refine z_i2l d_Se_narrow_21 ?_
        obtain ⟨g2, v4, h1, e3, E⟩ := cI_some E
        refine z_invSN (y := y_Mg_lowestOf) (Mc := M_Mg_lowestOf) (av := [.long (x4).toInt64]) (rest := []) ⟨(List.mem_of_getElem? (i := 12) rfl), zt_423, zt_48⟩ zk_Mg_lowestOf zy_Mg_lowestOf (by decide) (Nat.le_of_ble_eq_true rfl) z00 rfl (Nat.le_of_ble_eq_true rfl) d_Se_narrow_22 (m_Mg_lowestOf e3) ?_
        show Z X M_Se_narrow 0 0 h1 25 [(0, .ref x0), (1, .ref x1), (3, .int x3), (4, .int x4), (5, .int x5)] [.int v4]
        refine z_istore (lv2 := [(6, .int v4), (0, .ref x0), (1, .ref x1), (3, .int x3), (4, .int x4), (5, .int x5)]) d_Se_narrow_25 (Nat.le_of_ble_eq_true rfl) rfl ?_
        refine z_iload 4 d_Se_narrow_27 rfl ?_
        refine z_iload 4 d_Se_narrow_29 rfl ?_
        refine z_iconst (v := (1 : Int32)) d_Se_narrow_31 (by decide) ?_
        refine z_isub d_Se_narrow_32 ?_
        refine z_iand d_Se_narrow_33 ?_
        refine z_istore (lv2 := [(4, .int (x4 &&& (x4 - (1 : Int32)))), (6, .int v4), (0, .ref x0), (1, .ref x1), (3, .int x3), (5, .int x5)]) d_Se_narrow_34 (Nat.le_of_ble_eq_true rfl) rfl ?_
        refine z_iload 1 d_Se_narrow_36 rfl ?_
        refine z_aload_n 3 d_Se_narrow_38 rfl rfl ?_
        refine z_alen 1 (fun _ => rfl) d_Se_narrow_39 E (fun v5 _ E => ?_)
        refine z_ic_ge (tgt := 50) d_Se_narrow_40 (by decide) E (fun E => ?_) (fun E => ?_)
        · refine z_lconst (v := (0 : Int64)) d_Se_narrow_50 (by decide) ?_
          refine z_lv [2, 3, 4, 0, 5, 1] rfl ?_
          exact (w_Se_narrow_b51 hQ ih) x0 x1 x3 (x4 &&& (x4 - (1 : Int32))) x5 v4 (0 : Int64) h1 E
        · refine z_aload_n 3 d_Se_narrow_43 rfl rfl ?_
          refine z_iload 1 d_Se_narrow_44 rfl ?_
          refine z_laload d_Se_narrow_46 E (fun v6 _ E => ?_)
          refine z_goto (tgt := 51) d_Se_narrow_47 (by decide) ?_
          refine z_lv [2, 3, 4, 0, 5, 1] rfl ?_
          exact (w_Se_narrow_b51 hQ ih) x0 x1 x3 (x4 &&& (x4 - (1 : Int32))) x5 v4 v6 h1 E
set_option maxRecDepth 100000 in
set_option maxHeartbeats 4000000 in
theorem w_Se_narrow_b0 {X : zX} {r : pR} {G : Nat} (hQ : zQ X r) : ∀ (x0 : Nat) (x1 : Nat) (x2 : Int32) (x3 : Int32) (h : pH), f_Se_narrow G x0 x1 x2 x3 h = some r → Z X M_Se_narrow 0 0 h 0 [(0, .ref x0), (1, .ref x1), (2, .int x2), (3, .int x3)] [] := by
  intro x0 x1 x2 x3 h E
  rw [f_Se_narrow_eq] at E
  refine z_iload_n 2 d_Se_narrow_0 rfl rfl ?_
  refine z_istore (lv2 := [(4, .int x2), (0, .ref x0), (1, .ref x1), (2, .int x2), (3, .int x3)]) d_Se_narrow_1 (Nat.le_of_ble_eq_true rfl) rfl ?_
  refine z_iconst (v := (0 : Int32)) d_Se_narrow_3 (by decide) ?_
  refine z_istore (lv2 := [(5, .int (0 : Int32)), (4, .int x2), (0, .ref x0), (1, .ref x1), (2, .int x2), (3, .int x3)]) d_Se_narrow_4 (Nat.le_of_ble_eq_true rfl) rfl ?_
  refine z_lv [2, 3, 5, 1, 0] rfl ?_
  exact (w_Se_narrow_b6 hQ G) x0 x1 x3 x2 (0 : Int32) h E
theorem m_Se_narrow {l : Launch} {G : Nat} {x0 : Nat} {x1 : Nat} {x2 : Int32} {x3 : Int32} {h : pH} {r : pR} (E : f_Se_narrow G x0 x1 x2 x3 h = some r) : zMet l y_Se_narrow M_Se_narrow 0 0 [.ref x0, .ref x1, .int x2, .int x3] h r :=
  zMet_of (by decide) rfl (Nat.le_of_ble_eq_true rfl) (fun p e s m args below meth c D0 cT => w_Se_narrow_b0 (X := (p, l, e, s, m, args, below, meth, c, D0, cT, h, _, 0, 0)) rfl x0 x1 x2 x3 h E)
def f_Se_copyChoices_b2 (G : Nat) : Nat → Nat → Int32 → Int32 → pH → Option pR
  | 0 => fun _ _ _ _ => none
  | F + 1 => fun x0 x1 x2 h => if (6 : Int32) ≤ x2 then (some (none, h)) else ((gR h x0 1 4).bind fun v1 => (aR h 3 v1 (x1 + (1 : Int32))).bind fun v2 => (gR h x0 1 4).bind fun v3 => (aR h 3 v3 x1).bind fun v4 => (aJ h v4 x2).bind fun v5 => (sJ h v2 x2 v5).bind fun h6 => (f_Se_copyChoices_b2 G F) x0 x1 (x2 + 1) h6)
theorem f_Se_copyChoices_b2_eq (G : Nat) (F : Nat) (x0 : Nat) (x1 : Int32) (x2 : Int32) (h : pH) : f_Se_copyChoices_b2 G (F + 1) x0 x1 x2 h = (if (6 : Int32) ≤ x2 then (some (none, h)) else ((gR h x0 1 4).bind fun v1 => (aR h 3 v1 (x1 + (1 : Int32))).bind fun v2 => (gR h x0 1 4).bind fun v3 => (aR h 3 v3 x1).bind fun v4 => (aJ h v4 x2).bind fun v5 => (sJ h v2 x2 v5).bind fun h6 => (f_Se_copyChoices_b2 G F) x0 x1 (x2 + 1) h6)) := rfl
def f_Se_copyChoices (G : Nat) (x0 : Nat) (x1 : Int32) (h : pH) : Option pR := (f_Se_copyChoices_b2 G G) x0 x1 (0 : Int32) h
theorem f_Se_copyChoices_eq (G : Nat) (x0 : Nat) (x1 : Int32) (h : pH) : f_Se_copyChoices G x0 x1 h = ((f_Se_copyChoices_b2 G G) x0 x1 (0 : Int32) h) := rfl
set_option maxRecDepth 100000 in
set_option maxHeartbeats 4000000 in
theorem w_Se_copyChoices_b2 {X : zX} {r : pR} {G : Nat} (hQ : zQ X r) : ∀ (F : Nat) (x0 : Nat) (x1 : Int32) (x2 : Int32) (h : pH), f_Se_copyChoices_b2 G F x0 x1 x2 h = some r → Z X M_Se_copyChoices 0 0 h 2 [(0, .ref x0), (1, .int x1), (2, .int x2)] [] := by
  intro F
  induction F with
  | zero => intro x0 x1 x2 h E; exact nomatch (show (none : Option pR) = some _ from E)
  | succ F ih =>
    intro x0 x1 x2 h E
    rw [f_Se_copyChoices_b2_eq] at E
    refine z_iload_n 2 d_Se_copyChoices_2 rfl rfl ?_
    refine z_bipush (v := (6 : Int32)) d_Se_copyChoices_3 (by decide) ?_
    refine z_ic_ge (tgt := 32) d_Se_copyChoices_5 (by decide) E (fun E => ?_) (fun E => ?_)
    · exact z_return hQ rfl z00 d_Se_copyChoices_32 E
    · refine z_aload_n 0 d_Se_copyChoices_8 rfl rfl ?_
      refine z_getR (ci := 1) (j := 4) rfl (by decide) zf_Se_32 d_Se_copyChoices_9 E (fun v1 _ E => ?_)
      refine z_iload_n 1 d_Se_copyChoices_12 rfl rfl ?_
      refine z_iconst (v := (1 : Int32)) d_Se_copyChoices_13 (by decide) ?_
      refine z_iadd d_Se_copyChoices_14 ?_
      refine z_aaload 3 (fun _ => rfl) rfl d_Se_copyChoices_15 E (fun v2 _ E => ?_)
      refine z_iload_n 2 d_Se_copyChoices_16 rfl rfl ?_
      refine z_aload_n 0 d_Se_copyChoices_17 rfl rfl ?_
      refine z_getR (ci := 1) (j := 4) rfl (by decide) zf_Se_32 d_Se_copyChoices_18 E (fun v3 _ E => ?_)
      refine z_iload_n 1 d_Se_copyChoices_21 rfl rfl ?_
      refine z_aaload 3 (fun _ => rfl) rfl d_Se_copyChoices_22 E (fun v4 _ E => ?_)
      refine z_iload_n 2 d_Se_copyChoices_23 rfl rfl ?_
      refine z_laload d_Se_copyChoices_24 E (fun v5 _ E => ?_)
      refine z_lastore d_Se_copyChoices_25 E (fun h6 _ E => ?_)
      refine z_iinc (v := (x2 + 1)) (lv2 := [(2, .int (x2 + 1)), (0, .ref x0), (1, .int x1)]) 2 d_Se_copyChoices_26 rfl rfl (Nat.le_of_ble_eq_true rfl) rfl ?_
      refine z_goto (tgt := 2) d_Se_copyChoices_29 (by decide) ?_
      refine z_lv [1, 2, 0] rfl ?_
      exact ih x0 x1 (x2 + 1) h6 E
set_option maxRecDepth 100000 in
set_option maxHeartbeats 4000000 in
theorem w_Se_copyChoices_b0 {X : zX} {r : pR} {G : Nat} (hQ : zQ X r) : ∀ (x0 : Nat) (x1 : Int32) (h : pH), f_Se_copyChoices G x0 x1 h = some r → Z X M_Se_copyChoices 0 0 h 0 [(0, .ref x0), (1, .int x1)] [] := by
  intro x0 x1 h E
  rw [f_Se_copyChoices_eq] at E
  refine z_iconst (v := (0 : Int32)) d_Se_copyChoices_0 (by decide) ?_
  refine z_istore_n (lv2 := [(2, .int (0 : Int32)), (0, .ref x0), (1, .int x1)]) d_Se_copyChoices_1 rfl (Nat.le_of_ble_eq_true rfl) rfl ?_
  refine z_lv [1, 2, 0] rfl ?_
  exact (w_Se_copyChoices_b2 hQ G) x0 x1 (0 : Int32) h E
theorem m_Se_copyChoices {l : Launch} {G : Nat} {x0 : Nat} {x1 : Int32} {h : pH} {r : pR} (E : f_Se_copyChoices G x0 x1 h = some r) : zMet l y_Se_copyChoices M_Se_copyChoices 0 0 [.ref x0, .int x1] h r :=
  zMet_of (by decide) rfl (Nat.le_of_ble_eq_true rfl) (fun p e s m args below meth c D0 cT => w_Se_copyChoices_b0 (X := (p, l, e, s, m, args, below, meth, c, D0, cT, h, _, 0, 0)) rfl x0 x1 h E)
def f_Se_writeRow_b43 (G : Nat) (k2 : Nat → Int32 → pH → Option pR) (x0 : Nat) (x1 : Int32) (s0 : Nat) (s1 : Int32) (s2 : Int32) (h : pH) : Option pR := (sI h s0 s1 s2).bind fun h12 => k2 x0 (x1 + 1) h12
theorem f_Se_writeRow_b43_eq (G : Nat) (k2 : Nat → Int32 → pH → Option pR) (x0 : Nat) (x1 : Int32) (s0 : Nat) (s1 : Int32) (s2 : Int32) (h : pH) : f_Se_writeRow_b43 G k2 x0 x1 s0 s1 s2 h = ((sI h s0 s1 s2).bind fun h12 => k2 x0 (x1 + 1) h12) := rfl
def f_Se_writeRow_b2 (G : Nat) : Nat → Nat → Int32 → pH → Option pR
  | 0 => fun _ _ _ => none
  | F + 1 => fun x0 x1 h => if (6 : Int32) ≤ x1 then (some (none, h)) else ((gR h x0 1 7).bind fun v1 => (gR h x0 1 4).bind fun v2 => (aR h 3 v2 (6 : Int32)).bind fun v3 => (aJ h v3 x1).bind fun v4 => if (lg_cmp v4 (0 : Int64)) = 0 then ((f_Se_writeRow_b43 G (f_Se_writeRow_b2 G F)) x0 x1 v1 x1 (-1 : Int32) h) else ((gR h x0 1 4).bind fun v5 => (aR h 3 v5 (6 : Int32)).bind fun v6 => (aJ h v6 x1).bind fun v7 => cI true (f_Mg_lowestOf G v7 h) fun v11 h8 => (f_Se_writeRow_b43 G (f_Se_writeRow_b2 G F)) x0 x1 v1 x1 v11 h8))
theorem f_Se_writeRow_b2_eq (G : Nat) (F : Nat) (x0 : Nat) (x1 : Int32) (h : pH) : f_Se_writeRow_b2 G (F + 1) x0 x1 h = (if (6 : Int32) ≤ x1 then (some (none, h)) else ((gR h x0 1 7).bind fun v1 => (gR h x0 1 4).bind fun v2 => (aR h 3 v2 (6 : Int32)).bind fun v3 => (aJ h v3 x1).bind fun v4 => if (lg_cmp v4 (0 : Int64)) = 0 then ((f_Se_writeRow_b43 G (f_Se_writeRow_b2 G F)) x0 x1 v1 x1 (-1 : Int32) h) else ((gR h x0 1 4).bind fun v5 => (aR h 3 v5 (6 : Int32)).bind fun v6 => (aJ h v6 x1).bind fun v7 => cI true (f_Mg_lowestOf G v7 h) fun v11 h8 => (f_Se_writeRow_b43 G (f_Se_writeRow_b2 G F)) x0 x1 v1 x1 v11 h8))) := rfl
def f_Se_writeRow (G : Nat) (x0 : Nat) (h : pH) : Option pR := (f_Se_writeRow_b2 G G) x0 (0 : Int32) h
theorem f_Se_writeRow_eq (G : Nat) (x0 : Nat) (h : pH) : f_Se_writeRow G x0 h = ((f_Se_writeRow_b2 G G) x0 (0 : Int32) h) := rfl
set_option maxRecDepth 100000 in
set_option maxHeartbeats 4000000 in
theorem w_Se_writeRow_b43 {X : zX} {r : pR} {G : Nat} {k2 : Nat → Int32 → pH → Option pR} (hQ : zQ X r) (hk2 : ∀ (x0 : Nat) (x1 : Int32) (h : pH), k2 x0 x1 h = some r → Z X M_Se_writeRow 0 0 h 2 [(0, .ref x0), (1, .int x1)] []) : ∀ (x0 : Nat) (x1 : Int32) (s0 : Nat) (s1 : Int32) (s2 : Int32) (h : pH), f_Se_writeRow_b43 G k2 x0 x1 s0 s1 s2 h = some r → Z X M_Se_writeRow 0 0 h 43 [(0, .ref x0), (1, .int x1)] [.int s2, .int s1, .ref s0] := by
  intro x0 x1 s0 s1 s2 h E
  rw [f_Se_writeRow_b43_eq] at E
  refine z_iastore d_Se_writeRow_43 E (fun h12 _ E => ?_)
  refine z_iinc (v := (x1 + 1)) (lv2 := [(1, .int (x1 + 1)), (0, .ref x0)]) 1 d_Se_writeRow_44 rfl rfl (Nat.le_of_ble_eq_true rfl) rfl ?_
  refine z_goto (tgt := 2) d_Se_writeRow_47 (by decide) ?_
  refine z_lv [1, 0] rfl ?_
  exact hk2 x0 (x1 + 1) h12 E
set_option maxRecDepth 100000 in
set_option maxHeartbeats 4000000 in
theorem w_Se_writeRow_b2 {X : zX} {r : pR} {G : Nat} (hQ : zQ X r) : ∀ (F : Nat) (x0 : Nat) (x1 : Int32) (h : pH), f_Se_writeRow_b2 G F x0 x1 h = some r → Z X M_Se_writeRow 0 0 h 2 [(0, .ref x0), (1, .int x1)] [] := by
  intro F
  induction F with
  | zero => intro x0 x1 h E; exact nomatch (show (none : Option pR) = some _ from E)
  | succ F ih =>
    intro x0 x1 h E
    rw [f_Se_writeRow_b2_eq] at E
    refine z_iload_n 1 d_Se_writeRow_2 rfl rfl ?_
    refine z_bipush (v := (6 : Int32)) d_Se_writeRow_3 (by decide) ?_
    refine z_ic_ge (tgt := 50) d_Se_writeRow_5 (by decide) E (fun E => ?_) (fun E => ?_)
    · exact z_return hQ rfl z00 d_Se_writeRow_50 E
    · refine z_aload_n 0 d_Se_writeRow_8 rfl rfl ?_
      refine z_getR (ci := 1) (j := 7) rfl (by decide) zf_Se_42 d_Se_writeRow_9 E (fun v1 _ E => ?_)
      refine z_iload_n 1 d_Se_writeRow_12 rfl rfl ?_
      refine z_aload_n 0 d_Se_writeRow_13 rfl rfl ?_
      refine z_getR (ci := 1) (j := 4) rfl (by decide) zf_Se_32 d_Se_writeRow_14 E (fun v2 _ E => ?_)
      refine z_bipush (v := (6 : Int32)) d_Se_writeRow_17 (by decide) ?_
      refine z_aaload 3 (fun _ => rfl) rfl d_Se_writeRow_19 E (fun v3 _ E => ?_)
      refine z_iload_n 1 d_Se_writeRow_20 rfl rfl ?_
      refine z_laload d_Se_writeRow_21 E (fun v4 _ E => ?_)
      refine z_lconst (v := (0 : Int64)) d_Se_writeRow_22 (by decide) ?_
      refine z_lcmp d_Se_writeRow_23 ?_
      refine z_if_ne (y := 0) (tgt := 31) d_Se_writeRow_24 (by decide) E (fun E => ?_) (fun E => ?_)
      · refine z_aload_n 0 d_Se_writeRow_31 rfl rfl ?_
        refine z_getR (ci := 1) (j := 4) rfl (by decide) zf_Se_32 d_Se_writeRow_32 E (fun v5 _ E => ?_)
        refine z_bipush (v := (6 : Int32)) d_Se_writeRow_35 (by decide) ?_
        refine z_aaload 3 (fun _ => rfl) rfl d_Se_writeRow_37 E (fun v6 _ E => ?_)
        refine z_iload_n 1 d_Se_writeRow_38 rfl rfl ?_
        refine z_laload d_Se_writeRow_39 E (fun v7 _ E => ?_)
        obtain ⟨g9, v11, h8, e10, E⟩ := cI_some E
        refine z_invSN (y := y_Mg_lowestOf) (Mc := M_Mg_lowestOf) (av := [.long v7]) (rest := [.int x1, .ref v1]) ⟨(List.mem_of_getElem? (i := 12) rfl), zt_423, zt_48⟩ zk_Mg_lowestOf zy_Mg_lowestOf (by decide) (Nat.le_of_ble_eq_true rfl) z00 rfl (Nat.le_of_ble_eq_true rfl) d_Se_writeRow_40 (m_Mg_lowestOf e10) ?_
        show Z X M_Se_writeRow 0 0 h8 43 [(0, .ref x0), (1, .int x1)] [.int v11, .int x1, .ref v1]
        exact (w_Se_writeRow_b43 hQ ih) x0 x1 v1 x1 v11 h8 E
      · refine z_iconst (v := (-1 : Int32)) d_Se_writeRow_27 (by decide) ?_
        refine z_goto (tgt := 43) d_Se_writeRow_28 (by decide) ?_
        exact (w_Se_writeRow_b43 hQ ih) x0 x1 v1 x1 (-1 : Int32) h E
set_option maxRecDepth 100000 in
set_option maxHeartbeats 4000000 in
theorem w_Se_writeRow_b0 {X : zX} {r : pR} {G : Nat} (hQ : zQ X r) : ∀ (x0 : Nat) (h : pH), f_Se_writeRow G x0 h = some r → Z X M_Se_writeRow 0 0 h 0 [(0, .ref x0)] [] := by
  intro x0 h E
  rw [f_Se_writeRow_eq] at E
  refine z_iconst (v := (0 : Int32)) d_Se_writeRow_0 (by decide) ?_
  refine z_istore_n (lv2 := [(1, .int (0 : Int32)), (0, .ref x0)]) d_Se_writeRow_1 rfl (Nat.le_of_ble_eq_true rfl) rfl ?_
  refine z_lv [1, 0] rfl ?_
  exact (w_Se_writeRow_b2 hQ G) x0 (0 : Int32) h E
theorem m_Se_writeRow {l : Launch} {G : Nat} {x0 : Nat} {h : pH} {r : pR} (E : f_Se_writeRow G x0 h = some r) : zMet l y_Se_writeRow M_Se_writeRow 0 0 [.ref x0] h r :=
  zMet_of (by decide) rfl (Nat.le_of_ble_eq_true rfl) (fun p e s m args below meth c D0 cT => w_Se_writeRow_b0 (X := (p, l, e, s, m, args, below, meth, c, D0, cT, h, _, 0, 0)) rfl x0 h E)
def f_Se_settle_b110 (G : Nat) (rec : Nat → Int32 → pH → Option pR) (k46 : Nat → Int32 → Int64 → Int32 → pH → Option pR) (x0 : Nat) (x1 : Int32) (x2 : Int64) (x4 : Int32) (h : pH) : Option pR := k46 x0 x1 x2 (x4 + (-1)) h
theorem f_Se_settle_b110_eq (G : Nat) (rec : Nat → Int32 → pH → Option pR) (k46 : Nat → Int32 → Int64 → Int32 → pH → Option pR) (x0 : Nat) (x1 : Int32) (x2 : Int64) (x4 : Int32) (h : pH) : f_Se_settle_b110 G rec k46 x0 x1 x2 x4 h = (k46 x0 x1 x2 (x4 + (-1)) h) := rfl
def f_Se_settle_b46 (G : Nat) (rec : Nat → Int32 → pH → Option pR) : Nat → Nat → Int32 → Int64 → Int32 → pH → Option pR
  | 0 => fun _ _ _ _ _ => none
  | F + 1 => fun x0 x1 x2 x4 h => if x4 ≤ 0 then ((if isZ (0 : Int32) = true then some (some (.int (0 : Int32)), h) else none)) else (cV (oC h x0 1) (f_Se_copyChoices G x0 x1 h) fun h18 => (gR h18 x0 1 4).bind fun v21 => (aR h18 3 v21 (x1 + (1 : Int32))).bind fun v22 => (sJ h18 v22 x1 (x2 &&& (-x2))).bind fun h23 => (gR h23 x0 1 4).bind fun v24 => (aR h23 3 v24 (x1 + (1 : Int32))).bind fun v25 => cI (oC h23 x0 1) (f_Se_narrow G x0 v25 ((1 : Int32) <<< (x1 &&& 31)) (0 : Int32) h23) fun v29 h26 => if v29 = 0 then ((f_Se_settle_b110 G rec (f_Se_settle_b46 G rec F)) x0 x1 (x2 ^^^ (x2 &&& (-x2))) x4 h26) else (cI (oC h26 x0 1) (rec x0 (x1 + (1 : Int32)) h26) fun v33 h30 => if v33 = 0 then ((f_Se_settle_b110 G rec (f_Se_settle_b46 G rec F)) x0 x1 (x2 ^^^ (x2 &&& (-x2))) x4 h30) else ((if isZ (1 : Int32) = true then some (some (.int (1 : Int32)), h30) else none))))
theorem f_Se_settle_b46_eq (G : Nat) (rec : Nat → Int32 → pH → Option pR) (F : Nat) (x0 : Nat) (x1 : Int32) (x2 : Int64) (x4 : Int32) (h : pH) : f_Se_settle_b46 G rec (F + 1) x0 x1 x2 x4 h = (if x4 ≤ 0 then ((if isZ (0 : Int32) = true then some (some (.int (0 : Int32)), h) else none)) else (cV (oC h x0 1) (f_Se_copyChoices G x0 x1 h) fun h18 => (gR h18 x0 1 4).bind fun v21 => (aR h18 3 v21 (x1 + (1 : Int32))).bind fun v22 => (sJ h18 v22 x1 (x2 &&& (-x2))).bind fun h23 => (gR h23 x0 1 4).bind fun v24 => (aR h23 3 v24 (x1 + (1 : Int32))).bind fun v25 => cI (oC h23 x0 1) (f_Se_narrow G x0 v25 ((1 : Int32) <<< (x1 &&& 31)) (0 : Int32) h23) fun v29 h26 => if v29 = 0 then ((f_Se_settle_b110 G rec (f_Se_settle_b46 G rec F)) x0 x1 (x2 ^^^ (x2 &&& (-x2))) x4 h26) else (cI (oC h26 x0 1) (rec x0 (x1 + (1 : Int32)) h26) fun v33 h30 => if v33 = 0 then ((f_Se_settle_b110 G rec (f_Se_settle_b46 G rec F)) x0 x1 (x2 ^^^ (x2 &&& (-x2))) x4 h30) else ((if isZ (1 : Int32) = true then some (some (.int (1 : Int32)), h30) else none))))) := rfl
def f_Se_settle_rec (G : Nat) (rec : Nat → Int32 → pH → Option pR) (x0 : Nat) (x1 : Int32) (h : pH) : Option pR := if x1 < (6 : Int32) then ((gR h x0 1 4).bind fun v1 => (aR h 3 v1 x1).bind fun v2 => (aJ h v2 x1).bind fun v3 => if (lg_cmp v3 (0 : Int64)) = 0 then (cV (oC h x0 1) (f_Se_copyChoices G x0 x1 h) fun h8 => cI (oC h8 x0 1) (rec x0 (x1 + (1 : Int32)) h8) fun v14 h11 => (if isZ v14 = true then some (some (.int v14), h11) else none)) else (cI true (f_Lo_bitCount G v3 h) fun v7 h4 => (f_Se_settle_b46 G rec G) x0 x1 v3 v7 h4)) else (cV (oC h x0 1) (f_Se_writeRow G x0 h) fun h15 => (if isZ (1 : Int32) = true then some (some (.int (1 : Int32)), h15) else none))
theorem f_Se_settle_rec_eq (G : Nat) (rec : Nat → Int32 → pH → Option pR) (x0 : Nat) (x1 : Int32) (h : pH) : f_Se_settle_rec G rec x0 x1 h = (if x1 < (6 : Int32) then ((gR h x0 1 4).bind fun v1 => (aR h 3 v1 x1).bind fun v2 => (aJ h v2 x1).bind fun v3 => if (lg_cmp v3 (0 : Int64)) = 0 then (cV (oC h x0 1) (f_Se_copyChoices G x0 x1 h) fun h8 => cI (oC h8 x0 1) (rec x0 (x1 + (1 : Int32)) h8) fun v14 h11 => (if isZ v14 = true then some (some (.int v14), h11) else none)) else (cI true (f_Lo_bitCount G v3 h) fun v7 h4 => (f_Se_settle_b46 G rec G) x0 x1 v3 v7 h4)) else (cV (oC h x0 1) (f_Se_writeRow G x0 h) fun h15 => (if isZ (1 : Int32) = true then some (some (.int (1 : Int32)), h15) else none))) := rfl
def f_Se_settle (G : Nat) : Nat → Nat → Int32 → pH → Option pR
  | 0 => fun _ _ _ => none
  | D + 1 => f_Se_settle_rec G (f_Se_settle G D)
theorem f_Se_settle_eq (G D : Nat) : f_Se_settle G (D + 1) = f_Se_settle_rec G (f_Se_settle G D) := rfl
set_option maxRecDepth 100000 in
set_option maxHeartbeats 4000000 in
theorem w_Se_settle_b110 {X : zX} {r : pR} {G : Nat} {rec : Nat → Int32 → pH → Option pR} {D : Nat} {k46 : Nat → Int32 → Int64 → Int32 → pH → Option pR} (hQ : zQ X r) (hrec : ∀ {x0 : Nat} {x1 : Int32} {h : pH} {r : pR}, rec x0 x1 h = some r → zMet (zl X) y_Se_settle (M_Se_settle D) 0 0 [.ref x0, .int x1] h r) (hk46 : ∀ (x0 : Nat) (x1 : Int32) (x2 : Int64) (x4 : Int32) (h : pH), k46 x0 x1 x2 x4 h = some r → Z X (M_Se_settle (D + 1)) 0 0 h 46 [(0, .ref x0), (1, .int x1), (2, .long x2), (4, .int x4)] []) : ∀ (x0 : Nat) (x1 : Int32) (x2 : Int64) (x4 : Int32) (h : pH), f_Se_settle_b110 G rec k46 x0 x1 x2 x4 h = some r → Z X (M_Se_settle (D + 1)) 0 0 h 110 [(0, .ref x0), (1, .int x1), (2, .long x2), (4, .int x4)] [] := by
  intro x0 x1 x2 x4 h E
  rw [f_Se_settle_b110_eq] at E
  refine z_iinc (v := (x4 + (-1))) (lv2 := [(4, .int (x4 + (-1))), (0, .ref x0), (1, .int x1), (2, .long x2)]) 3 d_Se_settle_110 rfl rfl (Nat.le_of_ble_eq_true rfl) rfl ?_
  refine z_goto (tgt := 46) d_Se_settle_113 (by decide) ?_
  refine z_lv [1, 2, 3, 0] rfl ?_
  exact hk46 x0 x1 x2 (x4 + (-1)) h E
set_option maxRecDepth 100000 in
set_option maxHeartbeats 4000000 in
theorem w_Se_settle_b46 {X : zX} {r : pR} {G : Nat} {rec : Nat → Int32 → pH → Option pR} {D : Nat} (hQ : zQ X r) (hrec : ∀ {x0 : Nat} {x1 : Int32} {h : pH} {r : pR}, rec x0 x1 h = some r → zMet (zl X) y_Se_settle (M_Se_settle D) 0 0 [.ref x0, .int x1] h r) : ∀ (F : Nat) (x0 : Nat) (x1 : Int32) (x2 : Int64) (x4 : Int32) (h : pH), f_Se_settle_b46 G rec F x0 x1 x2 x4 h = some r → Z X (M_Se_settle (D + 1)) 0 0 h 46 [(0, .ref x0), (1, .int x1), (2, .long x2), (4, .int x4)] [] := by
  intro F
  induction F with
  | zero => intro x0 x1 x2 x4 h E; exact nomatch (show (none : Option pR) = some _ from E)
  | succ F ih =>
    intro x0 x1 x2 x4 h E
    rw [f_Se_settle_b46_eq] at E
    refine z_iload 3 d_Se_settle_46 rfl ?_
    refine z_if_le (y := 0) (tgt := 116) d_Se_settle_48 (by decide) E (fun E => ?_) (fun E => ?_)
    · refine z_iconst (v := (0 : Int32)) d_Se_settle_116 (by decide) ?_
      exact z_zreturn hQ rfl z00 d_Se_settle_117 E
    · refine z_lload_n 2 d_Se_settle_51 rfl rfl ?_
      refine z_lload_n 2 d_Se_settle_52 rfl rfl ?_
      refine z_lneg d_Se_settle_53 ?_
      refine z_land d_Se_settle_54 ?_
      refine z_lstore (lv2 := [(5, .long (x2 &&& (-x2))), (0, .ref x0), (1, .int x1), (2, .long x2), (4, .int x4)]) d_Se_settle_55 (Nat.le_of_ble_eq_true rfl) rfl ?_
      refine z_lload_n 3 d_Se_settle_57 rfl rfl ?_
      refine z_lload 0 d_Se_settle_58 rfl ?_
      refine z_lxor d_Se_settle_60 ?_
      refine z_lstore_n (lv2 := [(2, .long (x2 ^^^ (x2 &&& (-x2)))), (5, .long (x2 &&& (-x2))), (0, .ref x0), (1, .int x1), (4, .int x4)]) d_Se_settle_61 rfl (Nat.le_of_ble_eq_true rfl) rfl ?_
      refine z_aload_n 2 d_Se_settle_62 rfl rfl ?_
      refine z_iload_n 3 d_Se_settle_63 rfl rfl ?_
      obtain ⟨g19, h18, e20, E⟩ := cV_some E
      refine z_invV (ci := 1) (y := y_Se_copyChoices) (Mc := M_Se_copyChoices) (av := [.int x1]) (rest := []) rfl rfl ⟨zt_445, zt_447, zt_13, zt_50⟩ zk_Se_copyChoices zy_Se_copyChoices (Nat.lt_of_lt_of_le (show (0 : Nat) < 4 by decide) (Nat.le_add_right _ _)) (Nat.le_of_ble_eq_true rfl) z00 rfl (Nat.le_of_ble_eq_true rfl) d_Se_settle_64 g19 (m_Se_copyChoices e20) ?_
      show Z X (M_Se_settle (D + 1)) 0 0 h18 67 [(2, .long (x2 ^^^ (x2 &&& (-x2)))), (5, .long (x2 &&& (-x2))), (0, .ref x0), (1, .int x1), (4, .int x4)] []
      refine z_aload_n 2 d_Se_settle_67 rfl rfl ?_
      refine z_getR (ci := 1) (j := 4) rfl (by decide) zf_Se_32 d_Se_settle_68 E (fun v21 _ E => ?_)
      refine z_iload_n 3 d_Se_settle_71 rfl rfl ?_
      refine z_iconst (v := (1 : Int32)) d_Se_settle_72 (by decide) ?_
      refine z_iadd d_Se_settle_73 ?_
      refine z_aaload 3 (fun _ => rfl) rfl d_Se_settle_74 E (fun v22 _ E => ?_)
      refine z_iload_n 3 d_Se_settle_75 rfl rfl ?_
      refine z_lload 1 d_Se_settle_76 rfl ?_
      refine z_lastore d_Se_settle_78 E (fun h23 _ E => ?_)
      refine z_aload_n 2 d_Se_settle_79 rfl rfl ?_
      refine z_aload_n 2 d_Se_settle_80 rfl rfl ?_
      refine z_getR (ci := 1) (j := 4) rfl (by decide) zf_Se_32 d_Se_settle_81 E (fun v24 _ E => ?_)
      refine z_iload_n 3 d_Se_settle_84 rfl rfl ?_
      refine z_iconst (v := (1 : Int32)) d_Se_settle_85 (by decide) ?_
      refine z_iadd d_Se_settle_86 ?_
      refine z_aaload 3 (fun _ => rfl) rfl d_Se_settle_87 E (fun v25 _ E => ?_)
      refine z_iconst (v := (1 : Int32)) d_Se_settle_88 (by decide) ?_
      refine z_iload_n 3 d_Se_settle_89 rfl rfl ?_
      refine z_ishl d_Se_settle_90 ?_
      refine z_iconst (v := (0 : Int32)) d_Se_settle_91 (by decide) ?_
      obtain ⟨g27, v29, h26, e28, E⟩ := cI_some E
      refine z_invV (ci := 1) (y := y_Se_narrow) (Mc := M_Se_narrow) (av := [.ref v25, .int ((1 : Int32) <<< (x1 &&& 31)), .int (0 : Int32)]) (rest := []) rfl rfl ⟨zt_418, zt_420, zt_9, zt_50⟩ zk_Se_narrow zy_Se_narrow (Nat.lt_of_lt_of_le (show (3 : Nat) < 4 by decide) (Nat.le_add_right _ _)) (Nat.le_of_ble_eq_true rfl) z00 rfl (Nat.le_of_ble_eq_true rfl) d_Se_settle_92 g27 (m_Se_narrow e28) ?_
      show Z X (M_Se_settle (D + 1)) 0 0 h26 95 [(2, .long (x2 ^^^ (x2 &&& (-x2)))), (5, .long (x2 &&& (-x2))), (0, .ref x0), (1, .int x1), (4, .int x4)] [.int v29]
      refine z_if_eq (y := 0) (tgt := 110) d_Se_settle_95 (by decide) E (fun E => ?_) (fun E => ?_)
      · refine z_lv [2, 3, 0, 4] rfl ?_
        exact (w_Se_settle_b110 hQ hrec ih) x0 x1 (x2 ^^^ (x2 &&& (-x2))) x4 h26 E
      · refine z_aload_n 2 d_Se_settle_98 rfl rfl ?_
        refine z_iload_n 3 d_Se_settle_99 rfl rfl ?_
        refine z_iconst (v := (1 : Int32)) d_Se_settle_100 (by decide) ?_
        refine z_iadd d_Se_settle_101 ?_
        obtain ⟨g31, v33, h30, e32, E⟩ := cI_some E
        refine z_invV (ci := 1) (y := y_Se_settle) (Mc := (M_Se_settle D)) (av := [.int (x1 + (1 : Int32))]) (rest := []) rfl rfl ⟨zt_437, zt_439, zt_11, zt_50⟩ (zk_Se_settle _) zy_Se_settle (Nat.lt_succ_self _) (Nat.le_of_ble_eq_true rfl) z00 rfl (Nat.le_of_ble_eq_true rfl) d_Se_settle_102 g31 (hrec e32) ?_
        show Z X (M_Se_settle (D + 1)) 0 0 h30 105 [(2, .long (x2 ^^^ (x2 &&& (-x2)))), (5, .long (x2 &&& (-x2))), (0, .ref x0), (1, .int x1), (4, .int x4)] [.int v33]
        refine z_if_eq (y := 0) (tgt := 110) d_Se_settle_105 (by decide) E (fun E => ?_) (fun E => ?_)
        · refine z_lv [2, 3, 0, 4] rfl ?_
          exact (w_Se_settle_b110 hQ hrec ih) x0 x1 (x2 ^^^ (x2 &&& (-x2))) x4 h30 E
        · refine z_iconst (v := (1 : Int32)) d_Se_settle_108 (by decide) ?_
          exact z_zreturn hQ rfl z00 d_Se_settle_109 E
set_option maxRecDepth 100000 in
set_option maxHeartbeats 4000000 in
theorem w_Se_settle_b0 {X : zX} {r : pR} {G : Nat} {rec : Nat → Int32 → pH → Option pR} {D : Nat} (hQ : zQ X r) (hrec : ∀ {x0 : Nat} {x1 : Int32} {h : pH} {r : pR}, rec x0 x1 h = some r → zMet (zl X) y_Se_settle (M_Se_settle D) 0 0 [.ref x0, .int x1] h r) : ∀ (x0 : Nat) (x1 : Int32) (h : pH), f_Se_settle_rec G rec x0 x1 h = some r → Z X (M_Se_settle (D + 1)) 0 0 h 0 [(0, .ref x0), (1, .int x1)] [] := by
  intro x0 x1 h E
  rw [f_Se_settle_rec_eq] at E
  refine z_iload_n 1 d_Se_settle_0 rfl rfl ?_
  refine z_bipush (v := (6 : Int32)) d_Se_settle_1 (by decide) ?_
  refine z_ic_lt (tgt := 12) d_Se_settle_3 (by decide) E (fun E => ?_) (fun E => ?_)
  · refine z_aload_n 0 d_Se_settle_12 rfl rfl ?_
    refine z_getR (ci := 1) (j := 4) rfl (by decide) zf_Se_32 d_Se_settle_13 E (fun v1 _ E => ?_)
    refine z_iload_n 1 d_Se_settle_16 rfl rfl ?_
    refine z_aaload 3 (fun _ => rfl) rfl d_Se_settle_17 E (fun v2 _ E => ?_)
    refine z_iload_n 1 d_Se_settle_18 rfl rfl ?_
    refine z_laload d_Se_settle_19 E (fun v3 _ E => ?_)
    refine z_lstore_n (lv2 := [(2, .long v3), (0, .ref x0), (1, .int x1)]) d_Se_settle_20 rfl (Nat.le_of_ble_eq_true rfl) rfl ?_
    refine z_lload_n 0 d_Se_settle_21 rfl rfl ?_
    refine z_lconst (v := (0 : Int64)) d_Se_settle_22 (by decide) ?_
    refine z_lcmp d_Se_settle_23 ?_
    refine z_if_ne (y := 0) (tgt := 40) d_Se_settle_24 (by decide) E (fun E => ?_) (fun E => ?_)
    · refine z_lload_n 0 d_Se_settle_40 rfl rfl ?_
      obtain ⟨g5, v7, h4, e6, E⟩ := cI_some E
      refine z_invS (y := y_Lo_bitCount) (Mc := M_Lo_bitCount) (av := [.long v3]) (rest := []) ⟨zt_432, zt_337, zt_58⟩ zk_Lo_bitCount zy_Lo_bitCount (Nat.lt_of_lt_of_le (show (0 : Nat) < 4 by decide) (Nat.le_add_right _ _)) (Nat.le_of_ble_eq_true rfl) z00 rfl (Nat.le_of_ble_eq_true rfl) d_Se_settle_41 (m_Lo_bitCount e6) ?_
      show Z X (M_Se_settle (D + 1)) 0 0 h4 44 [(2, .long v3), (0, .ref x0), (1, .int x1)] [.int v7]
      refine z_istore (lv2 := [(4, .int v7), (2, .long v3), (0, .ref x0), (1, .int x1)]) d_Se_settle_44 (Nat.le_of_ble_eq_true rfl) rfl ?_
      refine z_lv [2, 3, 1, 0] rfl ?_
      exact (w_Se_settle_b46 hQ hrec G) x0 x1 v3 v7 h4 E
    · refine z_aload_n 1 d_Se_settle_27 rfl rfl ?_
      refine z_iload_n 2 d_Se_settle_28 rfl rfl ?_
      obtain ⟨g9, h8, e10, E⟩ := cV_some E
      refine z_invV (ci := 1) (y := y_Se_copyChoices) (Mc := M_Se_copyChoices) (av := [.int x1]) (rest := []) rfl rfl ⟨zt_445, zt_447, zt_13, zt_50⟩ zk_Se_copyChoices zy_Se_copyChoices (Nat.lt_of_lt_of_le (show (0 : Nat) < 4 by decide) (Nat.le_add_right _ _)) (Nat.le_of_ble_eq_true rfl) z00 rfl (Nat.le_of_ble_eq_true rfl) d_Se_settle_29 g9 (m_Se_copyChoices e10) ?_
      show Z X (M_Se_settle (D + 1)) 0 0 h8 32 [(2, .long v3), (0, .ref x0), (1, .int x1)] []
      refine z_aload_n 1 d_Se_settle_32 rfl rfl ?_
      refine z_iload_n 2 d_Se_settle_33 rfl rfl ?_
      refine z_iconst (v := (1 : Int32)) d_Se_settle_34 (by decide) ?_
      refine z_iadd d_Se_settle_35 ?_
      obtain ⟨g12, v14, h11, e13, E⟩ := cI_some E
      refine z_invV (ci := 1) (y := y_Se_settle) (Mc := (M_Se_settle D)) (av := [.int (x1 + (1 : Int32))]) (rest := []) rfl rfl ⟨zt_437, zt_439, zt_11, zt_50⟩ (zk_Se_settle _) zy_Se_settle (Nat.lt_succ_self _) (Nat.le_of_ble_eq_true rfl) z00 rfl (Nat.le_of_ble_eq_true rfl) d_Se_settle_36 g12 (hrec e13) ?_
      show Z X (M_Se_settle (D + 1)) 0 0 h11 39 [(2, .long v3), (0, .ref x0), (1, .int x1)] [.int v14]
      exact z_zreturn hQ rfl z00 d_Se_settle_39 E
  · refine z_aload_n 0 d_Se_settle_6 rfl rfl ?_
    obtain ⟨g16, h15, e17, E⟩ := cV_some E
    refine z_invV (ci := 1) (y := y_Se_writeRow) (Mc := M_Se_writeRow) (av := []) (rest := []) rfl rfl ⟨zt_441, zt_443, zt_12, zt_50⟩ zk_Se_writeRow zy_Se_writeRow (Nat.lt_of_lt_of_le (show (2 : Nat) < 4 by decide) (Nat.le_add_right _ _)) (Nat.le_of_ble_eq_true rfl) z00 rfl (Nat.le_of_ble_eq_true rfl) d_Se_settle_7 g16 (m_Se_writeRow e17) ?_
    show Z X (M_Se_settle (D + 1)) 0 0 h15 10 [(0, .ref x0), (1, .int x1)] []
    refine z_iconst (v := (1 : Int32)) d_Se_settle_10 (by decide) ?_
    exact z_zreturn hQ rfl z00 d_Se_settle_11 E
theorem m_Se_settle {l : Launch} {G : Nat} : ∀ {D : Nat} {x0 : Nat} {x1 : Int32} {h : pH} {r : pR}, f_Se_settle G D x0 x1 h = some r → zMet l y_Se_settle (M_Se_settle D) 0 0 [.ref x0, .int x1] h r := by
  intro D
  induction D with
  | zero => intro x0 x1 h r E; exact nomatch (show (none : Option pR) = some _ from E)
  | succ D ih =>
    intro x0 x1 h r E
    exact zMet_of (M := M_Se_settle (D + 1)) (by decide) rfl (Nat.le_of_ble_eq_true rfl) (fun p e s m args below meth c D0 cT => w_Se_settle_b0 (X := (p, l, e, s, m, args, below, meth, c, D0, cT, h, _, 0, 0)) (D := D) rfl (fun E => ih E) x0 x1 h E)
def f_Se_start_b62 (G : Nat) (k34 : Nat → Int64 → Nat → Int64 → Int32 → pH → Option pR) (x0 : Nat) (x1 : Int64) (x3 : Nat) (x4 : Int64) (x6 : Int32) (s0 : Nat) (s1 : Int32) (s2 : Int64) (h : pH) : Option pR := (sJ h s0 s1 s2).bind fun h31 => k34 x0 x1 x3 x4 (x6 + 1) h31
theorem f_Se_start_b62_eq (G : Nat) (k34 : Nat → Int64 → Nat → Int64 → Int32 → pH → Option pR) (x0 : Nat) (x1 : Int64) (x3 : Nat) (x4 : Int64) (x6 : Int32) (s0 : Nat) (s1 : Int32) (s2 : Int64) (h : pH) : f_Se_start_b62 G k34 x0 x1 x3 x4 x6 s0 s1 s2 h = ((sJ h s0 s1 s2).bind fun h31 => k34 x0 x1 x3 x4 (x6 + 1) h31) := rfl
def f_Se_start_b77 (G : Nat) : Nat → Nat → Nat → Int32 → pH → Option pR
  | 0 => fun _ _ _ _ => none
  | F + 1 => fun x0 x3 x6 h => (gR h x0 1 0).bind fun v13 => cI (oC h v13 0) (f_Gr_count G v13 h) fun v17 h14 => if v17 ≤ x6 then (cI (oC h14 x0 1) (f_Se_narrow G x0 x3 (63 : Int32) (1 : Int32) h14) fun v21 h18 => (if isZ v21 = true then some (some (.int v21), h18) else none)) else ((gR h14 x0 1 0).bind fun v22 => cI (oC h14 v22 0) (f_Gr_at G v22 x6 h14) fun v26 h23 => cI (oC h23 x0 1) (f_Se_takeIn G x0 x3 v26 h23) fun v30 h27 => if v30 = 0 then ((if isZ (0 : Int32) = true then some (some (.int (0 : Int32)), h27) else none)) else ((f_Se_start_b77 G F) x0 x3 (x6 + 1) h27))
theorem f_Se_start_b77_eq (G : Nat) (F : Nat) (x0 : Nat) (x3 : Nat) (x6 : Int32) (h : pH) : f_Se_start_b77 G (F + 1) x0 x3 x6 h = ((gR h x0 1 0).bind fun v13 => cI (oC h v13 0) (f_Gr_count G v13 h) fun v17 h14 => if v17 ≤ x6 then (cI (oC h14 x0 1) (f_Se_narrow G x0 x3 (63 : Int32) (1 : Int32) h14) fun v21 h18 => (if isZ v21 = true then some (some (.int v21), h18) else none)) else ((gR h14 x0 1 0).bind fun v22 => cI (oC h14 v22 0) (f_Gr_at G v22 x6 h14) fun v26 h23 => cI (oC h23 x0 1) (f_Se_takeIn G x0 x3 v26 h23) fun v30 h27 => if v30 = 0 then ((if isZ (0 : Int32) = true then some (some (.int (0 : Int32)), h27) else none)) else ((f_Se_start_b77 G F) x0 x3 (x6 + 1) h27))) := rfl
def f_Se_start_b34 (G : Nat) : Nat → Nat → Int64 → Nat → Int64 → Int32 → pH → Option pR
  | 0 => fun _ _ _ _ _ _ => none
  | F + 1 => fun x0 x1 x3 x4 x6 h => if (6 : Int32) ≤ x6 then ((oP h x0 1 3 (.int (0 : Int32))).bind fun h8 => (f_Se_start_b77 G G) x0 x3 (0 : Int32) h8) else (cI true (f_Mg_isIn G x4 ((40 : Int32) + x6) h) fun v12 h9 => if v12 = 0 then ((f_Se_start_b62 G (f_Se_start_b34 G F)) x0 x1 x3 x4 x6 x3 x6 (0 : Int64) h9) else ((f_Se_start_b62 G (f_Se_start_b34 G F)) x0 x1 x3 x4 x6 x3 x6 x1 h9))
theorem f_Se_start_b34_eq (G : Nat) (F : Nat) (x0 : Nat) (x1 : Int64) (x3 : Nat) (x4 : Int64) (x6 : Int32) (h : pH) : f_Se_start_b34 G (F + 1) x0 x1 x3 x4 x6 h = (if (6 : Int32) ≤ x6 then ((oP h x0 1 3 (.int (0 : Int32))).bind fun h8 => (f_Se_start_b77 G G) x0 x3 (0 : Int32) h8) else (cI true (f_Mg_isIn G x4 ((40 : Int32) + x6) h) fun v12 h9 => if v12 = 0 then ((f_Se_start_b62 G (f_Se_start_b34 G F)) x0 x1 x3 x4 x6 x3 x6 (0 : Int64) h9) else ((f_Se_start_b62 G (f_Se_start_b34 G F)) x0 x1 x3 x4 x6 x3 x6 x1 h9))) := rfl
def f_Se_start_b31 (G : Nat) (x0 : Nat) (x1 : Int64) (x3 : Nat) (x4 : Int64) (h : pH) : Option pR := (f_Se_start_b34 G G) x0 x1 x3 x4 (0 : Int32) h
theorem f_Se_start_b31_eq (G : Nat) (x0 : Nat) (x1 : Int64) (x3 : Nat) (x4 : Int64) (h : pH) : f_Se_start_b31 G x0 x1 x3 x4 h = ((f_Se_start_b34 G G) x0 x1 x3 x4 (0 : Int32) h) := rfl
def f_Se_start (G : Nat) (x0 : Nat) (x1 : Int64) (h : pH) : Option pR := (gR h x0 1 4).bind fun v1 => (aR h 3 v1 (0 : Int32)).bind fun v2 => (gR h x0 1 0).bind fun v3 => cJ (oC h v3 0) (f_Gr_nodes G v3 h) fun v7 h4 => if (lg_cmp v7 (0 : Int64)) = 0 then ((f_Se_start_b31 G) x0 x1 v2 v7 h4) else (if (lg_cmp x1 (0 : Int64)) = 0 then ((if isZ (0 : Int32) = true then some (some (.int (0 : Int32)), h4) else none)) else ((f_Se_start_b31 G) x0 x1 v2 v7 h4))
theorem f_Se_start_eq (G : Nat) (x0 : Nat) (x1 : Int64) (h : pH) : f_Se_start G x0 x1 h = ((gR h x0 1 4).bind fun v1 => (aR h 3 v1 (0 : Int32)).bind fun v2 => (gR h x0 1 0).bind fun v3 => cJ (oC h v3 0) (f_Gr_nodes G v3 h) fun v7 h4 => if (lg_cmp v7 (0 : Int64)) = 0 then ((f_Se_start_b31 G) x0 x1 v2 v7 h4) else (if (lg_cmp x1 (0 : Int64)) = 0 then ((if isZ (0 : Int32) = true then some (some (.int (0 : Int32)), h4) else none)) else ((f_Se_start_b31 G) x0 x1 v2 v7 h4))) := rfl
set_option maxRecDepth 100000 in
set_option maxHeartbeats 4000000 in
theorem w_Se_start_b62 {X : zX} {r : pR} {G : Nat} {k34 : Nat → Int64 → Nat → Int64 → Int32 → pH → Option pR} (hQ : zQ X r) (hk34 : ∀ (x0 : Nat) (x1 : Int64) (x3 : Nat) (x4 : Int64) (x6 : Int32) (h : pH), k34 x0 x1 x3 x4 x6 h = some r → Z X M_Se_start 0 0 h 34 [(0, .ref x0), (1, .long x1), (3, .ref x3), (4, .long x4), (6, .int x6)] []) : ∀ (x0 : Nat) (x1 : Int64) (x3 : Nat) (x4 : Int64) (x6 : Int32) (s0 : Nat) (s1 : Int32) (s2 : Int64) (h : pH), f_Se_start_b62 G k34 x0 x1 x3 x4 x6 s0 s1 s2 h = some r → Z X M_Se_start 0 0 h 62 [(0, .ref x0), (1, .long x1), (3, .ref x3), (4, .long x4), (6, .int x6)] [.long s2, .int s1, .ref s0] := by
  intro x0 x1 x3 x4 x6 s0 s1 s2 h E
  rw [f_Se_start_b62_eq] at E
  refine z_lastore d_Se_start_62 E (fun h31 _ E => ?_)
  refine z_iinc (v := (x6 + 1)) (lv2 := [(6, .int (x6 + 1)), (0, .ref x0), (1, .long x1), (3, .ref x3), (4, .long x4)]) 4 d_Se_start_63 rfl rfl (Nat.le_of_ble_eq_true rfl) rfl ?_
  refine z_goto (tgt := 34) d_Se_start_66 (by decide) ?_
  refine z_lv [1, 2, 3, 4, 0] rfl ?_
  exact hk34 x0 x1 x3 x4 (x6 + 1) h31 E
set_option maxRecDepth 100000 in
set_option maxHeartbeats 4000000 in
theorem w_Se_start_b77 {X : zX} {r : pR} {G : Nat} (hQ : zQ X r) : ∀ (F : Nat) (x0 : Nat) (x3 : Nat) (x6 : Int32) (h : pH), f_Se_start_b77 G F x0 x3 x6 h = some r → Z X M_Se_start 0 0 h 77 [(0, .ref x0), (3, .ref x3), (6, .int x6)] [] := by
  intro F
  induction F with
  | zero => intro x0 x3 x6 h E; exact nomatch (show (none : Option pR) = some _ from E)
  | succ F ih =>
    intro x0 x3 x6 h E
    rw [f_Se_start_b77_eq] at E
    refine z_iload 2 d_Se_start_77 rfl ?_
    refine z_aload_n 0 d_Se_start_79 rfl rfl ?_
    refine z_getR (ci := 1) (j := 0) rfl (by decide) zf_Se_12 d_Se_start_80 E (fun v13 _ E => ?_)
    obtain ⟨g15, v17, h14, e16, E⟩ := cI_some E
    refine z_invV (ci := 0) (y := y_Gr_count) (Mc := M_Gr_count) (av := []) (rest := [.int x6]) rfl rfl ⟨zt_376, zt_311, zt_312, zt_49⟩ zk_Gr_count zy_Gr_count (by decide) (Nat.le_of_ble_eq_true rfl) z00 rfl (Nat.le_of_ble_eq_true rfl) d_Se_start_83 g15 (m_Gr_count e16) ?_
    show Z X M_Se_start 0 0 h14 86 [(0, .ref x0), (3, .ref x3), (6, .int x6)] [.int v17, .int x6]
    refine z_ic_ge (tgt := 114) d_Se_start_86 (by decide) E (fun E => ?_) (fun E => ?_)
    · refine z_aload_n 0 d_Se_start_114 rfl rfl ?_
      refine z_aload_n 1 d_Se_start_115 rfl rfl ?_
      refine z_bipush (v := (63 : Int32)) d_Se_start_116 (by decide) ?_
      refine z_iconst (v := (1 : Int32)) d_Se_start_118 (by decide) ?_
      obtain ⟨g19, v21, h18, e20, E⟩ := cI_some E
      refine z_invV (ci := 1) (y := y_Se_narrow) (Mc := M_Se_narrow) (av := [.ref x3, .int (63 : Int32), .int (1 : Int32)]) (rest := []) rfl rfl ⟨zt_418, zt_420, zt_9, zt_50⟩ zk_Se_narrow zy_Se_narrow (by decide) (Nat.le_of_ble_eq_true rfl) z00 rfl (Nat.le_of_ble_eq_true rfl) d_Se_start_119 g19 (m_Se_narrow e20) ?_
      show Z X M_Se_start 0 0 h18 122 [(0, .ref x0), (3, .ref x3), (6, .int x6)] [.int v21]
      exact z_zreturn hQ rfl z00 d_Se_start_122 E
    · refine z_aload_n 0 d_Se_start_89 rfl rfl ?_
      refine z_aload_n 1 d_Se_start_90 rfl rfl ?_
      refine z_aload_n 0 d_Se_start_91 rfl rfl ?_
      refine z_getR (ci := 1) (j := 0) rfl (by decide) zf_Se_12 d_Se_start_92 E (fun v22 _ E => ?_)
      refine z_iload 2 d_Se_start_95 rfl ?_
      obtain ⟨g24, v26, h23, e25, E⟩ := cI_some E
      refine z_invV (ci := 0) (y := y_Gr_at) (Mc := M_Gr_at) (av := [.int x6]) (rest := [.ref x3, .ref x0]) rfl rfl ⟨zt_377, zt_285, zt_286, zt_49⟩ zk_Gr_at zy_Gr_at (by decide) (Nat.le_of_ble_eq_true rfl) z00 rfl (Nat.le_of_ble_eq_true rfl) d_Se_start_97 g24 (m_Gr_at e25) ?_
      show Z X M_Se_start 0 0 h23 100 [(0, .ref x0), (3, .ref x3), (6, .int x6)] [.int v26, .ref x3, .ref x0]
      obtain ⟨g28, v30, h27, e29, E⟩ := cI_some E
      refine z_invV (ci := 1) (y := y_Se_takeIn) (Mc := M_Se_takeIn) (av := [.ref x3, .int v26]) (rest := []) rfl rfl ⟨zt_397, zt_399, zt_6, zt_50⟩ zk_Se_takeIn zy_Se_takeIn (by decide) (Nat.le_of_ble_eq_true rfl) z00 rfl (Nat.le_of_ble_eq_true rfl) d_Se_start_100 g28 (m_Se_takeIn e29) ?_
      show Z X M_Se_start 0 0 h27 103 [(0, .ref x0), (3, .ref x3), (6, .int x6)] [.int v30]
      refine z_if_ne (y := 0) (tgt := 108) d_Se_start_103 (by decide) E (fun E => ?_) (fun E => ?_)
      · refine z_iinc (v := (x6 + 1)) (lv2 := [(6, .int (x6 + 1)), (0, .ref x0), (3, .ref x3)]) 2 d_Se_start_108 rfl rfl (Nat.le_of_ble_eq_true rfl) rfl ?_
        refine z_goto (tgt := 77) d_Se_start_111 (by decide) ?_
        refine z_lv [1, 2, 0] rfl ?_
        exact ih x0 x3 (x6 + 1) h27 E
      · refine z_iconst (v := (0 : Int32)) d_Se_start_106 (by decide) ?_
        exact z_zreturn hQ rfl z00 d_Se_start_107 E
set_option maxRecDepth 100000 in
set_option maxHeartbeats 4000000 in
theorem w_Se_start_b34 {X : zX} {r : pR} {G : Nat} (hQ : zQ X r) : ∀ (F : Nat) (x0 : Nat) (x1 : Int64) (x3 : Nat) (x4 : Int64) (x6 : Int32) (h : pH), f_Se_start_b34 G F x0 x1 x3 x4 x6 h = some r → Z X M_Se_start 0 0 h 34 [(0, .ref x0), (1, .long x1), (3, .ref x3), (4, .long x4), (6, .int x6)] [] := by
  intro F
  induction F with
  | zero => intro x0 x1 x3 x4 x6 h E; exact nomatch (show (none : Option pR) = some _ from E)
  | succ F ih =>
    intro x0 x1 x3 x4 x6 h E
    rw [f_Se_start_b34_eq] at E
    refine z_iload 4 d_Se_start_34 rfl ?_
    refine z_bipush (v := (6 : Int32)) d_Se_start_36 (by decide) ?_
    refine z_ic_ge (tgt := 69) d_Se_start_38 (by decide) E (fun E => ?_) (fun E => ?_)
    · refine z_aload_n 0 d_Se_start_69 rfl rfl ?_
      refine z_iconst (v := (0 : Int32)) d_Se_start_70 (by decide) ?_
      refine z_putI (ci := 1) (j := 3) rfl (by decide) zf_Se_26 rfl rfl d_Se_start_71 E (fun h8 _ E => ?_)
      refine z_iconst (v := (0 : Int32)) d_Se_start_74 (by decide) ?_
      refine z_istore (lv2 := [(6, .int (0 : Int32)), (0, .ref x0), (1, .long x1), (3, .ref x3), (4, .long x4)]) d_Se_start_75 (Nat.le_of_ble_eq_true rfl) rfl ?_
      refine z_lv [1, 3, 0] rfl ?_
      exact (w_Se_start_b77 hQ G) x0 x3 (0 : Int32) h8 E
    · refine z_aload_n 2 d_Se_start_41 rfl rfl ?_
      refine z_iload 4 d_Se_start_42 rfl ?_
      refine z_lload 3 d_Se_start_44 rfl ?_
      refine z_bipush (v := (40 : Int32)) d_Se_start_46 (by decide) ?_
      refine z_iload 4 d_Se_start_48 rfl ?_
      refine z_iadd d_Se_start_50 ?_
      obtain ⟨g10, v12, h9, e11, E⟩ := cI_some E
      refine z_invSN (y := y_Mg_isIn) (Mc := M_Mg_isIn) (av := [.long x4, .int ((40 : Int32) + x6)]) (rest := [.int x6, .ref x3]) ⟨(List.mem_of_getElem? (i := 10) rfl), zt_395, zt_48⟩ zk_Mg_isIn zy_Mg_isIn (by decide) (Nat.le_of_ble_eq_true rfl) z00 rfl (Nat.le_of_ble_eq_true rfl) d_Se_start_51 (m_Mg_isIn e11) ?_
      show Z X M_Se_start 0 0 h9 54 [(0, .ref x0), (1, .long x1), (3, .ref x3), (4, .long x4), (6, .int x6)] [.int v12, .int x6, .ref x3]
      refine z_if_eq (y := 0) (tgt := 61) d_Se_start_54 (by decide) E (fun E => ?_) (fun E => ?_)
      · refine z_lconst (v := (0 : Int64)) d_Se_start_61 (by decide) ?_
        exact (w_Se_start_b62 hQ ih) x0 x1 x3 x4 x6 x3 x6 (0 : Int64) h9 E
      · refine z_lload_n 1 d_Se_start_57 rfl rfl ?_
        refine z_goto (tgt := 62) d_Se_start_58 (by decide) ?_
        exact (w_Se_start_b62 hQ ih) x0 x1 x3 x4 x6 x3 x6 x1 h9 E
set_option maxRecDepth 100000 in
set_option maxHeartbeats 4000000 in
theorem w_Se_start_b31 {X : zX} {r : pR} {G : Nat} (hQ : zQ X r) : ∀ (x0 : Nat) (x1 : Int64) (x3 : Nat) (x4 : Int64) (h : pH), f_Se_start_b31 G x0 x1 x3 x4 h = some r → Z X M_Se_start 0 0 h 31 [(0, .ref x0), (1, .long x1), (3, .ref x3), (4, .long x4)] [] := by
  intro x0 x1 x3 x4 h E
  rw [f_Se_start_b31_eq] at E
  refine z_iconst (v := (0 : Int32)) d_Se_start_31 (by decide) ?_
  refine z_istore (lv2 := [(6, .int (0 : Int32)), (0, .ref x0), (1, .long x1), (3, .ref x3), (4, .long x4)]) d_Se_start_32 (Nat.le_of_ble_eq_true rfl) rfl ?_
  refine z_lv [1, 2, 3, 4, 0] rfl ?_
  exact (w_Se_start_b34 hQ G) x0 x1 x3 x4 (0 : Int32) h E
set_option maxRecDepth 100000 in
set_option maxHeartbeats 4000000 in
theorem w_Se_start_b0 {X : zX} {r : pR} {G : Nat} (hQ : zQ X r) : ∀ (x0 : Nat) (x1 : Int64) (h : pH), f_Se_start G x0 x1 h = some r → Z X M_Se_start 0 0 h 0 [(0, .ref x0), (1, .long x1)] [] := by
  intro x0 x1 h E
  rw [f_Se_start_eq] at E
  refine z_aload_n 0 d_Se_start_0 rfl rfl ?_
  refine z_getR (ci := 1) (j := 4) rfl (by decide) zf_Se_32 d_Se_start_1 E (fun v1 _ E => ?_)
  refine z_iconst (v := (0 : Int32)) d_Se_start_4 (by decide) ?_
  refine z_aaload 3 (fun _ => rfl) rfl d_Se_start_5 E (fun v2 _ E => ?_)
  refine z_astore_n (lv2 := [(3, .ref v2), (0, .ref x0), (1, .long x1)]) d_Se_start_6 rfl (Nat.le_of_ble_eq_true rfl) rfl ?_
  refine z_aload_n 1 d_Se_start_7 rfl rfl ?_
  refine z_getR (ci := 1) (j := 0) rfl (by decide) zf_Se_12 d_Se_start_8 E (fun v3 _ E => ?_)
  obtain ⟨g5, v7, h4, e6, E⟩ := cJ_some E
  refine z_invV (ci := 0) (y := y_Gr_nodes) (Mc := M_Gr_nodes) (av := []) (rest := []) rfl rfl ⟨zt_393, zt_322, zt_323, zt_49⟩ zk_Gr_nodes zy_Gr_nodes (by decide) (Nat.le_of_ble_eq_true rfl) z00 rfl (Nat.le_of_ble_eq_true rfl) d_Se_start_11 g5 (m_Gr_nodes e6) ?_
  show Z X M_Se_start 0 0 h4 14 [(3, .ref v2), (0, .ref x0), (1, .long x1)] [.long v7]
  refine z_lstore (lv2 := [(4, .long v7), (3, .ref v2), (0, .ref x0), (1, .long x1)]) d_Se_start_14 (Nat.le_of_ble_eq_true rfl) rfl ?_
  refine z_lload 0 d_Se_start_16 rfl ?_
  refine z_lconst (v := (0 : Int64)) d_Se_start_18 (by decide) ?_
  refine z_lcmp d_Se_start_19 ?_
  refine z_if_eq (y := 0) (tgt := 31) d_Se_start_20 (by decide) E (fun E => ?_) (fun E => ?_)
  · refine z_lv [2, 3, 1, 0] rfl ?_
    exact (w_Se_start_b31 hQ) x0 x1 v2 v7 h4 E
  · refine z_lload_n 3 d_Se_start_23 rfl rfl ?_
    refine z_lconst (v := (0 : Int64)) d_Se_start_24 (by decide) ?_
    refine z_lcmp d_Se_start_25 ?_
    refine z_if_ne (y := 0) (tgt := 31) d_Se_start_26 (by decide) E (fun E => ?_) (fun E => ?_)
    · refine z_lv [2, 3, 1, 0] rfl ?_
      exact (w_Se_start_b31 hQ) x0 x1 v2 v7 h4 E
    · refine z_iconst (v := (0 : Int32)) d_Se_start_29 (by decide) ?_
      exact z_zreturn hQ rfl z00 d_Se_start_30 E
theorem m_Se_start {l : Launch} {G : Nat} {x0 : Nat} {x1 : Int64} {h : pH} {r : pR} (E : f_Se_start G x0 x1 h = some r) : zMet l y_Se_start M_Se_start 0 0 [.ref x0, .long x1] h r :=
  zMet_of (by decide) rfl (Nat.le_of_ble_eq_true rfl) (fun p e s m args below meth c D0 cT => w_Se_start_b0 (X := (p, l, e, s, m, args, below, meth, c, D0, cT, h, _, 0, 0)) rfl x0 x1 h E)
def f_Se_find_b39 (G : Nat) (k40 : Nat → Nat → Int32 → pH → Option pR) (x0 : Nat) (x2 : Nat) (h : pH) : Option pR := k40 x0 x2 (0 : Int32) h
theorem f_Se_find_b39_eq (G : Nat) (k40 : Nat → Nat → Int32 → pH → Option pR) (x0 : Nat) (x2 : Nat) (h : pH) : f_Se_find_b39 G k40 x0 x2 h = (k40 x0 x2 (0 : Int32) h) := rfl
def f_Se_find_b40 (G : Nat) (x0 : Nat) (x2 : Nat) (s0 : Int32) (h : pH) : Option pR := cV (oC h x0 1) (f_Se_unmark G x0 x2 h) fun h17 => (if isZ s0 = true then some (some (.int s0), h17) else none)
theorem f_Se_find_b40_eq (G : Nat) (x0 : Nat) (x2 : Nat) (s0 : Int32) (h : pH) : f_Se_find_b40 G x0 x2 s0 h = (cV (oC h x0 1) (f_Se_unmark G x0 x2 h) fun h17 => (if isZ s0 = true then some (some (.int s0), h17) else none)) := rfl
def f_Se_find (G : Nat) (x0 : Nat) (x1 : Nat) (x2 : Nat) (x3 : Int64) (x5 : Int32) (h : pH) : Option pR := (gR h x0 1 0).bind fun v1 => cV (oC h v1 0) (f_Gr_become G v1 x1 h) fun h2 => (oZ h2 x0 1 1 x5).bind fun h5 => cV (oC h5 x0 1) (f_Se_mark G x0 x2 h5) fun h6 => cI (oC h6 x0 1) (f_Se_start G x0 x3 h6) fun v12 h9 => if v12 = 0 then ((f_Se_find_b39 G (f_Se_find_b40 G)) x0 x2 h9) else (cI (oC h9 x0 1) (f_Se_settle G 8 x0 (0 : Int32) h9) fun v16 h13 => if v16 = 0 then ((f_Se_find_b39 G (f_Se_find_b40 G)) x0 x2 h13) else ((f_Se_find_b40 G) x0 x2 (1 : Int32) h13))
theorem f_Se_find_eq (G : Nat) (x0 : Nat) (x1 : Nat) (x2 : Nat) (x3 : Int64) (x5 : Int32) (h : pH) : f_Se_find G x0 x1 x2 x3 x5 h = ((gR h x0 1 0).bind fun v1 => cV (oC h v1 0) (f_Gr_become G v1 x1 h) fun h2 => (oZ h2 x0 1 1 x5).bind fun h5 => cV (oC h5 x0 1) (f_Se_mark G x0 x2 h5) fun h6 => cI (oC h6 x0 1) (f_Se_start G x0 x3 h6) fun v12 h9 => if v12 = 0 then ((f_Se_find_b39 G (f_Se_find_b40 G)) x0 x2 h9) else (cI (oC h9 x0 1) (f_Se_settle G 8 x0 (0 : Int32) h9) fun v16 h13 => if v16 = 0 then ((f_Se_find_b39 G (f_Se_find_b40 G)) x0 x2 h13) else ((f_Se_find_b40 G) x0 x2 (1 : Int32) h13))) := rfl
set_option maxRecDepth 100000 in
set_option maxHeartbeats 4000000 in
theorem w_Se_find_b39 {X : zX} {r : pR} {G : Nat} {k40 : Nat → Nat → Int32 → pH → Option pR} (hQ : zQ X r) (hk40 : ∀ (x0 : Nat) (x2 : Nat) (s0 : Int32) (h : pH), k40 x0 x2 s0 h = some r → Z X M_Se_find 0 0 h 40 [(0, .ref x0), (2, .ref x2)] [.int s0]) : ∀ (x0 : Nat) (x2 : Nat) (h : pH), f_Se_find_b39 G k40 x0 x2 h = some r → Z X M_Se_find 0 0 h 39 [(0, .ref x0), (2, .ref x2)] [] := by
  intro x0 x2 h E
  rw [f_Se_find_b39_eq] at E
  refine z_iconst (v := (0 : Int32)) d_Se_find_39 (by decide) ?_
  exact hk40 x0 x2 (0 : Int32) h E
set_option maxRecDepth 100000 in
set_option maxHeartbeats 4000000 in
theorem w_Se_find_b40 {X : zX} {r : pR} {G : Nat} (hQ : zQ X r) : ∀ (x0 : Nat) (x2 : Nat) (s0 : Int32) (h : pH), f_Se_find_b40 G x0 x2 s0 h = some r → Z X M_Se_find 0 0 h 40 [(0, .ref x0), (2, .ref x2)] [.int s0] := by
  intro x0 x2 s0 h E
  rw [f_Se_find_b40_eq] at E
  refine z_istore (lv2 := [(6, .int s0), (0, .ref x0), (2, .ref x2)]) d_Se_find_40 (Nat.le_of_ble_eq_true rfl) rfl ?_
  refine z_aload_n 1 d_Se_find_42 rfl rfl ?_
  refine z_aload_n 2 d_Se_find_43 rfl rfl ?_
  obtain ⟨g18, h17, e19, E⟩ := cV_some E
  refine z_invV (ci := 1) (y := y_Se_unmark) (Mc := M_Se_unmark) (av := [.ref x2]) (rest := []) rfl rfl ⟨zt_449, zt_451, zt_14, zt_50⟩ zk_Se_unmark zy_Se_unmark (by decide) (Nat.le_of_ble_eq_true rfl) z00 rfl (Nat.le_of_ble_eq_true rfl) d_Se_find_44 g18 (m_Se_unmark e19) ?_
  show Z X M_Se_find 0 0 h17 47 [(6, .int s0), (0, .ref x0), (2, .ref x2)] []
  refine z_iload 0 d_Se_find_47 rfl ?_
  exact z_zreturn hQ rfl z00 d_Se_find_49 E
set_option maxRecDepth 100000 in
set_option maxHeartbeats 4000000 in
theorem w_Se_find_b0 {X : zX} {r : pR} {G : Nat} (hQ : zQ X r) : ∀ (x0 : Nat) (x1 : Nat) (x2 : Nat) (x3 : Int64) (x5 : Int32) (h : pH), f_Se_find G x0 x1 x2 x3 x5 h = some r → Z X M_Se_find 0 0 h 0 [(0, .ref x0), (1, .ref x1), (2, .ref x2), (3, .long x3), (5, .int x5)] [] := by
  intro x0 x1 x2 x3 x5 h E
  rw [f_Se_find_eq] at E
  refine z_aload_n 0 d_Se_find_0 rfl rfl ?_
  refine z_getR (ci := 1) (j := 0) rfl (by decide) zf_Se_12 d_Se_find_1 E (fun v1 _ E => ?_)
  refine z_aload_n 1 d_Se_find_4 rfl rfl ?_
  obtain ⟨g3, h2, e4, E⟩ := cV_some E
  refine z_invV (ci := 0) (y := y_Gr_become) (Mc := M_Gr_become) (av := [.ref x1]) (rest := []) rfl rfl ⟨zt_371, zt_307, zt_308, zt_49⟩ zk_Gr_become zy_Gr_become (by decide) (Nat.le_of_ble_eq_true rfl) z00 rfl (Nat.le_of_ble_eq_true rfl) d_Se_find_5 g3 (m_Gr_become e4) ?_
  show Z X M_Se_find 0 0 h2 8 [(0, .ref x0), (1, .ref x1), (2, .ref x2), (3, .long x3), (5, .int x5)] []
  refine z_aload_n 0 d_Se_find_8 rfl rfl ?_
  refine z_iload 4 d_Se_find_9 rfl ?_
  refine z_putZ (ci := 1) (j := 1) rfl (by decide) zf_Se_18 rfl rfl d_Se_find_11 E (fun h5 _ E => ?_)
  refine z_aload_n 0 d_Se_find_14 rfl rfl ?_
  refine z_aload_n 2 d_Se_find_15 rfl rfl ?_
  obtain ⟨g7, h6, e8, E⟩ := cV_some E
  refine z_invV (ci := 1) (y := y_Se_mark) (Mc := M_Se_mark) (av := [.ref x2]) (rest := []) rfl rfl ⟨zt_372, zt_374, zt_4, zt_50⟩ zk_Se_mark zy_Se_mark (by decide) (Nat.le_of_ble_eq_true rfl) z00 rfl (Nat.le_of_ble_eq_true rfl) d_Se_find_16 g7 (m_Se_mark e8) ?_
  show Z X M_Se_find 0 0 h6 19 [(0, .ref x0), (1, .ref x1), (2, .ref x2), (3, .long x3), (5, .int x5)] []
  refine z_aload_n 0 d_Se_find_19 rfl rfl ?_
  refine z_lload_n 3 d_Se_find_20 rfl rfl ?_
  obtain ⟨g10, v12, h9, e11, E⟩ := cI_some E
  refine z_invV (ci := 1) (y := y_Se_start) (Mc := M_Se_start) (av := [.long x3]) (rest := []) rfl rfl ⟨zt_389, zt_391, zt_5, zt_50⟩ zk_Se_start zy_Se_start (by decide) (Nat.le_of_ble_eq_true rfl) z00 rfl (Nat.le_of_ble_eq_true rfl) d_Se_find_21 g10 (m_Se_start e11) ?_
  show Z X M_Se_find 0 0 h9 24 [(0, .ref x0), (1, .ref x1), (2, .ref x2), (3, .long x3), (5, .int x5)] [.int v12]
  refine z_if_eq (y := 0) (tgt := 39) d_Se_find_24 (by decide) E (fun E => ?_) (fun E => ?_)
  · refine z_lv [0, 2] rfl ?_
    exact (w_Se_find_b39 hQ (w_Se_find_b40 hQ)) x0 x2 h9 E
  · refine z_aload_n 0 d_Se_find_27 rfl rfl ?_
    refine z_iconst (v := (0 : Int32)) d_Se_find_28 (by decide) ?_
    obtain ⟨g14, v16, h13, e15, E⟩ := cI_some E
    refine z_invV (ci := 1) (y := y_Se_settle) (Mc := (M_Se_settle 8)) (av := [.int (0 : Int32)]) (rest := []) rfl rfl ⟨zt_437, zt_439, zt_11, zt_50⟩ (zk_Se_settle _) zy_Se_settle (by decide) (Nat.le_of_ble_eq_true rfl) z00 rfl (Nat.le_of_ble_eq_true rfl) d_Se_find_29 g14 (m_Se_settle e15) ?_
    show Z X M_Se_find 0 0 h13 32 [(0, .ref x0), (1, .ref x1), (2, .ref x2), (3, .long x3), (5, .int x5)] [.int v16]
    refine z_if_eq (y := 0) (tgt := 39) d_Se_find_32 (by decide) E (fun E => ?_) (fun E => ?_)
    · refine z_lv [0, 2] rfl ?_
      exact (w_Se_find_b39 hQ (w_Se_find_b40 hQ)) x0 x2 h13 E
    · refine z_iconst (v := (1 : Int32)) d_Se_find_35 (by decide) ?_
      refine z_goto (tgt := 40) d_Se_find_36 (by decide) ?_
      refine z_lv [0, 2] rfl ?_
      exact (w_Se_find_b40 hQ) x0 x2 (1 : Int32) h13 E
theorem m_Se_find {l : Launch} {G : Nat} {x0 : Nat} {x1 : Nat} {x2 : Nat} {x3 : Int64} {x5 : Int32} {h : pH} {r : pR} (E : f_Se_find G x0 x1 x2 x3 x5 h = some r) : zMet l y_Se_find M_Se_find 0 0 [.ref x0, .ref x1, .ref x2, .long x3, .int x5] h r :=
  zMet_of (by decide) rfl (Nat.le_of_ble_eq_true rfl) (fun p e s m args below meth c D0 cT => w_Se_find_b0 (X := (p, l, e, s, m, args, below, meth, c, D0, cT, h, _, 0, 0)) rfl x0 x1 x2 x3 x5 h E)

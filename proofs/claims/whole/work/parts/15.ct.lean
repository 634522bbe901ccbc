def y_Gr_init : MethodName := ⟨"MergeGraphs$Graph", "<init>", "()V"⟩
abbrev M_Gr_init : zM := (nR0, prog_3_method_1_code, 1, none, 1)
set_option maxRecDepth 100000 in
theorem zk_Gr_init : Cond.code y_Gr_init (M_Gr_init).2.1 (M_Gr_init).2.2.1 (M_Gr_init).2.2.2.1 ∈ zTg := zmem 72 rfl rfl
theorem zy_Gr_init : (y_Gr_init).cls ≠ "java/lang/invoke/MethodHandle" ∧ (y_Gr_init).cls ≠ "java/lang/invoke/VarHandle" ∧ (parseMethodDescriptor (y_Gr_init).desc).map (fun d => d.parameters.length) = some 0 := by decide +kernel
theorem d_Gr_init_0 : decode prog_3_method_1_code 0 = .ok (.aload_n 0, 1) := by decide +kernel
theorem d_Gr_init_1 : decode prog_3_method_1_code 1 = .ok (.invokespecial 3, 3) := by decide +kernel
theorem d_Gr_init_4 : decode prog_3_method_1_code 4 = .ok (.aload_n 0, 1) := by decide +kernel
theorem d_Gr_init_5 : decode prog_3_method_1_code 5 = .ok (.bipush 30, 2) := by decide +kernel
theorem d_Gr_init_7 : decode prog_3_method_1_code 7 = .ok (.newarray .int, 2) := by decide +kernel
theorem d_Gr_init_9 : decode prog_3_method_1_code 9 = .ok (.putfield 9, 3) := by decide +kernel
theorem d_Gr_init_12 : decode prog_3_method_1_code 12 = .ok (.aload_n 0, 1) := by decide +kernel
theorem d_Gr_init_13 : decode prog_3_method_1_code 13 = .ok (.iconst 0, 1) := by decide +kernel
theorem d_Gr_init_14 : decode prog_3_method_1_code 14 = .ok (.putfield 15, 3) := by decide +kernel
theorem d_Gr_init_17 : decode prog_3_method_1_code 17 = .ok (.return_, 1) := by decide +kernel
theorem zt_73 : (Cond.methodLink "MergeGraphs$Graph" (3 : Nat) (⟨"java/lang/Object", "<init>", "()V"⟩ : MethodName)) ∈ zTg := zmem 73 (by decide +kernel) (by decide +kernel)
theorem zt_81 : (Cond.arrayClass FieldType.int) ∈ zTg := zmem 81 (by decide +kernel) (by decide +kernel)
theorem zt_117 : (Cond.arrayClass FieldType.long) ∈ zTg := zmem 117 (by decide +kernel) (by decide +kernel)
def y_Se_init : MethodName := ⟨"MergeGraphs$Search", "<init>", "()V"⟩
abbrev M_Se_init : zM := (nR1, prog_4_method_1_code, 1, none, 2)
set_option maxRecDepth 100000 in
theorem zk_Se_init : Cond.code y_Se_init (M_Se_init).2.1 (M_Se_init).2.2.1 (M_Se_init).2.2.2.1 ∈ zTg := zmem 86 rfl rfl
theorem zy_Se_init : (y_Se_init).cls ≠ "java/lang/invoke/MethodHandle" ∧ (y_Se_init).cls ≠ "java/lang/invoke/VarHandle" ∧ (parseMethodDescriptor (y_Se_init).desc).map (fun d => d.parameters.length) = some 0 := by decide +kernel
theorem d_Se_init_0 : decode prog_4_method_1_code 0 = .ok (.aload_n 0, 1) := by decide +kernel
theorem d_Se_init_1 : decode prog_4_method_1_code 1 = .ok (.invokespecial 3, 3) := by decide +kernel
theorem d_Se_init_4 : decode prog_4_method_1_code 4 = .ok (.aload_n 0, 1) := by decide +kernel
theorem d_Se_init_5 : decode prog_4_method_1_code 5 = .ok (.new 9, 3) := by decide +kernel
theorem d_Se_init_8 : decode prog_4_method_1_code 8 = .ok (.dup, 1) := by decide +kernel
theorem d_Se_init_9 : decode prog_4_method_1_code 9 = .ok (.invokespecial 11, 3) := by decide +kernel
theorem d_Se_init_12 : decode prog_4_method_1_code 12 = .ok (.putfield 12, 3) := by decide +kernel
theorem d_Se_init_15 : decode prog_4_method_1_code 15 = .ok (.aload_n 0, 1) := by decide +kernel
theorem d_Se_init_16 : decode prog_4_method_1_code 16 = .ok (.iconst 0, 1) := by decide +kernel
theorem d_Se_init_17 : decode prog_4_method_1_code 17 = .ok (.putfield 18, 3) := by decide +kernel
theorem d_Se_init_20 : decode prog_4_method_1_code 20 = .ok (.aload_n 0, 1) := by decide +kernel
theorem d_Se_init_21 : decode prog_4_method_1_code 21 = .ok (.bipush 30, 2) := by decide +kernel
theorem d_Se_init_23 : decode prog_4_method_1_code 23 = .ok (.newarray .int, 2) := by decide +kernel
theorem d_Se_init_25 : decode prog_4_method_1_code 25 = .ok (.putfield 22, 3) := by decide +kernel
theorem d_Se_init_28 : decode prog_4_method_1_code 28 = .ok (.aload_n 0, 1) := by decide +kernel
theorem d_Se_init_29 : decode prog_4_method_1_code 29 = .ok (.iconst 0, 1) := by decide +kernel
theorem d_Se_init_30 : decode prog_4_method_1_code 30 = .ok (.putfield 26, 3) := by decide +kernel
theorem d_Se_init_33 : decode prog_4_method_1_code 33 = .ok (.aload_n 0, 1) := by decide +kernel
theorem d_Se_init_34 : decode prog_4_method_1_code 34 = .ok (.bipush 7, 2) := by decide +kernel
theorem d_Se_init_36 : decode prog_4_method_1_code 36 = .ok (.bipush 6, 2) := by decide +kernel
theorem d_Se_init_38 : decode prog_4_method_1_code 38 = .ok (.multianewarray 30 2, 4) := by decide +kernel
theorem d_Se_init_42 : decode prog_4_method_1_code 42 = .ok (.putfield 32, 3) := by decide +kernel
theorem d_Se_init_45 : decode prog_4_method_1_code 45 = .ok (.aload_n 0, 1) := by decide +kernel
theorem d_Se_init_46 : decode prog_4_method_1_code 46 = .ok (.sipush 1840, 3) := by decide +kernel
theorem d_Se_init_49 : decode prog_4_method_1_code 49 = .ok (.newarray .long, 2) := by decide +kernel
theorem d_Se_init_51 : decode prog_4_method_1_code 51 = .ok (.putfield 35, 3) := by decide +kernel
theorem d_Se_init_54 : decode prog_4_method_1_code 54 = .ok (.aload_n 0, 1) := by decide +kernel
theorem d_Se_init_55 : decode prog_4_method_1_code 55 = .ok (.sipush 1840, 3) := by decide +kernel
theorem d_Se_init_58 : decode prog_4_method_1_code 58 = .ok (.newarray .long, 2) := by decide +kernel
theorem d_Se_init_60 : decode prog_4_method_1_code 60 = .ok (.putfield 39, 3) := by decide +kernel
theorem d_Se_init_63 : decode prog_4_method_1_code 63 = .ok (.aload_n 0, 1) := by decide +kernel
theorem d_Se_init_64 : decode prog_4_method_1_code 64 = .ok (.bipush 6, 2) := by decide +kernel
theorem d_Se_init_66 : decode prog_4_method_1_code 66 = .ok (.newarray .int, 2) := by decide +kernel
theorem d_Se_init_68 : decode prog_4_method_1_code 68 = .ok (.putfield 42, 3) := by decide +kernel
theorem d_Se_init_71 : decode prog_4_method_1_code 71 = .ok (.return_, 1) := by decide +kernel
theorem zt_69 : (Cond.instantiable "MergeGraphs$Graph" (2 : Nat)) ∈ zTg := zmem 69 (by decide +kernel) (by decide +kernel)
theorem zt_71 : (Cond.instanceMethod (⟨"MergeGraphs$Graph", "<init>", "()V"⟩ : MethodName)) ∈ zTg := zmem 71 (by decide +kernel) (by decide +kernel)
theorem zt_87 : (Cond.methodLink "MergeGraphs$Search" (3 : Nat) (⟨"java/lang/Object", "<init>", "()V"⟩ : MethodName)) ∈ zTg := zmem 87 (by decide +kernel) (by decide +kernel)
theorem zt_88 : (Cond.classLink "MergeGraphs$Search" (9 : Nat) "MergeGraphs$Graph") ∈ zTg := zmem 88 (by decide +kernel) (by decide +kernel)
theorem zt_90 : (Cond.classLink "MergeGraphs$Search" (30 : Nat) "[[J") ∈ zTg := zmem 90 (by decide +kernel) (by decide +kernel)
def y_Fo_init : MethodName := ⟨"MergeGraphs$FormFinder", "<init>", "()V"⟩
abbrev M_Fo_init : zM := (nR2, prog_2_method_1_code, 1, none, 2)
set_option maxRecDepth 100000 in
theorem zk_Fo_init : Cond.code y_Fo_init (M_Fo_init).2.1 (M_Fo_init).2.2.1 (M_Fo_init).2.2.2.1 ∈ zTg := zmem 122 rfl rfl
theorem zy_Fo_init : (y_Fo_init).cls ≠ "java/lang/invoke/MethodHandle" ∧ (y_Fo_init).cls ≠ "java/lang/invoke/VarHandle" ∧ (parseMethodDescriptor (y_Fo_init).desc).map (fun d => d.parameters.length) = some 0 := by decide +kernel
theorem d_Fo_init_0 : decode prog_2_method_1_code 0 = .ok (.aload_n 0, 1) := by decide +kernel
theorem d_Fo_init_1 : decode prog_2_method_1_code 1 = .ok (.invokespecial 3, 3) := by decide +kernel
theorem d_Fo_init_4 : decode prog_2_method_1_code 4 = .ok (.aload_n 0, 1) := by decide +kernel
theorem d_Fo_init_5 : decode prog_2_method_1_code 5 = .ok (.new 9, 3) := by decide +kernel
theorem d_Fo_init_8 : decode prog_2_method_1_code 8 = .ok (.dup, 1) := by decide +kernel
theorem d_Fo_init_9 : decode prog_2_method_1_code 9 = .ok (.invokespecial 11, 3) := by decide +kernel
theorem d_Fo_init_12 : decode prog_2_method_1_code 12 = .ok (.putfield 12, 3) := by decide +kernel
theorem d_Fo_init_15 : decode prog_2_method_1_code 15 = .ok (.aload_n 0, 1) := by decide +kernel
theorem d_Fo_init_16 : decode prog_2_method_1_code 16 = .ok (.bipush 6, 2) := by decide +kernel
theorem d_Fo_init_18 : decode prog_2_method_1_code 18 = .ok (.newarray .int, 2) := by decide +kernel
theorem d_Fo_init_20 : decode prog_2_method_1_code 20 = .ok (.putfield 18, 3) := by decide +kernel
theorem d_Fo_init_23 : decode prog_2_method_1_code 23 = .ok (.aload_n 0, 1) := by decide +kernel
theorem d_Fo_init_24 : decode prog_2_method_1_code 24 = .ok (.bipush 30, 2) := by decide +kernel
theorem d_Fo_init_26 : decode prog_2_method_1_code 26 = .ok (.newarray .int, 2) := by decide +kernel
theorem d_Fo_init_28 : decode prog_2_method_1_code 28 = .ok (.putfield 22, 3) := by decide +kernel
theorem d_Fo_init_31 : decode prog_2_method_1_code 31 = .ok (.aload_n 0, 1) := by decide +kernel
theorem d_Fo_init_32 : decode prog_2_method_1_code 32 = .ok (.bipush 30, 2) := by decide +kernel
theorem d_Fo_init_34 : decode prog_2_method_1_code 34 = .ok (.newarray .int, 2) := by decide +kernel
theorem d_Fo_init_36 : decode prog_2_method_1_code 36 = .ok (.putfield 25, 3) := by decide +kernel
theorem d_Fo_init_39 : decode prog_2_method_1_code 39 = .ok (.aload_n 0, 1) := by decide +kernel
theorem d_Fo_init_40 : decode prog_2_method_1_code 40 = .ok (.iconst 0, 1) := by decide +kernel
theorem d_Fo_init_41 : decode prog_2_method_1_code 41 = .ok (.putfield 28, 3) := by decide +kernel
theorem d_Fo_init_44 : decode prog_2_method_1_code 44 = .ok (.aload_n 0, 1) := by decide +kernel
theorem d_Fo_init_45 : decode prog_2_method_1_code 45 = .ok (.bipush 6, 2) := by decide +kernel
theorem d_Fo_init_47 : decode prog_2_method_1_code 47 = .ok (.newarray .int, 2) := by decide +kernel
theorem d_Fo_init_49 : decode prog_2_method_1_code 49 = .ok (.putfield 32, 3) := by decide +kernel
theorem d_Fo_init_52 : decode prog_2_method_1_code 52 = .ok (.return_, 1) := by decide +kernel
theorem zt_123 : (Cond.methodLink "MergeGraphs$FormFinder" (3 : Nat) (⟨"java/lang/Object", "<init>", "()V"⟩ : MethodName)) ∈ zTg := zmem 123 (by decide +kernel) (by decide +kernel)
theorem zt_124 : (Cond.classLink "MergeGraphs$FormFinder" (9 : Nat) "MergeGraphs$Graph") ∈ zTg := zmem 124 (by decide +kernel) (by decide +kernel)
def y_Mg_init : MethodName := ⟨"MergeGraphs", "<init>", "()V"⟩
abbrev M_Mg_init : zM := (nR3, prog_1_method_1_code, 2, none, 3)
set_option maxRecDepth 100000 in
theorem zk_Mg_init : Cond.code y_Mg_init (M_Mg_init).2.1 (M_Mg_init).2.2.1 (M_Mg_init).2.2.2.1 ∈ zTg := zmem 63 rfl rfl
theorem zy_Mg_init : (y_Mg_init).cls ≠ "java/lang/invoke/MethodHandle" ∧ (y_Mg_init).cls ≠ "java/lang/invoke/VarHandle" ∧ (parseMethodDescriptor (y_Mg_init).desc).map (fun d => d.parameters.length) = some 0 := by decide +kernel
theorem d_Mg_init_0 : decode prog_1_method_1_code 0 = .ok (.aload_n 0, 1) := by decide +kernel
theorem d_Mg_init_1 : decode prog_1_method_1_code 1 = .ok (.invokespecial 3, 3) := by decide +kernel
theorem d_Mg_init_4 : decode prog_1_method_1_code 4 = .ok (.aload_n 0, 1) := by decide +kernel
theorem d_Mg_init_5 : decode prog_1_method_1_code 5 = .ok (.bipush 6, 2) := by decide +kernel
theorem d_Mg_init_7 : decode prog_1_method_1_code 7 = .ok (.anewarray 9, 3) := by decide +kernel
theorem d_Mg_init_10 : decode prog_1_method_1_code 10 = .ok (.putfield 11, 3) := by decide +kernel
theorem d_Mg_init_13 : decode prog_1_method_1_code 13 = .ok (.aload_n 0, 1) := by decide +kernel
theorem d_Mg_init_14 : decode prog_1_method_1_code 14 = .ok (.new 9, 3) := by decide +kernel
theorem d_Mg_init_17 : decode prog_1_method_1_code 17 = .ok (.dup, 1) := by decide +kernel
theorem d_Mg_init_18 : decode prog_1_method_1_code 18 = .ok (.invokespecial 15, 3) := by decide +kernel
theorem d_Mg_init_21 : decode prog_1_method_1_code 21 = .ok (.putfield 16, 3) := by decide +kernel
theorem d_Mg_init_24 : decode prog_1_method_1_code 24 = .ok (.aload_n 0, 1) := by decide +kernel
theorem d_Mg_init_25 : decode prog_1_method_1_code 25 = .ok (.new 9, 3) := by decide +kernel
theorem d_Mg_init_28 : decode prog_1_method_1_code 28 = .ok (.dup, 1) := by decide +kernel
theorem d_Mg_init_29 : decode prog_1_method_1_code 29 = .ok (.invokespecial 15, 3) := by decide +kernel
theorem d_Mg_init_32 : decode prog_1_method_1_code 32 = .ok (.putfield 20, 3) := by decide +kernel
theorem d_Mg_init_35 : decode prog_1_method_1_code 35 = .ok (.aload_n 0, 1) := by decide +kernel
theorem d_Mg_init_36 : decode prog_1_method_1_code 36 = .ok (.new 9, 3) := by decide +kernel
theorem d_Mg_init_39 : decode prog_1_method_1_code 39 = .ok (.dup, 1) := by decide +kernel
theorem d_Mg_init_40 : decode prog_1_method_1_code 40 = .ok (.invokespecial 15, 3) := by decide +kernel
theorem d_Mg_init_43 : decode prog_1_method_1_code 43 = .ok (.putfield 23, 3) := by decide +kernel
theorem d_Mg_init_46 : decode prog_1_method_1_code 46 = .ok (.aload_n 0, 1) := by decide +kernel
theorem d_Mg_init_47 : decode prog_1_method_1_code 47 = .ok (.bipush 92, 2) := by decide +kernel
theorem d_Mg_init_49 : decode prog_1_method_1_code 49 = .ok (.newarray .int, 2) := by decide +kernel
theorem d_Mg_init_51 : decode prog_1_method_1_code 51 = .ok (.putfield 26, 3) := by decide +kernel
theorem d_Mg_init_54 : decode prog_1_method_1_code 54 = .ok (.aload_n 0, 1) := by decide +kernel
theorem d_Mg_init_55 : decode prog_1_method_1_code 55 = .ok (.iconst 0, 1) := by decide +kernel
theorem d_Mg_init_56 : decode prog_1_method_1_code 56 = .ok (.putfield 30, 3) := by decide +kernel
theorem d_Mg_init_59 : decode prog_1_method_1_code 59 = .ok (.aload_n 0, 1) := by decide +kernel
theorem d_Mg_init_60 : decode prog_1_method_1_code 60 = .ok (.bipush 6, 2) := by decide +kernel
theorem d_Mg_init_62 : decode prog_1_method_1_code 62 = .ok (.newarray .int, 2) := by decide +kernel
theorem d_Mg_init_64 : decode prog_1_method_1_code 64 = .ok (.putfield 34, 3) := by decide +kernel
theorem d_Mg_init_67 : decode prog_1_method_1_code 67 = .ok (.aload_n 0, 1) := by decide +kernel
theorem d_Mg_init_68 : decode prog_1_method_1_code 68 = .ok (.new 37, 3) := by decide +kernel
theorem d_Mg_init_71 : decode prog_1_method_1_code 71 = .ok (.dup, 1) := by decide +kernel
theorem d_Mg_init_72 : decode prog_1_method_1_code 72 = .ok (.invokespecial 39, 3) := by decide +kernel
theorem d_Mg_init_75 : decode prog_1_method_1_code 75 = .ok (.putfield 40, 3) := by decide +kernel
theorem d_Mg_init_78 : decode prog_1_method_1_code 78 = .ok (.aload_n 0, 1) := by decide +kernel
theorem d_Mg_init_79 : decode prog_1_method_1_code 79 = .ok (.new 44, 3) := by decide +kernel
theorem d_Mg_init_82 : decode prog_1_method_1_code 82 = .ok (.dup, 1) := by decide +kernel
theorem d_Mg_init_83 : decode prog_1_method_1_code 83 = .ok (.invokespecial 46, 3) := by decide +kernel
theorem d_Mg_init_86 : decode prog_1_method_1_code 86 = .ok (.putfield 47, 3) := by decide +kernel
theorem d_Mg_init_89 : decode prog_1_method_1_code 89 = .ok (.iconst 0, 1) := by decide +kernel
theorem d_Mg_init_90 : decode prog_1_method_1_code 90 = .ok (.istore_n 1, 1) := by decide +kernel
theorem d_Mg_init_91 : decode prog_1_method_1_code 91 = .ok (.iload_n 1, 1) := by decide +kernel
theorem d_Mg_init_92 : decode prog_1_method_1_code 92 = .ok (.bipush 6, 2) := by decide +kernel
theorem d_Mg_init_94 : decode prog_1_method_1_code 94 = .ok (.if_icmp .ge 22, 3) := by decide +kernel
theorem d_Mg_init_97 : decode prog_1_method_1_code 97 = .ok (.aload_n 0, 1) := by decide +kernel
theorem d_Mg_init_98 : decode prog_1_method_1_code 98 = .ok (.getfield 11, 3) := by decide +kernel
theorem d_Mg_init_101 : decode prog_1_method_1_code 101 = .ok (.iload_n 1, 1) := by decide +kernel
theorem d_Mg_init_102 : decode prog_1_method_1_code 102 = .ok (.new 9, 3) := by decide +kernel
theorem d_Mg_init_105 : decode prog_1_method_1_code 105 = .ok (.dup, 1) := by decide +kernel
theorem d_Mg_init_106 : decode prog_1_method_1_code 106 = .ok (.invokespecial 15, 3) := by decide +kernel
theorem d_Mg_init_109 : decode prog_1_method_1_code 109 = .ok (.aastore, 1) := by decide +kernel
theorem d_Mg_init_110 : decode prog_1_method_1_code 110 = .ok (.iinc 1 1, 3) := by decide +kernel
theorem d_Mg_init_113 : decode prog_1_method_1_code 113 = .ok (.goto (-22), 3) := by decide +kernel
theorem d_Mg_init_116 : decode prog_1_method_1_code 116 = .ok (.return_, 1) := by decide +kernel
theorem zt_64 : (Cond.methodLink "MergeGraphs" (3 : Nat) (⟨"java/lang/Object", "<init>", "()V"⟩ : MethodName)) ∈ zTg := zmem 64 (by decide +kernel) (by decide +kernel)
theorem zt_67 : (Cond.classLink "MergeGraphs" (9 : Nat) "MergeGraphs$Graph") ∈ zTg := zmem 67 (by decide +kernel) (by decide +kernel)
theorem zt_82 : (Cond.classLink "MergeGraphs" (37 : Nat) "MergeGraphs$Search") ∈ zTg := zmem 82 (by decide +kernel) (by decide +kernel)
theorem zt_83 : (Cond.instantiable "MergeGraphs$Search" (8 : Nat)) ∈ zTg := zmem 83 (by decide +kernel) (by decide +kernel)
theorem zt_85 : (Cond.instanceMethod (⟨"MergeGraphs$Search", "<init>", "()V"⟩ : MethodName)) ∈ zTg := zmem 85 (by decide +kernel) (by decide +kernel)
theorem zt_118 : (Cond.classLink "MergeGraphs" (44 : Nat) "MergeGraphs$FormFinder") ∈ zTg := zmem 118 (by decide +kernel) (by decide +kernel)
theorem zt_119 : (Cond.instantiable "MergeGraphs$FormFinder" (6 : Nat)) ∈ zTg := zmem 119 (by decide +kernel) (by decide +kernel)
theorem zt_121 : (Cond.instanceMethod (⟨"MergeGraphs$FormFinder", "<init>", "()V"⟩ : MethodName)) ∈ zTg := zmem 121 (by decide +kernel) (by decide +kernel)
def y_Mo_init : MethodName := ⟨"MergeGraphsModel", "<init>", "()V"⟩
abbrev M_Mo_init : zM := (nR4, prog_6_method_1_code, 1, none, 1)
set_option maxRecDepth 100000 in
theorem zk_Mo_init : Cond.code y_Mo_init (M_Mo_init).2.1 (M_Mo_init).2.2.1 (M_Mo_init).2.2.2.1 ∈ zTg := zmem 678 rfl rfl
theorem zy_Mo_init : (y_Mo_init).cls ≠ "java/lang/invoke/MethodHandle" ∧ (y_Mo_init).cls ≠ "java/lang/invoke/VarHandle" ∧ (parseMethodDescriptor (y_Mo_init).desc).map (fun d => d.parameters.length) = some 0 := by decide +kernel
theorem d_Mo_init_0 : decode prog_6_method_1_code 0 = .ok (.aload_n 0, 1) := by decide +kernel
theorem d_Mo_init_1 : decode prog_6_method_1_code 1 = .ok (.invokespecial 1, 3) := by decide +kernel
theorem d_Mo_init_4 : decode prog_6_method_1_code 4 = .ok (.aload_n 0, 1) := by decide +kernel
theorem d_Mo_init_5 : decode prog_6_method_1_code 5 = .ok (.sipush 180, 3) := by decide +kernel
theorem d_Mo_init_8 : decode prog_6_method_1_code 8 = .ok (.newarray .int, 2) := by decide +kernel
theorem d_Mo_init_10 : decode prog_6_method_1_code 10 = .ok (.putfield 7, 3) := by decide +kernel
theorem d_Mo_init_13 : decode prog_6_method_1_code 13 = .ok (.aload_n 0, 1) := by decide +kernel
theorem d_Mo_init_14 : decode prog_6_method_1_code 14 = .ok (.bipush 6, 2) := by decide +kernel
theorem d_Mo_init_16 : decode prog_6_method_1_code 16 = .ok (.newarray .int, 2) := by decide +kernel
theorem d_Mo_init_18 : decode prog_6_method_1_code 18 = .ok (.putfield 13, 3) := by decide +kernel
theorem d_Mo_init_21 : decode prog_6_method_1_code 21 = .ok (.aload_n 0, 1) := by decide +kernel
theorem d_Mo_init_22 : decode prog_6_method_1_code 22 = .ok (.bipush 64, 2) := by decide +kernel
theorem d_Mo_init_24 : decode prog_6_method_1_code 24 = .ok (.newarray .int, 2) := by decide +kernel
theorem d_Mo_init_26 : decode prog_6_method_1_code 26 = .ok (.putfield 16, 3) := by decide +kernel
theorem d_Mo_init_29 : decode prog_6_method_1_code 29 = .ok (.aload_n 0, 1) := by decide +kernel
theorem d_Mo_init_30 : decode prog_6_method_1_code 30 = .ok (.bipush 64, 2) := by decide +kernel
theorem d_Mo_init_32 : decode prog_6_method_1_code 32 = .ok (.newarray .int, 2) := by decide +kernel
theorem d_Mo_init_34 : decode prog_6_method_1_code 34 = .ok (.putfield 19, 3) := by decide +kernel
theorem d_Mo_init_37 : decode prog_6_method_1_code 37 = .ok (.aload_n 0, 1) := by decide +kernel
theorem d_Mo_init_38 : decode prog_6_method_1_code 38 = .ok (.bipush 6, 2) := by decide +kernel
theorem d_Mo_init_40 : decode prog_6_method_1_code 40 = .ok (.newarray .int, 2) := by decide +kernel
theorem d_Mo_init_42 : decode prog_6_method_1_code 42 = .ok (.putfield 22, 3) := by decide +kernel
theorem d_Mo_init_45 : decode prog_6_method_1_code 45 = .ok (.aload_n 0, 1) := by decide +kernel
theorem d_Mo_init_46 : decode prog_6_method_1_code 46 = .ok (.bipush 46, 2) := by decide +kernel
theorem d_Mo_init_48 : decode prog_6_method_1_code 48 = .ok (.newarray .int, 2) := by decide +kernel
theorem d_Mo_init_50 : decode prog_6_method_1_code 50 = .ok (.putfield 25, 3) := by decide +kernel
theorem d_Mo_init_53 : decode prog_6_method_1_code 53 = .ok (.aload_n 0, 1) := by decide +kernel
theorem d_Mo_init_54 : decode prog_6_method_1_code 54 = .ok (.bipush 6, 2) := by decide +kernel
theorem d_Mo_init_56 : decode prog_6_method_1_code 56 = .ok (.newarray .int, 2) := by decide +kernel
theorem d_Mo_init_58 : decode prog_6_method_1_code 58 = .ok (.putfield 28, 3) := by decide +kernel
theorem d_Mo_init_61 : decode prog_6_method_1_code 61 = .ok (.aload_n 0, 1) := by decide +kernel
theorem d_Mo_init_62 : decode prog_6_method_1_code 62 = .ok (.bipush 6, 2) := by decide +kernel
theorem d_Mo_init_64 : decode prog_6_method_1_code 64 = .ok (.newarray .int, 2) := by decide +kernel
theorem d_Mo_init_66 : decode prog_6_method_1_code 66 = .ok (.putfield 31, 3) := by decide +kernel
theorem d_Mo_init_69 : decode prog_6_method_1_code 69 = .ok (.aload_n 0, 1) := by decide +kernel
theorem d_Mo_init_70 : decode prog_6_method_1_code 70 = .ok (.bipush 92, 2) := by decide +kernel
theorem d_Mo_init_72 : decode prog_6_method_1_code 72 = .ok (.newarray .int, 2) := by decide +kernel
theorem d_Mo_init_74 : decode prog_6_method_1_code 74 = .ok (.putfield 34, 3) := by decide +kernel
theorem d_Mo_init_77 : decode prog_6_method_1_code 77 = .ok (.aload_n 0, 1) := by decide +kernel
theorem d_Mo_init_78 : decode prog_6_method_1_code 78 = .ok (.bipush 92, 2) := by decide +kernel
theorem d_Mo_init_80 : decode prog_6_method_1_code 80 = .ok (.newarray .int, 2) := by decide +kernel
theorem d_Mo_init_82 : decode prog_6_method_1_code 82 = .ok (.putfield 37, 3) := by decide +kernel
theorem d_Mo_init_85 : decode prog_6_method_1_code 85 = .ok (.aload_n 0, 1) := by decide +kernel
theorem d_Mo_init_86 : decode prog_6_method_1_code 86 = .ok (.bipush 30, 2) := by decide +kernel
theorem d_Mo_init_88 : decode prog_6_method_1_code 88 = .ok (.newarray .int, 2) := by decide +kernel
theorem d_Mo_init_90 : decode prog_6_method_1_code 90 = .ok (.putfield 40, 3) := by decide +kernel
theorem d_Mo_init_93 : decode prog_6_method_1_code 93 = .ok (.aload_n 0, 1) := by decide +kernel
theorem d_Mo_init_94 : decode prog_6_method_1_code 94 = .ok (.bipush 30, 2) := by decide +kernel
theorem d_Mo_init_96 : decode prog_6_method_1_code 96 = .ok (.newarray .int, 2) := by decide +kernel
theorem d_Mo_init_98 : decode prog_6_method_1_code 98 = .ok (.putfield 43, 3) := by decide +kernel
theorem d_Mo_init_101 : decode prog_6_method_1_code 101 = .ok (.return_, 1) := by decide +kernel
theorem zt_679 : (Cond.methodLink "MergeGraphsModel" (1 : Nat) (⟨"java/lang/Object", "<init>", "()V"⟩ : MethodName)) ∈ zTg := zmem 679 (by decide +kernel) (by decide +kernel)
/-- the constructor of MergeGraphs$Graph: 1 cells of 30 slots -/
def p_Gr_init (x0 : Nat) (h : pH) (K : pR → Prop) : Prop := ∀ q1, q1 ∉ (h).1 → ∃ h3, oP (hN h q1 (.inl (0, 30, .inl (fun _ => 0)))) x0 0 0 (.ref q1) = some h3 ∧ ∃ h5, oP h3 x0 0 1 (.int (0 : Int32)) = some h5 ∧ K (none, h5)
set_option maxRecDepth 100000 in
set_option maxHeartbeats 4000000 in
theorem w_Gr_init {X : zX} {K : pR → Prop} (hQ : zQc X K) (hC : zCOK X) (hkn : zkn X 1 30) (x0 : Nat) (h : pH) (E : p_Gr_init x0 h K) : Z X M_Gr_init 0 0 h 0 [(0, .ref x0)] [] := by
  unfold p_Gr_init at E
  refine z_aload_n 0 d_Gr_init_0 rfl rfl ?_
  refine y_objInit zt_73 (Nat.le_of_ble_eq_true rfl) (Nat.le_of_ble_eq_true rfl) d_Gr_init_1 ?_
  refine z_aload_n 0 d_Gr_init_4 rfl rfl ?_
  refine z_bipush (v := (30 : Int32)) d_Gr_init_5 (by decide) ?_
  refine y_newI (N := 30) rfl (by decide) (by decide) zt_81 (zkn_le hkn (Nat.le_of_ble_eq_true rfl) (Nat.le_of_ble_eq_true rfl)) d_Gr_init_7 (fun q1 f2 => ?_)
  have E := E q1 f2
  obtain ⟨h3, e4, E⟩ := E
  refine y_putF (ci := 0) (j := 0) (ty := (.array .int)) hC rfl (by decide) zf_Gr_9 rfl rfl (by decide +kernel) rfl rfl d_Gr_init_9 e4 ?_
  refine z_aload_n 0 d_Gr_init_12 rfl rfl ?_
  refine z_iconst (v := (0 : Int32)) d_Gr_init_13 (by decide) ?_
  obtain ⟨h5, e6, E⟩ := E
  refine y_putV (ci := 0) (j := 1) (ty := .int) rfl (by decide) zf_Gr_15 rfl (by decide +kernel) rfl rfl d_Gr_init_14 e6 ?_
  exact y_return hQ rfl (zkn_le hkn (Nat.le_of_ble_eq_true rfl) (Nat.le_of_ble_eq_true rfl)) d_Gr_init_17 E
theorem m_Gr_init {l : Launch} {x0 : Nat} {h : pH} {K : pR → Prop} (E : p_Gr_init x0 h K) : zMetC l y_Gr_init M_Gr_init 1 30 [.ref x0] h K :=
  zMetC_of (by decide) rfl rfl (Nat.le_of_ble_eq_true rfl) (fun X hC hQ hkn _ => w_Gr_init hQ hC hkn x0 h E)
/-- the constructor of MergeGraphs$Search: 14 cells of 3797 slots -/
def p_Se_init (x0 : Nat) (h : pH) (K : pR → Prop) : Prop := ∀ q1, q1 ∉ (h).1 → p_Gr_init q1 (hN h q1 (.inr (0, [.null, .int 0]))) (fun rc => ∃ h3, rc = (none, h3) ∧ ∃ h4, oP h3 x0 1 0 (.ref q1) = some h4 ∧ ∃ h6, oP h4 x0 1 1 (.int (0 : Int32)) = some h6 ∧ ∀ q8, q8 ∉ (h6).1 → ∃ h10, oP (hN h6 q8 (.inl (0, 30, .inl (fun _ => 0)))) x0 1 2 (.ref q8) = some h10 ∧ ∃ h12, oP h10 x0 1 3 (.int (0 : Int32)) = some h12 ∧ ∀ (q14 : Nat) (r15 : Nat → Nat), q14 ∉ (h12).1 → (∀ i j : Nat, i < 7 → j < 7 → r15 i = r15 j → i = j) → (∀ i : Nat, i < 7 → r15 i ∉ (h12).1 ∧ r15 i ≠ q14) → ∃ h19, oP ((h12).1 ++ (List.range 7).map r15 ++ [q14], va_up (vr_up (h12).2 ((List.range 7).map r15) (.inl (1, 6, .inr (.inl (fun _ => 0))))) q14 (.inl (3, 7, .inr (.inr (.inr (.inr (fun i => if i < 7 then some (r15 i) else none))))))) x0 1 4 (.ref q14) = some h19 ∧ ∀ q21, q21 ∉ (h19).1 → ∃ h23, oP (hN h19 q21 (.inl (1, 1840, .inr (.inl (fun _ => 0))))) x0 1 5 (.ref q21) = some h23 ∧ ∀ q25, q25 ∉ (h23).1 → ∃ h27, oP (hN h23 q25 (.inl (1, 1840, .inr (.inl (fun _ => 0))))) x0 1 6 (.ref q25) = some h27 ∧ ∀ q29, q29 ∉ (h27).1 → ∃ h31, oP (hN h27 q29 (.inl (0, 6, .inl (fun _ => 0)))) x0 1 7 (.ref q29) = some h31 ∧ K (none, h31))
set_option maxRecDepth 100000 in
set_option maxHeartbeats 4000000 in
theorem w_Se_init {X : zX} {K : pR → Prop} (hQ : zQc X K) (hC : zCOK X) (hkn : zkn X 14 3797) (x0 : Nat) (h : pH) (E : p_Se_init x0 h K) : Z X M_Se_init 0 0 h 0 [(0, .ref x0)] [] := by
  unfold p_Se_init at E
  refine z_aload_n 0 d_Se_init_0 rfl rfl ?_
  refine y_objInit zt_87 (Nat.le_of_ble_eq_true rfl) (Nat.le_of_ble_eq_true rfl) d_Se_init_1 ?_
  refine z_aload_n 0 d_Se_init_4 rfl rfl ?_
  refine y_new (ci := 0) (fs := [.null, .int 0]) rfl nY0 nt0 (by decide +kernel) ⟨zt_88, zt_69, zt_49⟩ (zkn_le hkn (Nat.le_of_ble_eq_true rfl) (Nat.le_of_ble_eq_true rfl)) d_Se_init_5 (fun q1 f2 => ?_)
  have E := E q1 f2
  refine z_dup d_Se_init_8 rfl ?_
  refine y_invIN (y := y_Gr_init) (Mc := M_Gr_init) (mc1 := 1) (ms1 := 30) hC rfl rfl ⟨(List.mem_of_getElem? (i := 2) rfl), zt_71, zt_49⟩ zk_Gr_init zy_Gr_init (by decide) (Nat.le_of_ble_eq_true rfl) (zkn_le hkn (Nat.le_of_ble_eq_true rfl) (Nat.le_of_ble_eq_true rfl)) (Nat.le_of_ble_eq_true rfl) d_Se_init_9 (m_Gr_init E) (fun rc hrc => ?_)
  obtain ⟨h3, rfl, E⟩ := hrc
  show Z X M_Se_init 2 32 h3 12 [(0, .ref x0)] [.ref q1, .ref x0]
  obtain ⟨h4, e5, E⟩ := E
  refine y_putF (ci := 1) (j := 0) (ty := (.object "MergeGraphs$Graph")) hC rfl (by decide) zf_Se_12 rfl rfl (by decide +kernel) rfl rfl d_Se_init_12 e5 ?_
  refine z_aload_n 0 d_Se_init_15 rfl rfl ?_
  refine z_iconst (v := (0 : Int32)) d_Se_init_16 (by decide) ?_
  obtain ⟨h6, e7, E⟩ := E
  refine y_putV (ci := 1) (j := 1) (ty := .boolean) rfl (by decide) zf_Se_18 rfl (by decide +kernel) rfl rfl d_Se_init_17 e7 ?_
  refine z_aload_n 0 d_Se_init_20 rfl rfl ?_
  refine z_bipush (v := (30 : Int32)) d_Se_init_21 (by decide) ?_
  refine y_newI (N := 30) rfl (by decide) (by decide) zt_81 (zkn_le hkn (Nat.le_of_ble_eq_true rfl) (Nat.le_of_ble_eq_true rfl)) d_Se_init_23 (fun q8 f9 => ?_)
  have E := E q8 f9
  obtain ⟨h10, e11, E⟩ := E
  refine y_putF (ci := 1) (j := 2) (ty := (.array .int)) hC rfl (by decide) zf_Se_22 rfl rfl (by decide +kernel) rfl rfl d_Se_init_25 e11 ?_
  refine z_aload_n 0 d_Se_init_28 rfl rfl ?_
  refine z_iconst (v := (0 : Int32)) d_Se_init_29 (by decide) ?_
  obtain ⟨h12, e13, E⟩ := E
  refine y_putV (ci := 1) (j := 3) (ty := .int) rfl (by decide) zf_Se_26 rfl (by decide +kernel) rfl rfl d_Se_init_30 e13 ?_
  refine z_aload_n 0 d_Se_init_33 rfl rfl ?_
  refine z_bipush (v := (7 : Int32)) d_Se_init_34 (by decide) ?_
  refine z_bipush (v := (6 : Int32)) d_Se_init_36 (by decide) ?_
  refine y_multi (N := 7) (K := 6) hC rfl rfl (by decide) (by decide) (by decide) (by decide) zt_90 zt_117 (zkn_le hkn (Nat.le_of_ble_eq_true rfl) (Nat.le_of_ble_eq_true rfl)) d_Se_init_38 (fun q14 r15 f16 f17 f18 => ?_)
  have E := E q14 r15 f16 f17 f18
  obtain ⟨h19, e20, E⟩ := E
  refine y_putF (ci := 1) (j := 4) (ty := (.array (.array .long))) hC rfl (by decide) zf_Se_32 rfl rfl (by decide +kernel) rfl rfl d_Se_init_42 e20 ?_
  refine z_aload_n 0 d_Se_init_45 rfl rfl ?_
  refine z_sipush (v := (1840 : Int32)) d_Se_init_46 (by decide) ?_
  refine y_newJ (N := 1840) rfl (by decide) (by decide) zt_117 (zkn_le hkn (Nat.le_of_ble_eq_true rfl) (Nat.le_of_ble_eq_true rfl)) d_Se_init_49 (fun q21 f22 => ?_)
  have E := E q21 f22
  obtain ⟨h23, e24, E⟩ := E
  refine y_putF (ci := 1) (j := 5) (ty := (.array .long)) hC rfl (by decide) zf_Se_35 rfl rfl (by decide +kernel) rfl rfl d_Se_init_51 e24 ?_
  refine z_aload_n 0 d_Se_init_54 rfl rfl ?_
  refine z_sipush (v := (1840 : Int32)) d_Se_init_55 (by decide) ?_
  refine y_newJ (N := 1840) rfl (by decide) (by decide) zt_117 (zkn_le hkn (Nat.le_of_ble_eq_true rfl) (Nat.le_of_ble_eq_true rfl)) d_Se_init_58 (fun q25 f26 => ?_)
  have E := E q25 f26
  obtain ⟨h27, e28, E⟩ := E
  refine y_putF (ci := 1) (j := 6) (ty := (.array .long)) hC rfl (by decide) zf_Se_39 rfl rfl (by decide +kernel) rfl rfl d_Se_init_60 e28 ?_
  refine z_aload_n 0 d_Se_init_63 rfl rfl ?_
  refine z_bipush (v := (6 : Int32)) d_Se_init_64 (by decide) ?_
  refine y_newI (N := 6) rfl (by decide) (by decide) zt_81 (zkn_le hkn (Nat.le_of_ble_eq_true rfl) (Nat.le_of_ble_eq_true rfl)) d_Se_init_66 (fun q29 f30 => ?_)
  have E := E q29 f30
  obtain ⟨h31, e32, E⟩ := E
  refine y_putF (ci := 1) (j := 7) (ty := (.array .int)) hC rfl (by decide) zf_Se_42 rfl rfl (by decide +kernel) rfl rfl d_Se_init_68 e32 ?_
  exact y_return hQ rfl (zkn_le hkn (Nat.le_of_ble_eq_true rfl) (Nat.le_of_ble_eq_true rfl)) d_Se_init_71 E
theorem m_Se_init {l : Launch} {x0 : Nat} {h : pH} {K : pR → Prop} (E : p_Se_init x0 h K) : zMetC l y_Se_init M_Se_init 14 3797 [.ref x0] h K :=
  zMetC_of (by decide) rfl rfl (Nat.le_of_ble_eq_true rfl) (fun X hC hQ hkn _ => w_Se_init hQ hC hkn x0 h E)
/-- the constructor of MergeGraphs$FormFinder: 6 cells of 104 slots -/
def p_Fo_init (x0 : Nat) (h : pH) (K : pR → Prop) : Prop := ∀ q1, q1 ∉ (h).1 → p_Gr_init q1 (hN h q1 (.inr (0, [.null, .int 0]))) (fun rc => ∃ h3, rc = (none, h3) ∧ ∃ h4, oP h3 x0 2 0 (.ref q1) = some h4 ∧ ∀ q6, q6 ∉ (h4).1 → ∃ h8, oP (hN h4 q6 (.inl (0, 6, .inl (fun _ => 0)))) x0 2 1 (.ref q6) = some h8 ∧ ∀ q10, q10 ∉ (h8).1 → ∃ h12, oP (hN h8 q10 (.inl (0, 30, .inl (fun _ => 0)))) x0 2 2 (.ref q10) = some h12 ∧ ∀ q14, q14 ∉ (h12).1 → ∃ h16, oP (hN h12 q14 (.inl (0, 30, .inl (fun _ => 0)))) x0 2 3 (.ref q14) = some h16 ∧ ∃ h18, oP h16 x0 2 4 (.int (0 : Int32)) = some h18 ∧ ∀ q20, q20 ∉ (h18).1 → ∃ h22, oP (hN h18 q20 (.inl (0, 6, .inl (fun _ => 0)))) x0 2 5 (.ref q20) = some h22 ∧ K (none, h22))
set_option maxRecDepth 100000 in
set_option maxHeartbeats 4000000 in
theorem w_Fo_init {X : zX} {K : pR → Prop} (hQ : zQc X K) (hC : zCOK X) (hkn : zkn X 6 104) (x0 : Nat) (h : pH) (E : p_Fo_init x0 h K) : Z X M_Fo_init 0 0 h 0 [(0, .ref x0)] [] := by
  unfold p_Fo_init at E
  refine z_aload_n 0 d_Fo_init_0 rfl rfl ?_
  refine y_objInit zt_123 (Nat.le_of_ble_eq_true rfl) (Nat.le_of_ble_eq_true rfl) d_Fo_init_1 ?_
  refine z_aload_n 0 d_Fo_init_4 rfl rfl ?_
  refine y_new (ci := 0) (fs := [.null, .int 0]) rfl nY0 nt0 (by decide +kernel) ⟨zt_124, zt_69, zt_49⟩ (zkn_le hkn (Nat.le_of_ble_eq_true rfl) (Nat.le_of_ble_eq_true rfl)) d_Fo_init_5 (fun q1 f2 => ?_)
  have E := E q1 f2
  refine z_dup d_Fo_init_8 rfl ?_
  refine y_invIN (y := y_Gr_init) (Mc := M_Gr_init) (mc1 := 1) (ms1 := 30) hC rfl rfl ⟨(List.mem_of_getElem? (i := 4) rfl), zt_71, zt_49⟩ zk_Gr_init zy_Gr_init (by decide) (Nat.le_of_ble_eq_true rfl) (zkn_le hkn (Nat.le_of_ble_eq_true rfl) (Nat.le_of_ble_eq_true rfl)) (Nat.le_of_ble_eq_true rfl) d_Fo_init_9 (m_Gr_init E) (fun rc hrc => ?_)
  obtain ⟨h3, rfl, E⟩ := hrc
  show Z X M_Fo_init 2 32 h3 12 [(0, .ref x0)] [.ref q1, .ref x0]
  obtain ⟨h4, e5, E⟩ := E
  refine y_putF (ci := 2) (j := 0) (ty := (.object "MergeGraphs$Graph")) hC rfl (by decide) zf_Fo_12 rfl rfl (by decide +kernel) rfl rfl d_Fo_init_12 e5 ?_
  refine z_aload_n 0 d_Fo_init_15 rfl rfl ?_
  refine z_bipush (v := (6 : Int32)) d_Fo_init_16 (by decide) ?_
  refine y_newI (N := 6) rfl (by decide) (by decide) zt_81 (zkn_le hkn (Nat.le_of_ble_eq_true rfl) (Nat.le_of_ble_eq_true rfl)) d_Fo_init_18 (fun q6 f7 => ?_)
  have E := E q6 f7
  obtain ⟨h8, e9, E⟩ := E
  refine y_putF (ci := 2) (j := 1) (ty := (.array .int)) hC rfl (by decide) zf_Fo_18 rfl rfl (by decide +kernel) rfl rfl d_Fo_init_20 e9 ?_
  refine z_aload_n 0 d_Fo_init_23 rfl rfl ?_
  refine z_bipush (v := (30 : Int32)) d_Fo_init_24 (by decide) ?_
  refine y_newI (N := 30) rfl (by decide) (by decide) zt_81 (zkn_le hkn (Nat.le_of_ble_eq_true rfl) (Nat.le_of_ble_eq_true rfl)) d_Fo_init_26 (fun q10 f11 => ?_)
  have E := E q10 f11
  obtain ⟨h12, e13, E⟩ := E
  refine y_putF (ci := 2) (j := 2) (ty := (.array .int)) hC rfl (by decide) zf_Fo_22 rfl rfl (by decide +kernel) rfl rfl d_Fo_init_28 e13 ?_
  refine z_aload_n 0 d_Fo_init_31 rfl rfl ?_
  refine z_bipush (v := (30 : Int32)) d_Fo_init_32 (by decide) ?_
  refine y_newI (N := 30) rfl (by decide) (by decide) zt_81 (zkn_le hkn (Nat.le_of_ble_eq_true rfl) (Nat.le_of_ble_eq_true rfl)) d_Fo_init_34 (fun q14 f15 => ?_)
  have E := E q14 f15
  obtain ⟨h16, e17, E⟩ := E
  refine y_putF (ci := 2) (j := 3) (ty := (.array .int)) hC rfl (by decide) zf_Fo_25 rfl rfl (by decide +kernel) rfl rfl d_Fo_init_36 e17 ?_
  refine z_aload_n 0 d_Fo_init_39 rfl rfl ?_
  refine z_iconst (v := (0 : Int32)) d_Fo_init_40 (by decide) ?_
  obtain ⟨h18, e19, E⟩ := E
  refine y_putV (ci := 2) (j := 4) (ty := .boolean) rfl (by decide) zf_Fo_28 rfl (by decide +kernel) rfl rfl d_Fo_init_41 e19 ?_
  refine z_aload_n 0 d_Fo_init_44 rfl rfl ?_
  refine z_bipush (v := (6 : Int32)) d_Fo_init_45 (by decide) ?_
  refine y_newI (N := 6) rfl (by decide) (by decide) zt_81 (zkn_le hkn (Nat.le_of_ble_eq_true rfl) (Nat.le_of_ble_eq_true rfl)) d_Fo_init_47 (fun q20 f21 => ?_)
  have E := E q20 f21
  obtain ⟨h22, e23, E⟩ := E
  refine y_putF (ci := 2) (j := 5) (ty := (.array .int)) hC rfl (by decide) zf_Fo_32 rfl rfl (by decide +kernel) rfl rfl d_Fo_init_49 e23 ?_
  exact y_return hQ rfl (zkn_le hkn (Nat.le_of_ble_eq_true rfl) (Nat.le_of_ble_eq_true rfl)) d_Fo_init_52 E
theorem m_Fo_init {l : Launch} {x0 : Nat} {h : pH} {K : pR → Prop} (E : p_Fo_init x0 h K) : zMetC l y_Fo_init M_Fo_init 6 104 [.ref x0] h K :=
  zMetC_of (by decide) rfl rfl (Nat.le_of_ble_eq_true rfl) (fun X hC hQ hkn _ => w_Fo_init hQ hC hkn x0 h E)
/-- the constructor of MergeGraphs: 43 cells of 4307 slots -/
def p_Mg_init (x0 : Nat) (h : pH) (K : pR → Prop) : Prop := ∀ q1, q1 ∉ (h).1 → ∃ h3, oP (hN h q1 (.inl (2, 6, .inr (.inr (.inr (.inr (fun _ => none))))))) x0 3 0 (.ref q1) = some h3 ∧ ∀ q5, q5 ∉ (h3).1 → p_Gr_init q5 (hN h3 q5 (.inr (0, [.null, .int 0]))) (fun rc => ∃ h7, rc = (none, h7) ∧ ∃ h8, oP h7 x0 3 1 (.ref q5) = some h8 ∧ ∀ q10, q10 ∉ (h8).1 → p_Gr_init q10 (hN h8 q10 (.inr (0, [.null, .int 0]))) (fun rc => ∃ h12, rc = (none, h12) ∧ ∃ h13, oP h12 x0 3 2 (.ref q10) = some h13 ∧ ∀ q15, q15 ∉ (h13).1 → p_Gr_init q15 (hN h13 q15 (.inr (0, [.null, .int 0]))) (fun rc => ∃ h17, rc = (none, h17) ∧ ∃ h18, oP h17 x0 3 3 (.ref q15) = some h18 ∧ ∀ q20, q20 ∉ (h18).1 → ∃ h22, oP (hN h18 q20 (.inl (0, 92, .inl (fun _ => 0)))) x0 3 4 (.ref q20) = some h22 ∧ ∃ h24, oP h22 x0 3 5 (.int (0 : Int32)) = some h24 ∧ ∀ q26, q26 ∉ (h24).1 → ∃ h28, oP (hN h24 q26 (.inl (0, 6, .inl (fun _ => 0)))) x0 3 6 (.ref q26) = some h28 ∧ ∀ q30, q30 ∉ (h28).1 → p_Se_init q30 (hN h28 q30 (.inr (1, [.null, .int 0, .null, .int 0, .null, .null, .null, .null]))) (fun rc => ∃ h32, rc = (none, h32) ∧ ∃ h33, oP h32 x0 3 7 (.ref q30) = some h33 ∧ ∀ q35, q35 ∉ (h33).1 → p_Fo_init q35 (hN h33 q35 (.inr (2, [.null, .null, .null, .null, .int 0, .null]))) (fun rc => ∃ h37, rc = (none, h37) ∧ ∃ h38, oP h37 x0 3 8 (.ref q35) = some h38 ∧ ∃ v40, gR h38 x0 3 0 = some v40 ∧ ∀ q42, q42 ∉ (h38).1 → p_Gr_init q42 (hN h38 q42 (.inr (0, [.null, .int 0]))) (fun rc => ∃ h44, rc = (none, h44) ∧ ∃ h45, sR h44 v40 (0 : Int32) q42 = some h45 ∧ ∃ v47, gR h45 x0 3 0 = some v47 ∧ ∀ q49, q49 ∉ (h45).1 → p_Gr_init q49 (hN h45 q49 (.inr (0, [.null, .int 0]))) (fun rc => ∃ h51, rc = (none, h51) ∧ ∃ h52, sR h51 v47 (1 : Int32) q49 = some h52 ∧ ∃ v54, gR h52 x0 3 0 = some v54 ∧ ∀ q56, q56 ∉ (h52).1 → p_Gr_init q56 (hN h52 q56 (.inr (0, [.null, .int 0]))) (fun rc => ∃ h58, rc = (none, h58) ∧ ∃ h59, sR h58 v54 (2 : Int32) q56 = some h59 ∧ ∃ v61, gR h59 x0 3 0 = some v61 ∧ ∀ q63, q63 ∉ (h59).1 → p_Gr_init q63 (hN h59 q63 (.inr (0, [.null, .int 0]))) (fun rc => ∃ h65, rc = (none, h65) ∧ ∃ h66, sR h65 v61 (3 : Int32) q63 = some h66 ∧ ∃ v68, gR h66 x0 3 0 = some v68 ∧ ∀ q70, q70 ∉ (h66).1 → p_Gr_init q70 (hN h66 q70 (.inr (0, [.null, .int 0]))) (fun rc => ∃ h72, rc = (none, h72) ∧ ∃ h73, sR h72 v68 (4 : Int32) q70 = some h73 ∧ ∃ v75, gR h73 x0 3 0 = some v75 ∧ ∀ q77, q77 ∉ (h73).1 → p_Gr_init q77 (hN h73 q77 (.inr (0, [.null, .int 0]))) (fun rc => ∃ h79, rc = (none, h79) ∧ ∃ h80, sR h79 v75 (5 : Int32) q77 = some h80 ∧ K (none, h80))))))))))))
set_option maxRecDepth 100000 in
set_option maxHeartbeats 4000000 in
theorem w_Mg_init {X : zX} {K : pR → Prop} (hQ : zQc X K) (hC : zCOK X) (hkn : zkn X 43 4307) (x0 : Nat) (h : pH) (E : p_Mg_init x0 h K) : Z X M_Mg_init 0 0 h 0 [(0, .ref x0)] [] := by
  unfold p_Mg_init at E
  refine z_aload_n 0 d_Mg_init_0 rfl rfl ?_
  refine y_objInit zt_64 (Nat.le_of_ble_eq_true rfl) (Nat.le_of_ble_eq_true rfl) d_Mg_init_1 ?_
  refine z_aload_n 0 d_Mg_init_4 rfl rfl ?_
  refine z_bipush (v := (6 : Int32)) d_Mg_init_5 (by decide) ?_
  refine y_anew (N := 6) hC rfl (by decide) (by decide) zt_67 (zkn_le hkn (Nat.le_of_ble_eq_true rfl) (Nat.le_of_ble_eq_true rfl)) d_Mg_init_7 (fun q1 f2 => ?_)
  have E := E q1 f2
  obtain ⟨h3, e4, E⟩ := E
  refine y_putF (ci := 3) (j := 0) (ty := (.array (.object "MergeGraphs$Graph"))) hC rfl (by decide) zf_Mg_11 rfl rfl (by decide +kernel) rfl rfl d_Mg_init_10 e4 ?_
  refine z_aload_n 0 d_Mg_init_13 rfl rfl ?_
  refine y_new (ci := 0) (fs := [.null, .int 0]) rfl nY0 nt0 (by decide +kernel) ⟨zt_67, zt_69, zt_49⟩ (zkn_le hkn (Nat.le_of_ble_eq_true rfl) (Nat.le_of_ble_eq_true rfl)) d_Mg_init_14 (fun q5 f6 => ?_)
  have E := E q5 f6
  refine z_dup d_Mg_init_17 rfl ?_
  refine y_invIN (y := y_Gr_init) (Mc := M_Gr_init) (mc1 := 1) (ms1 := 30) hC rfl rfl ⟨(List.mem_of_getElem? (i := 0) rfl), zt_71, zt_49⟩ zk_Gr_init zy_Gr_init (by decide) (Nat.le_of_ble_eq_true rfl) (zkn_le hkn (Nat.le_of_ble_eq_true rfl) (Nat.le_of_ble_eq_true rfl)) (Nat.le_of_ble_eq_true rfl) d_Mg_init_18 (m_Gr_init E) (fun rc hrc => ?_)
  obtain ⟨h7, rfl, E⟩ := hrc
  show Z X M_Mg_init 3 38 h7 21 [(0, .ref x0)] [.ref q5, .ref x0]
  obtain ⟨h8, e9, E⟩ := E
  refine y_putF (ci := 3) (j := 1) (ty := (.object "MergeGraphs$Graph")) hC rfl (by decide) zf_Mg_16 rfl rfl (by decide +kernel) rfl rfl d_Mg_init_21 e9 ?_
  refine z_aload_n 0 d_Mg_init_24 rfl rfl ?_
  refine y_new (ci := 0) (fs := [.null, .int 0]) rfl nY0 nt0 (by decide +kernel) ⟨zt_67, zt_69, zt_49⟩ (zkn_le hkn (Nat.le_of_ble_eq_true rfl) (Nat.le_of_ble_eq_true rfl)) d_Mg_init_25 (fun q10 f11 => ?_)
  have E := E q10 f11
  refine z_dup d_Mg_init_28 rfl ?_
  refine y_invIN (y := y_Gr_init) (Mc := M_Gr_init) (mc1 := 1) (ms1 := 30) hC rfl rfl ⟨(List.mem_of_getElem? (i := 0) rfl), zt_71, zt_49⟩ zk_Gr_init zy_Gr_init (by decide) (Nat.le_of_ble_eq_true rfl) (zkn_le hkn (Nat.le_of_ble_eq_true rfl) (Nat.le_of_ble_eq_true rfl)) (Nat.le_of_ble_eq_true rfl) d_Mg_init_29 (m_Gr_init E) (fun rc hrc => ?_)
  obtain ⟨h12, rfl, E⟩ := hrc
  show Z X M_Mg_init 5 70 h12 32 [(0, .ref x0)] [.ref q10, .ref x0]
  obtain ⟨h13, e14, E⟩ := E
  refine y_putF (ci := 3) (j := 2) (ty := (.object "MergeGraphs$Graph")) hC rfl (by decide) zf_Mg_20 rfl rfl (by decide +kernel) rfl rfl d_Mg_init_32 e14 ?_
  refine z_aload_n 0 d_Mg_init_35 rfl rfl ?_
  refine y_new (ci := 0) (fs := [.null, .int 0]) rfl nY0 nt0 (by decide +kernel) ⟨zt_67, zt_69, zt_49⟩ (zkn_le hkn (Nat.le_of_ble_eq_true rfl) (Nat.le_of_ble_eq_true rfl)) d_Mg_init_36 (fun q15 f16 => ?_)
  have E := E q15 f16
  refine z_dup d_Mg_init_39 rfl ?_
  refine y_invIN (y := y_Gr_init) (Mc := M_Gr_init) (mc1 := 1) (ms1 := 30) hC rfl rfl ⟨(List.mem_of_getElem? (i := 0) rfl), zt_71, zt_49⟩ zk_Gr_init zy_Gr_init (by decide) (Nat.le_of_ble_eq_true rfl) (zkn_le hkn (Nat.le_of_ble_eq_true rfl) (Nat.le_of_ble_eq_true rfl)) (Nat.le_of_ble_eq_true rfl) d_Mg_init_40 (m_Gr_init E) (fun rc hrc => ?_)
  obtain ⟨h17, rfl, E⟩ := hrc
  show Z X M_Mg_init 7 102 h17 43 [(0, .ref x0)] [.ref q15, .ref x0]
  obtain ⟨h18, e19, E⟩ := E
  refine y_putF (ci := 3) (j := 3) (ty := (.object "MergeGraphs$Graph")) hC rfl (by decide) zf_Mg_23 rfl rfl (by decide +kernel) rfl rfl d_Mg_init_43 e19 ?_
  refine z_aload_n 0 d_Mg_init_46 rfl rfl ?_
  refine z_bipush (v := (92 : Int32)) d_Mg_init_47 (by decide) ?_
  refine y_newI (N := 92) rfl (by decide) (by decide) zt_81 (zkn_le hkn (Nat.le_of_ble_eq_true rfl) (Nat.le_of_ble_eq_true rfl)) d_Mg_init_49 (fun q20 f21 => ?_)
  have E := E q20 f21
  obtain ⟨h22, e23, E⟩ := E
  refine y_putF (ci := 3) (j := 4) (ty := (.array .int)) hC rfl (by decide) zf_Mg_26 rfl rfl (by decide +kernel) rfl rfl d_Mg_init_51 e23 ?_
  refine z_aload_n 0 d_Mg_init_54 rfl rfl ?_
  refine z_iconst (v := (0 : Int32)) d_Mg_init_55 (by decide) ?_
  obtain ⟨h24, e25, E⟩ := E
  refine y_putV (ci := 3) (j := 5) (ty := .int) rfl (by decide) zf_Mg_30 rfl (by decide +kernel) rfl rfl d_Mg_init_56 e25 ?_
  refine z_aload_n 0 d_Mg_init_59 rfl rfl ?_
  refine z_bipush (v := (6 : Int32)) d_Mg_init_60 (by decide) ?_
  refine y_newI (N := 6) rfl (by decide) (by decide) zt_81 (zkn_le hkn (Nat.le_of_ble_eq_true rfl) (Nat.le_of_ble_eq_true rfl)) d_Mg_init_62 (fun q26 f27 => ?_)
  have E := E q26 f27
  obtain ⟨h28, e29, E⟩ := E
  refine y_putF (ci := 3) (j := 6) (ty := (.array .int)) hC rfl (by decide) zf_Mg_34 rfl rfl (by decide +kernel) rfl rfl d_Mg_init_64 e29 ?_
  refine z_aload_n 0 d_Mg_init_67 rfl rfl ?_
  refine y_new (ci := 1) (fs := [.null, .int 0, .null, .int 0, .null, .null, .null, .null]) rfl nY1 nt1 (by decide +kernel) ⟨zt_82, zt_83, zt_50⟩ (zkn_le hkn (Nat.le_of_ble_eq_true rfl) (Nat.le_of_ble_eq_true rfl)) d_Mg_init_68 (fun q30 f31 => ?_)
  have E := E q30 f31
  refine z_dup d_Mg_init_71 rfl ?_
  refine y_invIN (y := y_Se_init) (Mc := M_Se_init) (mc1 := 14) (ms1 := 3797) hC rfl rfl ⟨(List.mem_of_getElem? (i := 1) rfl), zt_85, zt_50⟩ zk_Se_init zy_Se_init (by decide) (Nat.le_of_ble_eq_true rfl) (zkn_le hkn (Nat.le_of_ble_eq_true rfl) (Nat.le_of_ble_eq_true rfl)) (Nat.le_of_ble_eq_true rfl) d_Mg_init_72 (m_Se_init E) (fun rc hrc => ?_)
  obtain ⟨h32, rfl, E⟩ := hrc
  show Z X M_Mg_init 24 4005 h32 75 [(0, .ref x0)] [.ref q30, .ref x0]
  obtain ⟨h33, e34, E⟩ := E
  refine y_putF (ci := 3) (j := 7) (ty := (.object "MergeGraphs$Search")) hC rfl (by decide) zf_Mg_40 rfl rfl (by decide +kernel) rfl rfl d_Mg_init_75 e34 ?_
  refine z_aload_n 0 d_Mg_init_78 rfl rfl ?_
  refine y_new (ci := 2) (fs := [.null, .null, .null, .null, .int 0, .null]) rfl nY2 nt2 (by decide +kernel) ⟨zt_118, zt_119, zt_51⟩ (zkn_le hkn (Nat.le_of_ble_eq_true rfl) (Nat.le_of_ble_eq_true rfl)) d_Mg_init_79 (fun q35 f36 => ?_)
  have E := E q35 f36
  refine z_dup d_Mg_init_82 rfl ?_
  refine y_invIN (y := y_Fo_init) (Mc := M_Fo_init) (mc1 := 6) (ms1 := 104) hC rfl rfl ⟨(List.mem_of_getElem? (i := 3) rfl), zt_121, zt_51⟩ zk_Fo_init zy_Fo_init (by decide) (Nat.le_of_ble_eq_true rfl) (zkn_le hkn (Nat.le_of_ble_eq_true rfl) (Nat.le_of_ble_eq_true rfl)) (Nat.le_of_ble_eq_true rfl) d_Mg_init_83 (m_Fo_init E) (fun rc hrc => ?_)
  obtain ⟨h37, rfl, E⟩ := hrc
  show Z X M_Mg_init 31 4115 h37 86 [(0, .ref x0)] [.ref q35, .ref x0]
  obtain ⟨h38, e39, E⟩ := E
  refine y_putF (ci := 3) (j := 8) (ty := (.object "MergeGraphs$FormFinder")) hC rfl (by decide) zf_Mg_47 rfl rfl (by decide +kernel) rfl rfl d_Mg_init_86 e39 ?_
  refine z_iconst (v := (0 : Int32)) d_Mg_init_89 (by decide) ?_
  refine z_istore_n (lv2 := [(1, .int (0 : Int32)), (0, .ref x0)]) d_Mg_init_90 rfl (Nat.le_of_ble_eq_true rfl) rfl ?_
  refine z_iload_n 0 d_Mg_init_91 rfl rfl ?_
  refine z_bipush (v := (6 : Int32)) d_Mg_init_92 (by decide) ?_
  refine y_icge (tgt := 116) d_Mg_init_94 (by decide) (fun c9 => absurd c9 (by decide)) (fun _ => ?_)
  refine z_aload_n 1 d_Mg_init_97 rfl rfl ?_
  obtain ⟨v40, e41, E⟩ := E
  refine y_getR (ci := 3) (j := 0) rfl (by decide) zf_Mg_11 d_Mg_init_98 e41 ?_
  refine z_iload_n 0 d_Mg_init_101 rfl rfl ?_
  refine y_new (ci := 0) (fs := [.null, .int 0]) rfl nY0 nt0 (by decide +kernel) ⟨zt_67, zt_69, zt_49⟩ (zkn_le hkn (Nat.le_of_ble_eq_true rfl) (Nat.le_of_ble_eq_true rfl)) d_Mg_init_102 (fun q42 f43 => ?_)
  have E := E q42 f43
  refine z_dup d_Mg_init_105 rfl ?_
  refine y_invIN (y := y_Gr_init) (Mc := M_Gr_init) (mc1 := 1) (ms1 := 30) hC rfl rfl ⟨(List.mem_of_getElem? (i := 0) rfl), zt_71, zt_49⟩ zk_Gr_init zy_Gr_init (by decide) (Nat.le_of_ble_eq_true rfl) (zkn_le hkn (Nat.le_of_ble_eq_true rfl) (Nat.le_of_ble_eq_true rfl)) (Nat.le_of_ble_eq_true rfl) d_Mg_init_106 (m_Gr_init E) (fun rc hrc => ?_)
  obtain ⟨h44, rfl, E⟩ := hrc
  show Z X M_Mg_init 33 4147 h44 109 [(1, .int (0 : Int32)), (0, .ref x0)] [.ref q42, .int (0 : Int32), .ref v40]
  obtain ⟨h45, e46, E⟩ := E
  refine y_aastore d_Mg_init_109 e46 ?_
  refine z_iinc (v := (1 : Int32)) (lv2 := [(1, .int (1 : Int32)), (0, .ref x0)]) 0 d_Mg_init_110 rfl (by decide) (Nat.le_of_ble_eq_true rfl) rfl ?_
  refine z_goto (tgt := 91) d_Mg_init_113 (by decide) ?_
  refine z_iload_n 0 d_Mg_init_91 rfl rfl ?_
  refine z_bipush (v := (6 : Int32)) d_Mg_init_92 (by decide) ?_
  refine y_icge (tgt := 116) d_Mg_init_94 (by decide) (fun c9 => absurd c9 (by decide)) (fun _ => ?_)
  refine z_aload_n 1 d_Mg_init_97 rfl rfl ?_
  obtain ⟨v47, e48, E⟩ := E
  refine y_getR (ci := 3) (j := 0) rfl (by decide) zf_Mg_11 d_Mg_init_98 e48 ?_
  refine z_iload_n 0 d_Mg_init_101 rfl rfl ?_
  refine y_new (ci := 0) (fs := [.null, .int 0]) rfl nY0 nt0 (by decide +kernel) ⟨zt_67, zt_69, zt_49⟩ (zkn_le hkn (Nat.le_of_ble_eq_true rfl) (Nat.le_of_ble_eq_true rfl)) d_Mg_init_102 (fun q49 f50 => ?_)
  have E := E q49 f50
  refine z_dup d_Mg_init_105 rfl ?_
  refine y_invIN (y := y_Gr_init) (Mc := M_Gr_init) (mc1 := 1) (ms1 := 30) hC rfl rfl ⟨(List.mem_of_getElem? (i := 0) rfl), zt_71, zt_49⟩ zk_Gr_init zy_Gr_init (by decide) (Nat.le_of_ble_eq_true rfl) (zkn_le hkn (Nat.le_of_ble_eq_true rfl) (Nat.le_of_ble_eq_true rfl)) (Nat.le_of_ble_eq_true rfl) d_Mg_init_106 (m_Gr_init E) (fun rc hrc => ?_)
  obtain ⟨h51, rfl, E⟩ := hrc
  show Z X M_Mg_init 35 4179 h51 109 [(1, .int (1 : Int32)), (0, .ref x0)] [.ref q49, .int (1 : Int32), .ref v47]
  obtain ⟨h52, e53, E⟩ := E
  refine y_aastore d_Mg_init_109 e53 ?_
  refine z_iinc (v := (2 : Int32)) (lv2 := [(1, .int (2 : Int32)), (0, .ref x0)]) 0 d_Mg_init_110 rfl (by decide) (Nat.le_of_ble_eq_true rfl) rfl ?_
  refine z_goto (tgt := 91) d_Mg_init_113 (by decide) ?_
  refine z_iload_n 0 d_Mg_init_91 rfl rfl ?_
  refine z_bipush (v := (6 : Int32)) d_Mg_init_92 (by decide) ?_
  refine y_icge (tgt := 116) d_Mg_init_94 (by decide) (fun c9 => absurd c9 (by decide)) (fun _ => ?_)
  refine z_aload_n 1 d_Mg_init_97 rfl rfl ?_
  obtain ⟨v54, e55, E⟩ := E
  refine y_getR (ci := 3) (j := 0) rfl (by decide) zf_Mg_11 d_Mg_init_98 e55 ?_
  refine z_iload_n 0 d_Mg_init_101 rfl rfl ?_
  refine y_new (ci := 0) (fs := [.null, .int 0]) rfl nY0 nt0 (by decide +kernel) ⟨zt_67, zt_69, zt_49⟩ (zkn_le hkn (Nat.le_of_ble_eq_true rfl) (Nat.le_of_ble_eq_true rfl)) d_Mg_init_102 (fun q56 f57 => ?_)
  have E := E q56 f57
  refine z_dup d_Mg_init_105 rfl ?_
  refine y_invIN (y := y_Gr_init) (Mc := M_Gr_init) (mc1 := 1) (ms1 := 30) hC rfl rfl ⟨(List.mem_of_getElem? (i := 0) rfl), zt_71, zt_49⟩ zk_Gr_init zy_Gr_init (by decide) (Nat.le_of_ble_eq_true rfl) (zkn_le hkn (Nat.le_of_ble_eq_true rfl) (Nat.le_of_ble_eq_true rfl)) (Nat.le_of_ble_eq_true rfl) d_Mg_init_106 (m_Gr_init E) (fun rc hrc => ?_)
  obtain ⟨h58, rfl, E⟩ := hrc
  show Z X M_Mg_init 37 4211 h58 109 [(1, .int (2 : Int32)), (0, .ref x0)] [.ref q56, .int (2 : Int32), .ref v54]
  obtain ⟨h59, e60, E⟩ := E
  refine y_aastore d_Mg_init_109 e60 ?_
  refine z_iinc (v := (3 : Int32)) (lv2 := [(1, .int (3 : Int32)), (0, .ref x0)]) 0 d_Mg_init_110 rfl (by decide) (Nat.le_of_ble_eq_true rfl) rfl ?_
  refine z_goto (tgt := 91) d_Mg_init_113 (by decide) ?_
  refine z_iload_n 0 d_Mg_init_91 rfl rfl ?_
  refine z_bipush (v := (6 : Int32)) d_Mg_init_92 (by decide) ?_
  refine y_icge (tgt := 116) d_Mg_init_94 (by decide) (fun c9 => absurd c9 (by decide)) (fun _ => ?_)
  refine z_aload_n 1 d_Mg_init_97 rfl rfl ?_
  obtain ⟨v61, e62, E⟩ := E
  refine y_getR (ci := 3) (j := 0) rfl (by decide) zf_Mg_11 d_Mg_init_98 e62 ?_
  refine z_iload_n 0 d_Mg_init_101 rfl rfl ?_
  refine y_new (ci := 0) (fs := [.null, .int 0]) rfl nY0 nt0 (by decide +kernel) ⟨zt_67, zt_69, zt_49⟩ (zkn_le hkn (Nat.le_of_ble_eq_true rfl) (Nat.le_of_ble_eq_true rfl)) d_Mg_init_102 (fun q63 f64 => ?_)
  have E := E q63 f64
  refine z_dup d_Mg_init_105 rfl ?_
  refine y_invIN (y := y_Gr_init) (Mc := M_Gr_init) (mc1 := 1) (ms1 := 30) hC rfl rfl ⟨(List.mem_of_getElem? (i := 0) rfl), zt_71, zt_49⟩ zk_Gr_init zy_Gr_init (by decide) (Nat.le_of_ble_eq_true rfl) (zkn_le hkn (Nat.le_of_ble_eq_true rfl) (Nat.le_of_ble_eq_true rfl)) (Nat.le_of_ble_eq_true rfl) d_Mg_init_106 (m_Gr_init E) (fun rc hrc => ?_)
  obtain ⟨h65, rfl, E⟩ := hrc
  show Z X M_Mg_init 39 4243 h65 109 [(1, .int (3 : Int32)), (0, .ref x0)] [.ref q63, .int (3 : Int32), .ref v61]
  obtain ⟨h66, e67, E⟩ := E
  refine y_aastore d_Mg_init_109 e67 ?_
  refine z_iinc (v := (4 : Int32)) (lv2 := [(1, .int (4 : Int32)), (0, .ref x0)]) 0 d_Mg_init_110 rfl (by decide) (Nat.le_of_ble_eq_true rfl) rfl ?_
  refine z_goto (tgt := 91) d_Mg_init_113 (by decide) ?_
  refine z_iload_n 0 d_Mg_init_91 rfl rfl ?_
  refine z_bipush (v := (6 : Int32)) d_Mg_init_92 (by decide) ?_
  refine y_icge (tgt := 116) d_Mg_init_94 (by decide) (fun c9 => absurd c9 (by decide)) (fun _ => ?_)
  refine z_aload_n 1 d_Mg_init_97 rfl rfl ?_
  obtain ⟨v68, e69, E⟩ := E
  refine y_getR (ci := 3) (j := 0) rfl (by decide) zf_Mg_11 d_Mg_init_98 e69 ?_
  refine z_iload_n 0 d_Mg_init_101 rfl rfl ?_
  refine y_new (ci := 0) (fs := [.null, .int 0]) rfl nY0 nt0 (by decide +kernel) ⟨zt_67, zt_69, zt_49⟩ (zkn_le hkn (Nat.le_of_ble_eq_true rfl) (Nat.le_of_ble_eq_true rfl)) d_Mg_init_102 (fun q70 f71 => ?_)
  have E := E q70 f71
  refine z_dup d_Mg_init_105 rfl ?_
  refine y_invIN (y := y_Gr_init) (Mc := M_Gr_init) (mc1 := 1) (ms1 := 30) hC rfl rfl ⟨(List.mem_of_getElem? (i := 0) rfl), zt_71, zt_49⟩ zk_Gr_init zy_Gr_init (by decide) (Nat.le_of_ble_eq_true rfl) (zkn_le hkn (Nat.le_of_ble_eq_true rfl) (Nat.le_of_ble_eq_true rfl)) (Nat.le_of_ble_eq_true rfl) d_Mg_init_106 (m_Gr_init E) (fun rc hrc => ?_)
  obtain ⟨h72, rfl, E⟩ := hrc
  show Z X M_Mg_init 41 4275 h72 109 [(1, .int (4 : Int32)), (0, .ref x0)] [.ref q70, .int (4 : Int32), .ref v68]
  obtain ⟨h73, e74, E⟩ := E
  refine y_aastore d_Mg_init_109 e74 ?_
  refine z_iinc (v := (5 : Int32)) (lv2 := [(1, .int (5 : Int32)), (0, .ref x0)]) 0 d_Mg_init_110 rfl (by decide) (Nat.le_of_ble_eq_true rfl) rfl ?_
  refine z_goto (tgt := 91) d_Mg_init_113 (by decide) ?_
  refine z_iload_n 0 d_Mg_init_91 rfl rfl ?_
  refine z_bipush (v := (6 : Int32)) d_Mg_init_92 (by decide) ?_
  refine y_icge (tgt := 116) d_Mg_init_94 (by decide) (fun c9 => absurd c9 (by decide)) (fun _ => ?_)
  refine z_aload_n 1 d_Mg_init_97 rfl rfl ?_
  obtain ⟨v75, e76, E⟩ := E
  refine y_getR (ci := 3) (j := 0) rfl (by decide) zf_Mg_11 d_Mg_init_98 e76 ?_
  refine z_iload_n 0 d_Mg_init_101 rfl rfl ?_
  refine y_new (ci := 0) (fs := [.null, .int 0]) rfl nY0 nt0 (by decide +kernel) ⟨zt_67, zt_69, zt_49⟩ (zkn_le hkn (Nat.le_of_ble_eq_true rfl) (Nat.le_of_ble_eq_true rfl)) d_Mg_init_102 (fun q77 f78 => ?_)
  have E := E q77 f78
  refine z_dup d_Mg_init_105 rfl ?_
  refine y_invIN (y := y_Gr_init) (Mc := M_Gr_init) (mc1 := 1) (ms1 := 30) hC rfl rfl ⟨(List.mem_of_getElem? (i := 0) rfl), zt_71, zt_49⟩ zk_Gr_init zy_Gr_init (by decide) (Nat.le_of_ble_eq_true rfl) (zkn_le hkn (Nat.le_of_ble_eq_true rfl) (Nat.le_of_ble_eq_true rfl)) (Nat.le_of_ble_eq_true rfl) d_Mg_init_106 (m_Gr_init E) (fun rc hrc => ?_)
  obtain ⟨h79, rfl, E⟩ := hrc
  show Z X M_Mg_init 43 4307 h79 109 [(1, .int (5 : Int32)), (0, .ref x0)] [.ref q77, .int (5 : Int32), .ref v75]
  obtain ⟨h80, e81, E⟩ := E
  refine y_aastore d_Mg_init_109 e81 ?_
  refine z_iinc (v := (6 : Int32)) (lv2 := [(1, .int (6 : Int32)), (0, .ref x0)]) 0 d_Mg_init_110 rfl (by decide) (Nat.le_of_ble_eq_true rfl) rfl ?_
  refine z_goto (tgt := 91) d_Mg_init_113 (by decide) ?_
  refine z_iload_n 0 d_Mg_init_91 rfl rfl ?_
  refine z_bipush (v := (6 : Int32)) d_Mg_init_92 (by decide) ?_
  refine y_icge (tgt := 116) d_Mg_init_94 (by decide) (fun _ => ?_) (fun c9 => absurd (by decide) c9)
  exact y_return hQ rfl (zkn_le hkn (Nat.le_of_ble_eq_true rfl) (Nat.le_of_ble_eq_true rfl)) d_Mg_init_116 E
theorem m_Mg_init {l : Launch} {x0 : Nat} {h : pH} {K : pR → Prop} (E : p_Mg_init x0 h K) : zMetC l y_Mg_init M_Mg_init 43 4307 [.ref x0] h K :=
  zMetC_of (by decide) rfl rfl (Nat.le_of_ble_eq_true rfl) (fun X hC hQ hkn _ => w_Mg_init hQ hC hkn x0 h E)
/-- the constructor of MergeGraphsModel: 12 cells of 622 slots -/
def p_Mo_init (x0 : Nat) (h : pH) (K : pR → Prop) : Prop := ∀ q1, q1 ∉ (h).1 → ∃ h3, oP (hN h q1 (.inl (0, 180, .inl (fun _ => 0)))) x0 4 1 (.ref q1) = some h3 ∧ ∀ q5, q5 ∉ (h3).1 → ∃ h7, oP (hN h3 q5 (.inl (0, 6, .inl (fun _ => 0)))) x0 4 2 (.ref q5) = some h7 ∧ ∀ q9, q9 ∉ (h7).1 → ∃ h11, oP (hN h7 q9 (.inl (0, 64, .inl (fun _ => 0)))) x0 4 3 (.ref q9) = some h11 ∧ ∀ q13, q13 ∉ (h11).1 → ∃ h15, oP (hN h11 q13 (.inl (0, 64, .inl (fun _ => 0)))) x0 4 5 (.ref q13) = some h15 ∧ ∀ q17, q17 ∉ (h15).1 → ∃ h19, oP (hN h15 q17 (.inl (0, 6, .inl (fun _ => 0)))) x0 4 6 (.ref q17) = some h19 ∧ ∀ q21, q21 ∉ (h19).1 → ∃ h23, oP (hN h19 q21 (.inl (0, 46, .inl (fun _ => 0)))) x0 4 8 (.ref q21) = some h23 ∧ ∀ q25, q25 ∉ (h23).1 → ∃ h27, oP (hN h23 q25 (.inl (0, 6, .inl (fun _ => 0)))) x0 4 10 (.ref q25) = some h27 ∧ ∀ q29, q29 ∉ (h27).1 → ∃ h31, oP (hN h27 q29 (.inl (0, 6, .inl (fun _ => 0)))) x0 4 11 (.ref q29) = some h31 ∧ ∀ q33, q33 ∉ (h31).1 → ∃ h35, oP (hN h31 q33 (.inl (0, 92, .inl (fun _ => 0)))) x0 4 13 (.ref q33) = some h35 ∧ ∀ q37, q37 ∉ (h35).1 → ∃ h39, oP (hN h35 q37 (.inl (0, 92, .inl (fun _ => 0)))) x0 4 14 (.ref q37) = some h39 ∧ ∀ q41, q41 ∉ (h39).1 → ∃ h43, oP (hN h39 q41 (.inl (0, 30, .inl (fun _ => 0)))) x0 4 17 (.ref q41) = some h43 ∧ ∀ q45, q45 ∉ (h43).1 → ∃ h47, oP (hN h43 q45 (.inl (0, 30, .inl (fun _ => 0)))) x0 4 18 (.ref q45) = some h47 ∧ K (none, h47)
set_option maxRecDepth 100000 in
set_option maxHeartbeats 4000000 in
theorem w_Mo_init {X : zX} {K : pR → Prop} (hQ : zQc X K) (hC : zCOK X) (hkn : zkn X 12 622) (x0 : Nat) (h : pH) (E : p_Mo_init x0 h K) : Z X M_Mo_init 0 0 h 0 [(0, .ref x0)] [] := by
  unfold p_Mo_init at E
  refine z_aload_n 0 d_Mo_init_0 rfl rfl ?_
  refine y_objInit zt_679 (Nat.le_of_ble_eq_true rfl) (Nat.le_of_ble_eq_true rfl) d_Mo_init_1 ?_
  refine z_aload_n 0 d_Mo_init_4 rfl rfl ?_
  refine z_sipush (v := (180 : Int32)) d_Mo_init_5 (by decide) ?_
  refine y_newI (N := 180) rfl (by decide) (by decide) zt_81 (zkn_le hkn (Nat.le_of_ble_eq_true rfl) (Nat.le_of_ble_eq_true rfl)) d_Mo_init_8 (fun q1 f2 => ?_)
  have E := E q1 f2
  obtain ⟨h3, e4, E⟩ := E
  refine y_putF (ci := 4) (j := 1) (ty := (.array .int)) hC rfl (by decide) zf_Mo_7 rfl rfl (by decide +kernel) rfl rfl d_Mo_init_10 e4 ?_
  refine z_aload_n 0 d_Mo_init_13 rfl rfl ?_
  refine z_bipush (v := (6 : Int32)) d_Mo_init_14 (by decide) ?_
  refine y_newI (N := 6) rfl (by decide) (by decide) zt_81 (zkn_le hkn (Nat.le_of_ble_eq_true rfl) (Nat.le_of_ble_eq_true rfl)) d_Mo_init_16 (fun q5 f6 => ?_)
  have E := E q5 f6
  obtain ⟨h7, e8, E⟩ := E
  refine y_putF (ci := 4) (j := 2) (ty := (.array .int)) hC rfl (by decide) zf_Mo_13 rfl rfl (by decide +kernel) rfl rfl d_Mo_init_18 e8 ?_
  refine z_aload_n 0 d_Mo_init_21 rfl rfl ?_
  refine z_bipush (v := (64 : Int32)) d_Mo_init_22 (by decide) ?_
  refine y_newI (N := 64) rfl (by decide) (by decide) zt_81 (zkn_le hkn (Nat.le_of_ble_eq_true rfl) (Nat.le_of_ble_eq_true rfl)) d_Mo_init_24 (fun q9 f10 => ?_)
  have E := E q9 f10
  obtain ⟨h11, e12, E⟩ := E
  refine y_putF (ci := 4) (j := 3) (ty := (.array .int)) hC rfl (by decide) zf_Mo_16 rfl rfl (by decide +kernel) rfl rfl d_Mo_init_26 e12 ?_
  refine z_aload_n 0 d_Mo_init_29 rfl rfl ?_
  refine z_bipush (v := (64 : Int32)) d_Mo_init_30 (by decide) ?_
  refine y_newI (N := 64) rfl (by decide) (by decide) zt_81 (zkn_le hkn (Nat.le_of_ble_eq_true rfl) (Nat.le_of_ble_eq_true rfl)) d_Mo_init_32 (fun q13 f14 => ?_)
  have E := E q13 f14
  obtain ⟨h15, e16, E⟩ := E
  refine y_putF (ci := 4) (j := 5) (ty := (.array .int)) hC rfl (by decide) zf_Mo_19 rfl rfl (by decide +kernel) rfl rfl d_Mo_init_34 e16 ?_
  refine z_aload_n 0 d_Mo_init_37 rfl rfl ?_
  refine z_bipush (v := (6 : Int32)) d_Mo_init_38 (by decide) ?_
  refine y_newI (N := 6) rfl (by decide) (by decide) zt_81 (zkn_le hkn (Nat.le_of_ble_eq_true rfl) (Nat.le_of_ble_eq_true rfl)) d_Mo_init_40 (fun q17 f18 => ?_)
  have E := E q17 f18
  obtain ⟨h19, e20, E⟩ := E
  refine y_putF (ci := 4) (j := 6) (ty := (.array .int)) hC rfl (by decide) zf_Mo_22 rfl rfl (by decide +kernel) rfl rfl d_Mo_init_42 e20 ?_
  refine z_aload_n 0 d_Mo_init_45 rfl rfl ?_
  refine z_bipush (v := (46 : Int32)) d_Mo_init_46 (by decide) ?_
  refine y_newI (N := 46) rfl (by decide) (by decide) zt_81 (zkn_le hkn (Nat.le_of_ble_eq_true rfl) (Nat.le_of_ble_eq_true rfl)) d_Mo_init_48 (fun q21 f22 => ?_)
  have E := E q21 f22
  obtain ⟨h23, e24, E⟩ := E
  refine y_putF (ci := 4) (j := 8) (ty := (.array .int)) hC rfl (by decide) zf_Mo_25 rfl rfl (by decide +kernel) rfl rfl d_Mo_init_50 e24 ?_
  refine z_aload_n 0 d_Mo_init_53 rfl rfl ?_
  refine z_bipush (v := (6 : Int32)) d_Mo_init_54 (by decide) ?_
  refine y_newI (N := 6) rfl (by decide) (by decide) zt_81 (zkn_le hkn (Nat.le_of_ble_eq_true rfl) (Nat.le_of_ble_eq_true rfl)) d_Mo_init_56 (fun q25 f26 => ?_)
  have E := E q25 f26
  obtain ⟨h27, e28, E⟩ := E
  refine y_putF (ci := 4) (j := 10) (ty := (.array .int)) hC rfl (by decide) zf_Mo_28 rfl rfl (by decide +kernel) rfl rfl d_Mo_init_58 e28 ?_
  refine z_aload_n 0 d_Mo_init_61 rfl rfl ?_
  refine z_bipush (v := (6 : Int32)) d_Mo_init_62 (by decide) ?_
  refine y_newI (N := 6) rfl (by decide) (by decide) zt_81 (zkn_le hkn (Nat.le_of_ble_eq_true rfl) (Nat.le_of_ble_eq_true rfl)) d_Mo_init_64 (fun q29 f30 => ?_)
  have E := E q29 f30
  obtain ⟨h31, e32, E⟩ := E
  refine y_putF (ci := 4) (j := 11) (ty := (.array .int)) hC rfl (by decide) zf_Mo_31 rfl rfl (by decide +kernel) rfl rfl d_Mo_init_66 e32 ?_
  refine z_aload_n 0 d_Mo_init_69 rfl rfl ?_
  refine z_bipush (v := (92 : Int32)) d_Mo_init_70 (by decide) ?_
  refine y_newI (N := 92) rfl (by decide) (by decide) zt_81 (zkn_le hkn (Nat.le_of_ble_eq_true rfl) (Nat.le_of_ble_eq_true rfl)) d_Mo_init_72 (fun q33 f34 => ?_)
  have E := E q33 f34
  obtain ⟨h35, e36, E⟩ := E
  refine y_putF (ci := 4) (j := 13) (ty := (.array .int)) hC rfl (by decide) zf_Mo_34 rfl rfl (by decide +kernel) rfl rfl d_Mo_init_74 e36 ?_
  refine z_aload_n 0 d_Mo_init_77 rfl rfl ?_
  refine z_bipush (v := (92 : Int32)) d_Mo_init_78 (by decide) ?_
  refine y_newI (N := 92) rfl (by decide) (by decide) zt_81 (zkn_le hkn (Nat.le_of_ble_eq_true rfl) (Nat.le_of_ble_eq_true rfl)) d_Mo_init_80 (fun q37 f38 => ?_)
  have E := E q37 f38
  obtain ⟨h39, e40, E⟩ := E
  refine y_putF (ci := 4) (j := 14) (ty := (.array .int)) hC rfl (by decide) zf_Mo_37 rfl rfl (by decide +kernel) rfl rfl d_Mo_init_82 e40 ?_
  refine z_aload_n 0 d_Mo_init_85 rfl rfl ?_
  refine z_bipush (v := (30 : Int32)) d_Mo_init_86 (by decide) ?_
  refine y_newI (N := 30) rfl (by decide) (by decide) zt_81 (zkn_le hkn (Nat.le_of_ble_eq_true rfl) (Nat.le_of_ble_eq_true rfl)) d_Mo_init_88 (fun q41 f42 => ?_)
  have E := E q41 f42
  obtain ⟨h43, e44, E⟩ := E
  refine y_putF (ci := 4) (j := 17) (ty := (.array .int)) hC rfl (by decide) zf_Mo_40 rfl rfl (by decide +kernel) rfl rfl d_Mo_init_90 e44 ?_
  refine z_aload_n 0 d_Mo_init_93 rfl rfl ?_
  refine z_bipush (v := (30 : Int32)) d_Mo_init_94 (by decide) ?_
  refine y_newI (N := 30) rfl (by decide) (by decide) zt_81 (zkn_le hkn (Nat.le_of_ble_eq_true rfl) (Nat.le_of_ble_eq_true rfl)) d_Mo_init_96 (fun q45 f46 => ?_)
  have E := E q45 f46
  obtain ⟨h47, e48, E⟩ := E
  refine y_putF (ci := 4) (j := 18) (ty := (.array .int)) hC rfl (by decide) zf_Mo_43 rfl rfl (by decide +kernel) rfl rfl d_Mo_init_98 e48 ?_
  exact y_return hQ rfl (zkn_le hkn (Nat.le_of_ble_eq_true rfl) (Nat.le_of_ble_eq_true rfl)) d_Mo_init_101 E
theorem m_Mo_init {l : Launch} {x0 : Nat} {h : pH} {K : pR → Prop} (E : p_Mo_init x0 h K) : zMetC l y_Mo_init M_Mo_init 12 622 [.ref x0] h K :=
  zMetC_of (by decide) rfl rfl (Nat.le_of_ble_eq_true rfl) (fun X hC hQ hkn _ => w_Mo_init hQ hC hkn x0 h E)

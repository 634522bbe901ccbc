def y_La_put : MethodName := ⟨"MergeGraphsLaw", "put", "(LMergeGraphs;IIII[J)I"⟩
abbrev M_La_put : zM := ("MergeGraphsLaw", method_3_code, 7, (some .int), 8)
abbrev hh_La_put : List (Nat × Nat × Nat × Nat) := [((0 : Nat), (14 : Nat), (17 : Nat), (13 : Nat)), ((0 : Nat), (14 : Nat), (21 : Nat), (15 : Nat))]
set_option maxRecDepth 100000 in
theorem zk_La_put : Cond.codeWith y_La_put (M_La_put).2.1 (M_La_put).2.2.1 (M_La_put).2.2.2.1 hh_La_put ∈ zTg := zmem 175 rfl rfl
theorem zy_La_put : (y_La_put).cls ≠ "java/lang/invoke/MethodHandle" ∧ (y_La_put).cls ≠ "java/lang/invoke/VarHandle" ∧ (parseMethodDescriptor (y_La_put).desc).map (fun d => d.parameters.length) = some 6 := by decide +kernel
theorem d_La_put_0 : decode method_3_code 0 = .ok (.aload 5, 2) := by decide +kernel
theorem d_La_put_2 : decode method_3_code 2 = .ok (.iconst 0, 1) := by decide +kernel
theorem d_La_put_3 : decode method_3_code 3 = .ok (.aload_n 0, 1) := by decide +kernel
theorem d_La_put_4 : decode method_3_code 4 = .ok (.iload_n 1, 1) := by decide +kernel
theorem d_La_put_5 : decode method_3_code 5 = .ok (.iload_n 2, 1) := by decide +kernel
theorem d_La_put_6 : decode method_3_code 6 = .ok (.iload_n 3, 1) := by decide +kernel
theorem d_La_put_7 : decode method_3_code 7 = .ok (.iload 4, 2) := by decide +kernel
theorem d_La_put_9 : decode method_3_code 9 = .ok (.invokevirtual 7, 3) := by decide +kernel
theorem d_La_put_12 : decode method_3_code 12 = .ok (.i2l, 1) := by decide +kernel
theorem d_La_put_13 : decode method_3_code 13 = .ok (.lastore, 1) := by decide +kernel
theorem d_La_put_14 : decode method_3_code 14 = .ok (.goto 11, 3) := by decide +kernel
theorem d_La_put_17 : decode method_3_code 17 = .ok (.astore 6, 2) := by decide +kernel
theorem d_La_put_19 : decode method_3_code 19 = .ok (.iconst 1, 1) := by decide +kernel
theorem d_La_put_20 : decode method_3_code 20 = .ok (.ireturn, 1) := by decide +kernel
theorem d_La_put_21 : decode method_3_code 21 = .ok (.astore 6, 2) := by decide +kernel
theorem d_La_put_23 : decode method_3_code 23 = .ok (.iconst 2, 1) := by decide +kernel
theorem d_La_put_24 : decode method_3_code 24 = .ok (.ireturn, 1) := by decide +kernel
theorem d_La_put_25 : decode method_3_code 25 = .ok (.iconst 0, 1) := by decide +kernel
theorem d_La_put_26 : decode method_3_code 26 = .ok (.ireturn, 1) := by decide +kernel
theorem zt_176 : (Cond.classLink "MergeGraphsLaw" (13 : Nat) "java/lang/IndexOutOfBoundsException") ∈ zTg := zmem 176 (by decide +kernel) (by decide +kernel)
theorem zt_177 : (Cond.classLink "MergeGraphsLaw" (15 : Nat) "java/lang/IllegalArgumentException") ∈ zTg := zmem 177 (by decide +kernel) (by decide +kernel)
theorem zt_178 : (Cond.methodLink "MergeGraphsLaw" (7 : Nat) (⟨"MergeGraphs", "put", "(IIII)I"⟩ : MethodName)) ∈ zTg := zmem 178 (by decide +kernel) (by decide +kernel)
theorem zt_179 : (Cond.instanceMethod (⟨"MergeGraphs", "put", "(IIII)I"⟩ : MethodName)) ∈ zTg := zmem 179 (by decide +kernel) (by decide +kernel)
theorem zt_180 : (Cond.selects "MergeGraphs" (⟨"MergeGraphs", "put", "(IIII)I"⟩ : MethodName) (⟨"MergeGraphs", "put", "(IIII)I"⟩ : MethodName)) ∈ zTg := zmem 180 (by decide +kernel) (by decide +kernel)
def y_La_drop : MethodName := ⟨"MergeGraphsLaw", "drop", "(LMergeGraphs;IIII[J)I"⟩
abbrev M_La_drop : zM := ("MergeGraphsLaw", method_4_code, 7, (some .int), 8)
abbrev hh_La_drop : List (Nat × Nat × Nat × Nat) := [((0 : Nat), (14 : Nat), (17 : Nat), (13 : Nat)), ((0 : Nat), (14 : Nat), (21 : Nat), (15 : Nat))]
set_option maxRecDepth 100000 in
theorem zk_La_drop : Cond.codeWith y_La_drop (M_La_drop).2.1 (M_La_drop).2.2.1 (M_La_drop).2.2.2.1 hh_La_drop ∈ zTg := zmem 290 rfl rfl
theorem zy_La_drop : (y_La_drop).cls ≠ "java/lang/invoke/MethodHandle" ∧ (y_La_drop).cls ≠ "java/lang/invoke/VarHandle" ∧ (parseMethodDescriptor (y_La_drop).desc).map (fun d => d.parameters.length) = some 6 := by decide +kernel
theorem d_La_drop_0 : decode method_4_code 0 = .ok (.aload 5, 2) := by decide +kernel
theorem d_La_drop_2 : decode method_4_code 2 = .ok (.iconst 0, 1) := by decide +kernel
theorem d_La_drop_3 : decode method_4_code 3 = .ok (.aload_n 0, 1) := by decide +kernel
theorem d_La_drop_4 : decode method_4_code 4 = .ok (.iload_n 1, 1) := by decide +kernel
theorem d_La_drop_5 : decode method_4_code 5 = .ok (.iload_n 2, 1) := by decide +kernel
theorem d_La_drop_6 : decode method_4_code 6 = .ok (.iload_n 3, 1) := by decide +kernel
theorem d_La_drop_7 : decode method_4_code 7 = .ok (.iload 4, 2) := by decide +kernel
theorem d_La_drop_9 : decode method_4_code 9 = .ok (.invokevirtual 17, 3) := by decide +kernel
theorem d_La_drop_12 : decode method_4_code 12 = .ok (.i2l, 1) := by decide +kernel
theorem d_La_drop_13 : decode method_4_code 13 = .ok (.lastore, 1) := by decide +kernel
theorem d_La_drop_14 : decode method_4_code 14 = .ok (.goto 11, 3) := by decide +kernel
theorem d_La_drop_17 : decode method_4_code 17 = .ok (.astore 6, 2) := by decide +kernel
theorem d_La_drop_19 : decode method_4_code 19 = .ok (.iconst 1, 1) := by decide +kernel
theorem d_La_drop_20 : decode method_4_code 20 = .ok (.ireturn, 1) := by decide +kernel
theorem d_La_drop_21 : decode method_4_code 21 = .ok (.astore 6, 2) := by decide +kernel
theorem d_La_drop_23 : decode method_4_code 23 = .ok (.iconst 2, 1) := by decide +kernel
theorem d_La_drop_24 : decode method_4_code 24 = .ok (.ireturn, 1) := by decide +kernel
theorem d_La_drop_25 : decode method_4_code 25 = .ok (.iconst 0, 1) := by decide +kernel
theorem d_La_drop_26 : decode method_4_code 26 = .ok (.ireturn, 1) := by decide +kernel
theorem zt_291 : (Cond.methodLink "MergeGraphsLaw" (17 : Nat) (⟨"MergeGraphs", "drop", "(IIII)I"⟩ : MethodName)) ∈ zTg := zmem 291 (by decide +kernel) (by decide +kernel)
theorem zt_292 : (Cond.instanceMethod (⟨"MergeGraphs", "drop", "(IIII)I"⟩ : MethodName)) ∈ zTg := zmem 292 (by decide +kernel) (by decide +kernel)
theorem zt_293 : (Cond.selects "MergeGraphs" (⟨"MergeGraphs", "drop", "(IIII)I"⟩ : MethodName) (⟨"MergeGraphs", "drop", "(IIII)I"⟩ : MethodName)) ∈ zTg := zmem 293 (by decide +kernel) (by decide +kernel)
def y_La_copy : MethodName := ⟨"MergeGraphsLaw", "copy", "(LMergeGraphs;II[J)I"⟩
abbrev M_La_copy : zM := ("MergeGraphsLaw", method_5_code, 5, (some .int), 8)
abbrev hh_La_copy : List (Nat × Nat × Nat × Nat) := [((0 : Nat), (10 : Nat), (13 : Nat), (13 : Nat))]
set_option maxRecDepth 100000 in
theorem zk_La_copy : Cond.codeWith y_La_copy (M_La_copy).2.1 (M_La_copy).2.2.1 (M_La_copy).2.2.2.1 hh_La_copy ∈ zTg := zmem 301 rfl rfl
theorem zy_La_copy : (y_La_copy).cls ≠ "java/lang/invoke/MethodHandle" ∧ (y_La_copy).cls ≠ "java/lang/invoke/VarHandle" ∧ (parseMethodDescriptor (y_La_copy).desc).map (fun d => d.parameters.length) = some 4 := by decide +kernel
theorem d_La_copy_0 : decode method_5_code 0 = .ok (.aload_n 3, 1) := by decide +kernel
theorem d_La_copy_1 : decode method_5_code 1 = .ok (.iconst 0, 1) := by decide +kernel
theorem d_La_copy_2 : decode method_5_code 2 = .ok (.aload_n 0, 1) := by decide +kernel
theorem d_La_copy_3 : decode method_5_code 3 = .ok (.iload_n 1, 1) := by decide +kernel
theorem d_La_copy_4 : decode method_5_code 4 = .ok (.iload_n 2, 1) := by decide +kernel
theorem d_La_copy_5 : decode method_5_code 5 = .ok (.invokevirtual 20, 3) := by decide +kernel
theorem d_La_copy_8 : decode method_5_code 8 = .ok (.i2l, 1) := by decide +kernel
theorem d_La_copy_9 : decode method_5_code 9 = .ok (.lastore, 1) := by decide +kernel
theorem d_La_copy_10 : decode method_5_code 10 = .ok (.goto 7, 3) := by decide +kernel
theorem d_La_copy_13 : decode method_5_code 13 = .ok (.astore 4, 2) := by decide +kernel
theorem d_La_copy_15 : decode method_5_code 15 = .ok (.iconst 1, 1) := by decide +kernel
theorem d_La_copy_16 : decode method_5_code 16 = .ok (.ireturn, 1) := by decide +kernel
theorem d_La_copy_17 : decode method_5_code 17 = .ok (.iconst 0, 1) := by decide +kernel
theorem d_La_copy_18 : decode method_5_code 18 = .ok (.ireturn, 1) := by decide +kernel
theorem zt_302 : (Cond.methodLink "MergeGraphsLaw" (20 : Nat) (⟨"MergeGraphs", "copy", "(II)I"⟩ : MethodName)) ∈ zTg := zmem 302 (by decide +kernel) (by decide +kernel)
theorem zt_303 : (Cond.instanceMethod (⟨"MergeGraphs", "copy", "(II)I"⟩ : MethodName)) ∈ zTg := zmem 303 (by decide +kernel) (by decide +kernel)
theorem zt_304 : (Cond.selects "MergeGraphs" (⟨"MergeGraphs", "copy", "(II)I"⟩ : MethodName) (⟨"MergeGraphs", "copy", "(II)I"⟩ : MethodName)) ∈ zTg := zmem 304 (by decide +kernel) (by decide +kernel)
def y_La_size : MethodName := ⟨"MergeGraphsLaw", "size", "(LMergeGraphs;II[J)I"⟩
abbrev M_La_size : zM := ("MergeGraphsLaw", method_6_code, 5, (some .int), 8)
abbrev hh_La_size : List (Nat × Nat × Nat × Nat) := [((0 : Nat), (10 : Nat), (13 : Nat), (13 : Nat))]
set_option maxRecDepth 100000 in
theorem zk_La_size : Cond.codeWith y_La_size (M_La_size).2.1 (M_La_size).2.2.1 (M_La_size).2.2.2.1 hh_La_size ∈ zTg := zmem 316 rfl rfl
theorem zy_La_size : (y_La_size).cls ≠ "java/lang/invoke/MethodHandle" ∧ (y_La_size).cls ≠ "java/lang/invoke/VarHandle" ∧ (parseMethodDescriptor (y_La_size).desc).map (fun d => d.parameters.length) = some 4 := by decide +kernel
theorem d_La_size_0 : decode method_6_code 0 = .ok (.aload_n 3, 1) := by decide +kernel
theorem d_La_size_1 : decode method_6_code 1 = .ok (.iconst 0, 1) := by decide +kernel
theorem d_La_size_2 : decode method_6_code 2 = .ok (.aload_n 0, 1) := by decide +kernel
theorem d_La_size_3 : decode method_6_code 3 = .ok (.iload_n 1, 1) := by decide +kernel
theorem d_La_size_4 : decode method_6_code 4 = .ok (.iload_n 2, 1) := by decide +kernel
theorem d_La_size_5 : decode method_6_code 5 = .ok (.invokevirtual 24, 3) := by decide +kernel
theorem d_La_size_8 : decode method_6_code 8 = .ok (.i2l, 1) := by decide +kernel
theorem d_La_size_9 : decode method_6_code 9 = .ok (.lastore, 1) := by decide +kernel
theorem d_La_size_10 : decode method_6_code 10 = .ok (.goto 7, 3) := by decide +kernel
theorem d_La_size_13 : decode method_6_code 13 = .ok (.astore 4, 2) := by decide +kernel
theorem d_La_size_15 : decode method_6_code 15 = .ok (.iconst 1, 1) := by decide +kernel
theorem d_La_size_16 : decode method_6_code 16 = .ok (.ireturn, 1) := by decide +kernel
theorem d_La_size_17 : decode method_6_code 17 = .ok (.iconst 0, 1) := by decide +kernel
theorem d_La_size_18 : decode method_6_code 18 = .ok (.ireturn, 1) := by decide +kernel
theorem zt_317 : (Cond.methodLink "MergeGraphsLaw" (24 : Nat) (⟨"MergeGraphs", "size", "(II)I"⟩ : MethodName)) ∈ zTg := zmem 317 (by decide +kernel) (by decide +kernel)
theorem zt_318 : (Cond.instanceMethod (⟨"MergeGraphs", "size", "(II)I"⟩ : MethodName)) ∈ zTg := zmem 318 (by decide +kernel) (by decide +kernel)
theorem zt_319 : (Cond.selects "MergeGraphs" (⟨"MergeGraphs", "size", "(II)I"⟩ : MethodName) (⟨"MergeGraphs", "size", "(II)I"⟩ : MethodName)) ∈ zTg := zmem 319 (by decide +kernel) (by decide +kernel)
def y_La_fact : MethodName := ⟨"MergeGraphsLaw", "fact", "(LMergeGraphs;II[J)I"⟩
abbrev M_La_fact : zM := ("MergeGraphsLaw", method_7_code, 5, (some .int), 8)
abbrev hh_La_fact : List (Nat × Nat × Nat × Nat) := [((0 : Nat), (10 : Nat), (13 : Nat), (13 : Nat))]
set_option maxRecDepth 100000 in
theorem zk_La_fact : Cond.codeWith y_La_fact (M_La_fact).2.1 (M_La_fact).2.2.1 (M_La_fact).2.2.2.1 hh_La_fact ∈ zTg := zmem 346 rfl rfl
theorem zy_La_fact : (y_La_fact).cls ≠ "java/lang/invoke/MethodHandle" ∧ (y_La_fact).cls ≠ "java/lang/invoke/VarHandle" ∧ (parseMethodDescriptor (y_La_fact).desc).map (fun d => d.parameters.length) = some 4 := by decide +kernel
theorem d_La_fact_0 : decode method_7_code 0 = .ok (.aload_n 3, 1) := by decide +kernel
theorem d_La_fact_1 : decode method_7_code 1 = .ok (.iconst 0, 1) := by decide +kernel
theorem d_La_fact_2 : decode method_7_code 2 = .ok (.aload_n 0, 1) := by decide +kernel
theorem d_La_fact_3 : decode method_7_code 3 = .ok (.iload_n 1, 1) := by decide +kernel
theorem d_La_fact_4 : decode method_7_code 4 = .ok (.iload_n 2, 1) := by decide +kernel
theorem d_La_fact_5 : decode method_7_code 5 = .ok (.invokevirtual 27, 3) := by decide +kernel
theorem d_La_fact_8 : decode method_7_code 8 = .ok (.i2l, 1) := by decide +kernel
theorem d_La_fact_9 : decode method_7_code 9 = .ok (.lastore, 1) := by decide +kernel
theorem d_La_fact_10 : decode method_7_code 10 = .ok (.goto 7, 3) := by decide +kernel
theorem d_La_fact_13 : decode method_7_code 13 = .ok (.astore 4, 2) := by decide +kernel
theorem d_La_fact_15 : decode method_7_code 15 = .ok (.iconst 1, 1) := by decide +kernel
theorem d_La_fact_16 : decode method_7_code 16 = .ok (.ireturn, 1) := by decide +kernel
theorem d_La_fact_17 : decode method_7_code 17 = .ok (.iconst 0, 1) := by decide +kernel
theorem d_La_fact_18 : decode method_7_code 18 = .ok (.ireturn, 1) := by decide +kernel
theorem zt_347 : (Cond.methodLink "MergeGraphsLaw" (27 : Nat) (⟨"MergeGraphs", "fact", "(II)I"⟩ : MethodName)) ∈ zTg := zmem 347 (by decide +kernel) (by decide +kernel)
theorem zt_348 : (Cond.instanceMethod (⟨"MergeGraphs", "fact", "(II)I"⟩ : MethodName)) ∈ zTg := zmem 348 (by decide +kernel) (by decide +kernel)
theorem zt_349 : (Cond.selects "MergeGraphs" (⟨"MergeGraphs", "fact", "(II)I"⟩ : MethodName) (⟨"MergeGraphs", "fact", "(II)I"⟩ : MethodName)) ∈ zTg := zmem 349 (by decide +kernel) (by decide +kernel)
def y_La_alike : MethodName := ⟨"MergeGraphsLaw", "alike", "(LMergeGraphs;II[J)I"⟩
abbrev M_La_alike : zM := ("MergeGraphsLaw", method_8_code, 5, (some .int), 16)
abbrev hh_La_alike : List (Nat × Nat × Nat × Nat) := [((0 : Nat), (17 : Nat), (20 : Nat), (13 : Nat))]
set_option maxRecDepth 100000 in
theorem zk_La_alike : Cond.codeWith y_La_alike (M_La_alike).2.1 (M_La_alike).2.2.1 (M_La_alike).2.2.2.1 hh_La_alike ∈ zTg := zmem 358 rfl rfl
theorem zy_La_alike : (y_La_alike).cls ≠ "java/lang/invoke/MethodHandle" ∧ (y_La_alike).cls ≠ "java/lang/invoke/VarHandle" ∧ (parseMethodDescriptor (y_La_alike).desc).map (fun d => d.parameters.length) = some 4 := by decide +kernel
theorem d_La_alike_0 : decode method_8_code 0 = .ok (.aload_n 3, 1) := by decide +kernel
theorem d_La_alike_1 : decode method_8_code 1 = .ok (.iconst 0, 1) := by decide +kernel
theorem d_La_alike_2 : decode method_8_code 2 = .ok (.aload_n 0, 1) := by decide +kernel
theorem d_La_alike_3 : decode method_8_code 3 = .ok (.iload_n 1, 1) := by decide +kernel
theorem d_La_alike_4 : decode method_8_code 4 = .ok (.iload_n 2, 1) := by decide +kernel
theorem d_La_alike_5 : decode method_8_code 5 = .ok (.invokevirtual 30, 3) := by decide +kernel
theorem d_La_alike_8 : decode method_8_code 8 = .ok (.ifCond .eq 7, 3) := by decide +kernel
theorem d_La_alike_11 : decode method_8_code 11 = .ok (.lconst 1, 1) := by decide +kernel
theorem d_La_alike_12 : decode method_8_code 12 = .ok (.goto 4, 3) := by decide +kernel
theorem d_La_alike_15 : decode method_8_code 15 = .ok (.lconst 0, 1) := by decide +kernel
theorem d_La_alike_16 : decode method_8_code 16 = .ok (.lastore, 1) := by decide +kernel
theorem d_La_alike_17 : decode method_8_code 17 = .ok (.goto 7, 3) := by decide +kernel
theorem d_La_alike_20 : decode method_8_code 20 = .ok (.astore 4, 2) := by decide +kernel
theorem d_La_alike_22 : decode method_8_code 22 = .ok (.iconst 1, 1) := by decide +kernel
theorem d_La_alike_23 : decode method_8_code 23 = .ok (.ireturn, 1) := by decide +kernel
theorem d_La_alike_24 : decode method_8_code 24 = .ok (.iconst 0, 1) := by decide +kernel
theorem d_La_alike_25 : decode method_8_code 25 = .ok (.ireturn, 1) := by decide +kernel
theorem zt_359 : (Cond.methodLink "MergeGraphsLaw" (30 : Nat) (⟨"MergeGraphs", "alike", "(II)Z"⟩ : MethodName)) ∈ zTg := zmem 359 (by decide +kernel) (by decide +kernel)
theorem zt_360 : (Cond.instanceMethod (⟨"MergeGraphs", "alike", "(II)Z"⟩ : MethodName)) ∈ zTg := zmem 360 (by decide +kernel) (by decide +kernel)
theorem zt_361 : (Cond.selects "MergeGraphs" (⟨"MergeGraphs", "alike", "(II)Z"⟩ : MethodName) (⟨"MergeGraphs", "alike", "(II)Z"⟩ : MethodName)) ∈ zTg := zmem 361 (by decide +kernel) (by decide +kernel)
def y_La_image : MethodName := ⟨"MergeGraphsLaw", "image", "(LMergeGraphs;III[J)I"⟩
abbrev M_La_image : zM := ("MergeGraphsLaw", method_9_code, 6, (some .int), 16)
abbrev hh_La_image : List (Nat × Nat × Nat × Nat) := [((0 : Nat), (12 : Nat), (15 : Nat), (13 : Nat))]
set_option maxRecDepth 100000 in
theorem zk_La_image : Cond.codeWith y_La_image (M_La_image).2.1 (M_La_image).2.2.1 (M_La_image).2.2.2.1 hh_La_image ∈ zTg := zmem 455 rfl rfl
theorem zy_La_image : (y_La_image).cls ≠ "java/lang/invoke/MethodHandle" ∧ (y_La_image).cls ≠ "java/lang/invoke/VarHandle" ∧ (parseMethodDescriptor (y_La_image).desc).map (fun d => d.parameters.length) = some 5 := by decide +kernel
theorem d_La_image_0 : decode method_9_code 0 = .ok (.aload 4, 2) := by decide +kernel
theorem d_La_image_2 : decode method_9_code 2 = .ok (.iconst 0, 1) := by decide +kernel
theorem d_La_image_3 : decode method_9_code 3 = .ok (.aload_n 0, 1) := by decide +kernel
theorem d_La_image_4 : decode method_9_code 4 = .ok (.iload_n 1, 1) := by decide +kernel
theorem d_La_image_5 : decode method_9_code 5 = .ok (.iload_n 2, 1) := by decide +kernel
theorem d_La_image_6 : decode method_9_code 6 = .ok (.iload_n 3, 1) := by decide +kernel
theorem d_La_image_7 : decode method_9_code 7 = .ok (.invokevirtual 34, 3) := by decide +kernel
theorem d_La_image_10 : decode method_9_code 10 = .ok (.i2l, 1) := by decide +kernel
theorem d_La_image_11 : decode method_9_code 11 = .ok (.lastore, 1) := by decide +kernel
theorem d_La_image_12 : decode method_9_code 12 = .ok (.goto 7, 3) := by decide +kernel
theorem d_La_image_15 : decode method_9_code 15 = .ok (.astore 5, 2) := by decide +kernel
theorem d_La_image_17 : decode method_9_code 17 = .ok (.iconst 1, 1) := by decide +kernel
theorem d_La_image_18 : decode method_9_code 18 = .ok (.ireturn, 1) := by decide +kernel
theorem d_La_image_19 : decode method_9_code 19 = .ok (.iconst 0, 1) := by decide +kernel
theorem d_La_image_20 : decode method_9_code 20 = .ok (.ireturn, 1) := by decide +kernel
theorem zt_456 : (Cond.methodLink "MergeGraphsLaw" (34 : Nat) (⟨"MergeGraphs", "image", "(III)I"⟩ : MethodName)) ∈ zTg := zmem 456 (by decide +kernel) (by decide +kernel)
theorem zt_457 : (Cond.instanceMethod (⟨"MergeGraphs", "image", "(III)I"⟩ : MethodName)) ∈ zTg := zmem 457 (by decide +kernel) (by decide +kernel)
theorem zt_458 : (Cond.selects "MergeGraphs" (⟨"MergeGraphs", "image", "(III)I"⟩ : MethodName) (⟨"MergeGraphs", "image", "(III)I"⟩ : MethodName)) ∈ zTg := zmem 458 (by decide +kernel) (by decide +kernel)
def y_La_form : MethodName := ⟨"MergeGraphsLaw", "form", "(LMergeGraphs;II[J)I"⟩
abbrev M_La_form : zM := ("MergeGraphsLaw", method_10_code, 5, (some .int), 14)
abbrev hh_La_form : List (Nat × Nat × Nat × Nat) := [((0 : Nat), (10 : Nat), (13 : Nat), (13 : Nat))]
set_option maxRecDepth 100000 in
theorem zk_La_form : Cond.codeWith y_La_form (M_La_form).2.1 (M_La_form).2.2.1 (M_La_form).2.2.2.1 hh_La_form ∈ zTg := zmem 466 rfl rfl
theorem zy_La_form : (y_La_form).cls ≠ "java/lang/invoke/MethodHandle" ∧ (y_La_form).cls ≠ "java/lang/invoke/VarHandle" ∧ (parseMethodDescriptor (y_La_form).desc).map (fun d => d.parameters.length) = some 4 := by decide +kernel
theorem d_La_form_0 : decode method_10_code 0 = .ok (.aload_n 3, 1) := by decide +kernel
theorem d_La_form_1 : decode method_10_code 1 = .ok (.iconst 0, 1) := by decide +kernel
theorem d_La_form_2 : decode method_10_code 2 = .ok (.aload_n 0, 1) := by decide +kernel
theorem d_La_form_3 : decode method_10_code 3 = .ok (.iload_n 1, 1) := by decide +kernel
theorem d_La_form_4 : decode method_10_code 4 = .ok (.iload_n 2, 1) := by decide +kernel
theorem d_La_form_5 : decode method_10_code 5 = .ok (.invokevirtual 38, 3) := by decide +kernel
theorem d_La_form_8 : decode method_10_code 8 = .ok (.i2l, 1) := by decide +kernel
theorem d_La_form_9 : decode method_10_code 9 = .ok (.lastore, 1) := by decide +kernel
theorem d_La_form_10 : decode method_10_code 10 = .ok (.goto 7, 3) := by decide +kernel
theorem d_La_form_13 : decode method_10_code 13 = .ok (.astore 4, 2) := by decide +kernel
theorem d_La_form_15 : decode method_10_code 15 = .ok (.iconst 1, 1) := by decide +kernel
theorem d_La_form_16 : decode method_10_code 16 = .ok (.ireturn, 1) := by decide +kernel
theorem d_La_form_17 : decode method_10_code 17 = .ok (.iconst 0, 1) := by decide +kernel
theorem d_La_form_18 : decode method_10_code 18 = .ok (.ireturn, 1) := by decide +kernel
theorem zt_467 : (Cond.methodLink "MergeGraphsLaw" (38 : Nat) (⟨"MergeGraphs", "form", "(II)I"⟩ : MethodName)) ∈ zTg := zmem 467 (by decide +kernel) (by decide +kernel)
theorem zt_468 : (Cond.instanceMethod (⟨"MergeGraphs", "form", "(II)I"⟩ : MethodName)) ∈ zTg := zmem 468 (by decide +kernel) (by decide +kernel)
theorem zt_469 : (Cond.selects "MergeGraphs" (⟨"MergeGraphs", "form", "(II)I"⟩ : MethodName) (⟨"MergeGraphs", "form", "(II)I"⟩ : MethodName)) ∈ zTg := zmem 469 (by decide +kernel) (by decide +kernel)
def y_La_follows : MethodName := ⟨"MergeGraphsLaw", "follows", "(LMergeGraphs;II[J)I"⟩
abbrev M_La_follows : zM := ("MergeGraphsLaw", method_11_code, 5, (some .int), 15)
abbrev hh_La_follows : List (Nat × Nat × Nat × Nat) := [((0 : Nat), (17 : Nat), (20 : Nat), (13 : Nat))]
set_option maxRecDepth 100000 in
theorem zk_La_follows : Cond.codeWith y_La_follows (M_La_follows).2.1 (M_La_follows).2.2.1 (M_La_follows).2.2.2.1 hh_La_follows ∈ zTg := zmem 527 rfl rfl
theorem zy_La_follows : (y_La_follows).cls ≠ "java/lang/invoke/MethodHandle" ∧ (y_La_follows).cls ≠ "java/lang/invoke/VarHandle" ∧ (parseMethodDescriptor (y_La_follows).desc).map (fun d => d.parameters.length) = some 4 := by decide +kernel
theorem d_La_follows_0 : decode method_11_code 0 = .ok (.aload_n 3, 1) := by decide +kernel
theorem d_La_follows_1 : decode method_11_code 1 = .ok (.iconst 0, 1) := by decide +kernel
theorem d_La_follows_2 : decode method_11_code 2 = .ok (.aload_n 0, 1) := by decide +kernel
theorem d_La_follows_3 : decode method_11_code 3 = .ok (.iload_n 1, 1) := by decide +kernel
theorem d_La_follows_4 : decode method_11_code 4 = .ok (.iload_n 2, 1) := by decide +kernel
theorem d_La_follows_5 : decode method_11_code 5 = .ok (.invokevirtual 41, 3) := by decide +kernel
theorem d_La_follows_8 : decode method_11_code 8 = .ok (.ifCond .eq 7, 3) := by decide +kernel
theorem d_La_follows_11 : decode method_11_code 11 = .ok (.lconst 1, 1) := by decide +kernel
theorem d_La_follows_12 : decode method_11_code 12 = .ok (.goto 4, 3) := by decide +kernel
theorem d_La_follows_15 : decode method_11_code 15 = .ok (.lconst 0, 1) := by decide +kernel
theorem d_La_follows_16 : decode method_11_code 16 = .ok (.lastore, 1) := by decide +kernel
theorem d_La_follows_17 : decode method_11_code 17 = .ok (.goto 7, 3) := by decide +kernel
theorem d_La_follows_20 : decode method_11_code 20 = .ok (.astore 4, 2) := by decide +kernel
theorem d_La_follows_22 : decode method_11_code 22 = .ok (.iconst 1, 1) := by decide +kernel
theorem d_La_follows_23 : decode method_11_code 23 = .ok (.ireturn, 1) := by decide +kernel
theorem d_La_follows_24 : decode method_11_code 24 = .ok (.iconst 0, 1) := by decide +kernel
theorem d_La_follows_25 : decode method_11_code 25 = .ok (.ireturn, 1) := by decide +kernel
theorem zt_528 : (Cond.methodLink "MergeGraphsLaw" (41 : Nat) (⟨"MergeGraphs", "follows", "(II)Z"⟩ : MethodName)) ∈ zTg := zmem 528 (by decide +kernel) (by decide +kernel)
theorem zt_529 : (Cond.instanceMethod (⟨"MergeGraphs", "follows", "(II)Z"⟩ : MethodName)) ∈ zTg := zmem 529 (by decide +kernel) (by decide +kernel)
theorem zt_530 : (Cond.selects "MergeGraphs" (⟨"MergeGraphs", "follows", "(II)Z"⟩ : MethodName) (⟨"MergeGraphs", "follows", "(II)Z"⟩ : MethodName)) ∈ zTg := zmem 530 (by decide +kernel) (by decide +kernel)
def y_La_putting : MethodName := ⟨"MergeGraphsLaw", "putting", "(LMergeGraphs;III[J)I"⟩
abbrev M_La_putting : zM := ("MergeGraphsLaw", method_12_code, 6, (some .int), 15)
abbrev hh_La_putting : List (Nat × Nat × Nat × Nat) := [((0 : Nat), (12 : Nat), (15 : Nat), (13 : Nat))]
set_option maxRecDepth 100000 in
theorem zk_La_putting : Cond.codeWith y_La_putting (M_La_putting).2.1 (M_La_putting).2.2.1 (M_La_putting).2.2.2.1 hh_La_putting ∈ zTg := zmem 534 rfl rfl
theorem zy_La_putting : (y_La_putting).cls ≠ "java/lang/invoke/MethodHandle" ∧ (y_La_putting).cls ≠ "java/lang/invoke/VarHandle" ∧ (parseMethodDescriptor (y_La_putting).desc).map (fun d => d.parameters.length) = some 5 := by decide +kernel
theorem d_La_putting_0 : decode method_12_code 0 = .ok (.aload 4, 2) := by decide +kernel
theorem d_La_putting_2 : decode method_12_code 2 = .ok (.iconst 0, 1) := by decide +kernel
theorem d_La_putting_3 : decode method_12_code 3 = .ok (.aload_n 0, 1) := by decide +kernel
theorem d_La_putting_4 : decode method_12_code 4 = .ok (.iload_n 1, 1) := by decide +kernel
theorem d_La_putting_5 : decode method_12_code 5 = .ok (.iload_n 2, 1) := by decide +kernel
theorem d_La_putting_6 : decode method_12_code 6 = .ok (.iload_n 3, 1) := by decide +kernel
theorem d_La_putting_7 : decode method_12_code 7 = .ok (.invokevirtual 44, 3) := by decide +kernel
theorem d_La_putting_10 : decode method_12_code 10 = .ok (.i2l, 1) := by decide +kernel
theorem d_La_putting_11 : decode method_12_code 11 = .ok (.lastore, 1) := by decide +kernel
theorem d_La_putting_12 : decode method_12_code 12 = .ok (.goto 7, 3) := by decide +kernel
theorem d_La_putting_15 : decode method_12_code 15 = .ok (.astore 5, 2) := by decide +kernel
theorem d_La_putting_17 : decode method_12_code 17 = .ok (.iconst 1, 1) := by decide +kernel
theorem d_La_putting_18 : decode method_12_code 18 = .ok (.ireturn, 1) := by decide +kernel
theorem d_La_putting_19 : decode method_12_code 19 = .ok (.iconst 0, 1) := by decide +kernel
theorem d_La_putting_20 : decode method_12_code 20 = .ok (.ireturn, 1) := by decide +kernel
theorem zt_535 : (Cond.methodLink "MergeGraphsLaw" (44 : Nat) (⟨"MergeGraphs", "putting", "(III)I"⟩ : MethodName)) ∈ zTg := zmem 535 (by decide +kernel) (by decide +kernel)
theorem zt_536 : (Cond.instanceMethod (⟨"MergeGraphs", "putting", "(III)I"⟩ : MethodName)) ∈ zTg := zmem 536 (by decide +kernel) (by decide +kernel)
theorem zt_537 : (Cond.selects "MergeGraphs" (⟨"MergeGraphs", "putting", "(III)I"⟩ : MethodName) (⟨"MergeGraphs", "putting", "(III)I"⟩ : MethodName)) ∈ zTg := zmem 537 (by decide +kernel) (by decide +kernel)
def y_La_lean : MethodName := ⟨"MergeGraphsLaw", "lean", "(LMergeGraphs;I[J)I"⟩
abbrev M_La_lean : zM := ("MergeGraphsLaw", method_13_code, 4, (some .int), 16)
abbrev hh_La_lean : List (Nat × Nat × Nat × Nat) := [((0 : Nat), (16 : Nat), (19 : Nat), (13 : Nat))]
set_option maxRecDepth 100000 in
theorem zk_La_lean : Cond.codeWith y_La_lean (M_La_lean).2.1 (M_La_lean).2.2.1 (M_La_lean).2.2.2.1 hh_La_lean ∈ zTg := zmem 541 rfl rfl
theorem zy_La_lean : (y_La_lean).cls ≠ "java/lang/invoke/MethodHandle" ∧ (y_La_lean).cls ≠ "java/lang/invoke/VarHandle" ∧ (parseMethodDescriptor (y_La_lean).desc).map (fun d => d.parameters.length) = some 3 := by decide +kernel
theorem d_La_lean_0 : decode method_13_code 0 = .ok (.aload_n 2, 1) := by decide +kernel
theorem d_La_lean_1 : decode method_13_code 1 = .ok (.iconst 0, 1) := by decide +kernel
theorem d_La_lean_2 : decode method_13_code 2 = .ok (.aload_n 0, 1) := by decide +kernel
theorem d_La_lean_3 : decode method_13_code 3 = .ok (.iload_n 1, 1) := by decide +kernel
theorem d_La_lean_4 : decode method_13_code 4 = .ok (.invokevirtual 47, 3) := by decide +kernel
theorem d_La_lean_7 : decode method_13_code 7 = .ok (.ifCond .eq 7, 3) := by decide +kernel
theorem d_La_lean_10 : decode method_13_code 10 = .ok (.lconst 1, 1) := by decide +kernel
theorem d_La_lean_11 : decode method_13_code 11 = .ok (.goto 4, 3) := by decide +kernel
theorem d_La_lean_14 : decode method_13_code 14 = .ok (.lconst 0, 1) := by decide +kernel
theorem d_La_lean_15 : decode method_13_code 15 = .ok (.lastore, 1) := by decide +kernel
theorem d_La_lean_16 : decode method_13_code 16 = .ok (.goto 6, 3) := by decide +kernel
theorem d_La_lean_19 : decode method_13_code 19 = .ok (.astore_n 3, 1) := by decide +kernel
theorem d_La_lean_20 : decode method_13_code 20 = .ok (.iconst 1, 1) := by decide +kernel
theorem d_La_lean_21 : decode method_13_code 21 = .ok (.ireturn, 1) := by decide +kernel
theorem d_La_lean_22 : decode method_13_code 22 = .ok (.iconst 0, 1) := by decide +kernel
theorem d_La_lean_23 : decode method_13_code 23 = .ok (.ireturn, 1) := by decide +kernel
theorem zt_542 : (Cond.methodLink "MergeGraphsLaw" (47 : Nat) (⟨"MergeGraphs", "lean", "(I)Z"⟩ : MethodName)) ∈ zTg := zmem 542 (by decide +kernel) (by decide +kernel)
theorem zt_543 : (Cond.instanceMethod (⟨"MergeGraphs", "lean", "(I)Z"⟩ : MethodName)) ∈ zTg := zmem 543 (by decide +kernel) (by decide +kernel)
theorem zt_544 : (Cond.selects "MergeGraphs" (⟨"MergeGraphs", "lean", "(I)Z"⟩ : MethodName) (⟨"MergeGraphs", "lean", "(I)Z"⟩ : MethodName)) ∈ zTg := zmem 544 (by decide +kernel) (by decide +kernel)
def y_La_core : MethodName := ⟨"MergeGraphsLaw", "core", "(LMergeGraphs;I[J)I"⟩
abbrev M_La_core : zM := ("MergeGraphsLaw", method_14_code, 4, (some .int), 16)
abbrev hh_La_core : List (Nat × Nat × Nat × Nat) := [((0 : Nat), (9 : Nat), (12 : Nat), (13 : Nat))]
set_option maxRecDepth 100000 in
theorem zk_La_core : Cond.codeWith y_La_core (M_La_core).2.1 (M_La_core).2.2.1 (M_La_core).2.2.2.1 hh_La_core ∈ zTg := zmem 563 rfl rfl
theorem zy_La_core : (y_La_core).cls ≠ "java/lang/invoke/MethodHandle" ∧ (y_La_core).cls ≠ "java/lang/invoke/VarHandle" ∧ (parseMethodDescriptor (y_La_core).desc).map (fun d => d.parameters.length) = some 3 := by decide +kernel
theorem d_La_core_0 : decode method_14_code 0 = .ok (.aload_n 2, 1) := by decide +kernel
theorem d_La_core_1 : decode method_14_code 1 = .ok (.iconst 0, 1) := by decide +kernel
theorem d_La_core_2 : decode method_14_code 2 = .ok (.aload_n 0, 1) := by decide +kernel
theorem d_La_core_3 : decode method_14_code 3 = .ok (.iload_n 1, 1) := by decide +kernel
theorem d_La_core_4 : decode method_14_code 4 = .ok (.invokevirtual 51, 3) := by decide +kernel
theorem d_La_core_7 : decode method_14_code 7 = .ok (.i2l, 1) := by decide +kernel
theorem d_La_core_8 : decode method_14_code 8 = .ok (.lastore, 1) := by decide +kernel
theorem d_La_core_9 : decode method_14_code 9 = .ok (.goto 6, 3) := by decide +kernel
theorem d_La_core_12 : decode method_14_code 12 = .ok (.astore_n 3, 1) := by decide +kernel
theorem d_La_core_13 : decode method_14_code 13 = .ok (.iconst 1, 1) := by decide +kernel
theorem d_La_core_14 : decode method_14_code 14 = .ok (.ireturn, 1) := by decide +kernel
theorem d_La_core_15 : decode method_14_code 15 = .ok (.iconst 0, 1) := by decide +kernel
theorem d_La_core_16 : decode method_14_code 16 = .ok (.ireturn, 1) := by decide +kernel
theorem zt_564 : (Cond.methodLink "MergeGraphsLaw" (51 : Nat) (⟨"MergeGraphs", "core", "(I)I"⟩ : MethodName)) ∈ zTg := zmem 564 (by decide +kernel) (by decide +kernel)
theorem zt_565 : (Cond.instanceMethod (⟨"MergeGraphs", "core", "(I)I"⟩ : MethodName)) ∈ zTg := zmem 565 (by decide +kernel) (by decide +kernel)
theorem zt_566 : (Cond.selects "MergeGraphs" (⟨"MergeGraphs", "core", "(I)I"⟩ : MethodName) (⟨"MergeGraphs", "core", "(I)I"⟩ : MethodName)) ∈ zTg := zmem 566 (by decide +kernel) (by decide +kernel)
def y_La_join : MethodName := ⟨"MergeGraphsLaw", "join", "(LMergeGraphs;III[J)I"⟩
abbrev M_La_join : zM := ("MergeGraphsLaw", method_15_code, 6, (some .int), 8)
abbrev hh_La_join : List (Nat × Nat × Nat × Nat) := [((0 : Nat), (12 : Nat), (15 : Nat), (13 : Nat))]
set_option maxRecDepth 100000 in
theorem zk_La_join : Cond.codeWith y_La_join (M_La_join).2.1 (M_La_join).2.2.1 (M_La_join).2.2.2.1 hh_La_join ∈ zTg := zmem 580 rfl rfl
theorem zy_La_join : (y_La_join).cls ≠ "java/lang/invoke/MethodHandle" ∧ (y_La_join).cls ≠ "java/lang/invoke/VarHandle" ∧ (parseMethodDescriptor (y_La_join).desc).map (fun d => d.parameters.length) = some 5 := by decide +kernel
theorem d_La_join_0 : decode method_15_code 0 = .ok (.aload 4, 2) := by decide +kernel
theorem d_La_join_2 : decode method_15_code 2 = .ok (.iconst 0, 1) := by decide +kernel
theorem d_La_join_3 : decode method_15_code 3 = .ok (.aload_n 0, 1) := by decide +kernel
theorem d_La_join_4 : decode method_15_code 4 = .ok (.iload_n 1, 1) := by decide +kernel
theorem d_La_join_5 : decode method_15_code 5 = .ok (.iload_n 2, 1) := by decide +kernel
theorem d_La_join_6 : decode method_15_code 6 = .ok (.iload_n 3, 1) := by decide +kernel
theorem d_La_join_7 : decode method_15_code 7 = .ok (.invokevirtual 55, 3) := by decide +kernel
theorem d_La_join_10 : decode method_15_code 10 = .ok (.i2l, 1) := by decide +kernel
theorem d_La_join_11 : decode method_15_code 11 = .ok (.lastore, 1) := by decide +kernel
theorem d_La_join_12 : decode method_15_code 12 = .ok (.goto 7, 3) := by decide +kernel
theorem d_La_join_15 : decode method_15_code 15 = .ok (.astore 5, 2) := by decide +kernel
theorem d_La_join_17 : decode method_15_code 17 = .ok (.iconst 1, 1) := by decide +kernel
theorem d_La_join_18 : decode method_15_code 18 = .ok (.ireturn, 1) := by decide +kernel
theorem d_La_join_19 : decode method_15_code 19 = .ok (.iconst 0, 1) := by decide +kernel
theorem d_La_join_20 : decode method_15_code 20 = .ok (.ireturn, 1) := by decide +kernel
theorem zt_581 : (Cond.methodLink "MergeGraphsLaw" (55 : Nat) (⟨"MergeGraphs", "join", "(III)I"⟩ : MethodName)) ∈ zTg := zmem 581 (by decide +kernel) (by decide +kernel)
theorem zt_582 : (Cond.instanceMethod (⟨"MergeGraphs", "join", "(III)I"⟩ : MethodName)) ∈ zTg := zmem 582 (by decide +kernel) (by decide +kernel)
theorem zt_583 : (Cond.selects "MergeGraphs" (⟨"MergeGraphs", "join", "(III)I"⟩ : MethodName) (⟨"MergeGraphs", "join", "(III)I"⟩ : MethodName)) ∈ zTg := zmem 583 (by decide +kernel) (by decide +kernel)
def y_La_merge : MethodName := ⟨"MergeGraphsLaw", "merge", "(LMergeGraphs;IIII[J)I"⟩
abbrev M_La_merge : zM := ("MergeGraphsLaw", method_16_code, 7, (some .int), 8)
abbrev hh_La_merge : List (Nat × Nat × Nat × Nat) := [((0 : Nat), (14 : Nat), (17 : Nat), (13 : Nat))]
set_option maxRecDepth 100000 in
theorem zk_La_merge : Cond.codeWith y_La_merge (M_La_merge).2.1 (M_La_merge).2.2.1 (M_La_merge).2.2.2.1 hh_La_merge ∈ zTg := zmem 593 rfl rfl
theorem zy_La_merge : (y_La_merge).cls ≠ "java/lang/invoke/MethodHandle" ∧ (y_La_merge).cls ≠ "java/lang/invoke/VarHandle" ∧ (parseMethodDescriptor (y_La_merge).desc).map (fun d => d.parameters.length) = some 6 := by decide +kernel
theorem d_La_merge_0 : decode method_16_code 0 = .ok (.aload 5, 2) := by decide +kernel
theorem d_La_merge_2 : decode method_16_code 2 = .ok (.iconst 0, 1) := by decide +kernel
theorem d_La_merge_3 : decode method_16_code 3 = .ok (.aload_n 0, 1) := by decide +kernel
theorem d_La_merge_4 : decode method_16_code 4 = .ok (.iload_n 1, 1) := by decide +kernel
theorem d_La_merge_5 : decode method_16_code 5 = .ok (.iload_n 2, 1) := by decide +kernel
theorem d_La_merge_6 : decode method_16_code 6 = .ok (.iload_n 3, 1) := by decide +kernel
theorem d_La_merge_7 : decode method_16_code 7 = .ok (.iload 4, 2) := by decide +kernel
theorem d_La_merge_9 : decode method_16_code 9 = .ok (.invokevirtual 58, 3) := by decide +kernel
theorem d_La_merge_12 : decode method_16_code 12 = .ok (.i2l, 1) := by decide +kernel
theorem d_La_merge_13 : decode method_16_code 13 = .ok (.lastore, 1) := by decide +kernel
theorem d_La_merge_14 : decode method_16_code 14 = .ok (.goto 7, 3) := by decide +kernel
theorem d_La_merge_17 : decode method_16_code 17 = .ok (.astore 6, 2) := by decide +kernel
theorem d_La_merge_19 : decode method_16_code 19 = .ok (.iconst 1, 1) := by decide +kernel
theorem d_La_merge_20 : decode method_16_code 20 = .ok (.ireturn, 1) := by decide +kernel
theorem d_La_merge_21 : decode method_16_code 21 = .ok (.iconst 0, 1) := by decide +kernel
theorem d_La_merge_22 : decode method_16_code 22 = .ok (.ireturn, 1) := by decide +kernel
theorem zt_594 : (Cond.methodLink "MergeGraphsLaw" (58 : Nat) (⟨"MergeGraphs", "merge", "(IIII)I"⟩ : MethodName)) ∈ zTg := zmem 594 (by decide +kernel) (by decide +kernel)
theorem zt_595 : (Cond.instanceMethod (⟨"MergeGraphs", "merge", "(IIII)I"⟩ : MethodName)) ∈ zTg := zmem 595 (by decide +kernel) (by decide +kernel)
theorem zt_596 : (Cond.selects "MergeGraphs" (⟨"MergeGraphs", "merge", "(IIII)I"⟩ : MethodName) (⟨"MergeGraphs", "merge", "(IIII)I"⟩ : MethodName)) ∈ zTg := zmem 596 (by decide +kernel) (by decide +kernel)
def y_La_clash : MethodName := ⟨"MergeGraphsLaw", "clash", "(LMergeGraphs;II[J)I"⟩
abbrev M_La_clash : zM := ("MergeGraphsLaw", method_17_code, 5, (some .int), 8)
abbrev hh_La_clash : List (Nat × Nat × Nat × Nat) := [((0 : Nat), (10 : Nat), (13 : Nat), (13 : Nat))]
set_option maxRecDepth 100000 in
theorem zk_La_clash : Cond.codeWith y_La_clash (M_La_clash).2.1 (M_La_clash).2.2.1 (M_La_clash).2.2.2.1 hh_La_clash ∈ zTg := zmem 631 rfl rfl
theorem zy_La_clash : (y_La_clash).cls ≠ "java/lang/invoke/MethodHandle" ∧ (y_La_clash).cls ≠ "java/lang/invoke/VarHandle" ∧ (parseMethodDescriptor (y_La_clash).desc).map (fun d => d.parameters.length) = some 4 := by decide +kernel
theorem d_La_clash_0 : decode method_17_code 0 = .ok (.aload_n 3, 1) := by decide +kernel
theorem d_La_clash_1 : decode method_17_code 1 = .ok (.iconst 0, 1) := by decide +kernel
theorem d_La_clash_2 : decode method_17_code 2 = .ok (.aload_n 0, 1) := by decide +kernel
theorem d_La_clash_3 : decode method_17_code 3 = .ok (.iload_n 1, 1) := by decide +kernel
theorem d_La_clash_4 : decode method_17_code 4 = .ok (.iload_n 2, 1) := by decide +kernel
theorem d_La_clash_5 : decode method_17_code 5 = .ok (.invokevirtual 61, 3) := by decide +kernel
theorem d_La_clash_8 : decode method_17_code 8 = .ok (.i2l, 1) := by decide +kernel
theorem d_La_clash_9 : decode method_17_code 9 = .ok (.lastore, 1) := by decide +kernel
theorem d_La_clash_10 : decode method_17_code 10 = .ok (.goto 7, 3) := by decide +kernel
theorem d_La_clash_13 : decode method_17_code 13 = .ok (.astore 4, 2) := by decide +kernel
theorem d_La_clash_15 : decode method_17_code 15 = .ok (.iconst 1, 1) := by decide +kernel
theorem d_La_clash_16 : decode method_17_code 16 = .ok (.ireturn, 1) := by decide +kernel
theorem d_La_clash_17 : decode method_17_code 17 = .ok (.iconst 0, 1) := by decide +kernel
theorem d_La_clash_18 : decode method_17_code 18 = .ok (.ireturn, 1) := by decide +kernel
theorem zt_632 : (Cond.methodLink "MergeGraphsLaw" (61 : Nat) (⟨"MergeGraphs", "clash", "(II)I"⟩ : MethodName)) ∈ zTg := zmem 632 (by decide +kernel) (by decide +kernel)
theorem zt_633 : (Cond.instanceMethod (⟨"MergeGraphs", "clash", "(II)I"⟩ : MethodName)) ∈ zTg := zmem 633 (by decide +kernel) (by decide +kernel)
theorem zt_634 : (Cond.selects "MergeGraphs" (⟨"MergeGraphs", "clash", "(II)I"⟩ : MethodName) (⟨"MergeGraphs", "clash", "(II)I"⟩ : MethodName)) ∈ zTg := zmem 634 (by decide +kernel) (by decide +kernel)
def y_La_change : MethodName := ⟨"MergeGraphsLaw", "change", "(LMergeGraphs;II[J)I"⟩
abbrev M_La_change : zM := ("MergeGraphsLaw", method_18_code, 5, (some .int), 8)
abbrev hh_La_change : List (Nat × Nat × Nat × Nat) := [((0 : Nat), (10 : Nat), (13 : Nat), (13 : Nat))]
set_option maxRecDepth 100000 in
theorem zk_La_change : Cond.codeWith y_La_change (M_La_change).2.1 (M_La_change).2.2.1 (M_La_change).2.2.2.1 hh_La_change ∈ zTg := zmem 642 rfl rfl
theorem zy_La_change : (y_La_change).cls ≠ "java/lang/invoke/MethodHandle" ∧ (y_La_change).cls ≠ "java/lang/invoke/VarHandle" ∧ (parseMethodDescriptor (y_La_change).desc).map (fun d => d.parameters.length) = some 4 := by decide +kernel
theorem d_La_change_0 : decode method_18_code 0 = .ok (.aload_n 3, 1) := by decide +kernel
theorem d_La_change_1 : decode method_18_code 1 = .ok (.iconst 0, 1) := by decide +kernel
theorem d_La_change_2 : decode method_18_code 2 = .ok (.aload_n 0, 1) := by decide +kernel
theorem d_La_change_3 : decode method_18_code 3 = .ok (.iload_n 1, 1) := by decide +kernel
theorem d_La_change_4 : decode method_18_code 4 = .ok (.iload_n 2, 1) := by decide +kernel
theorem d_La_change_5 : decode method_18_code 5 = .ok (.invokevirtual 64, 3) := by decide +kernel
theorem d_La_change_8 : decode method_18_code 8 = .ok (.i2l, 1) := by decide +kernel
theorem d_La_change_9 : decode method_18_code 9 = .ok (.lastore, 1) := by decide +kernel
theorem d_La_change_10 : decode method_18_code 10 = .ok (.goto 7, 3) := by decide +kernel
theorem d_La_change_13 : decode method_18_code 13 = .ok (.astore 4, 2) := by decide +kernel
theorem d_La_change_15 : decode method_18_code 15 = .ok (.iconst 1, 1) := by decide +kernel
theorem d_La_change_16 : decode method_18_code 16 = .ok (.ireturn, 1) := by decide +kernel
theorem d_La_change_17 : decode method_18_code 17 = .ok (.iconst 0, 1) := by decide +kernel
theorem d_La_change_18 : decode method_18_code 18 = .ok (.ireturn, 1) := by decide +kernel
theorem zt_643 : (Cond.methodLink "MergeGraphsLaw" (64 : Nat) (⟨"MergeGraphs", "change", "(II)I"⟩ : MethodName)) ∈ zTg := zmem 643 (by decide +kernel) (by decide +kernel)
theorem zt_644 : (Cond.instanceMethod (⟨"MergeGraphs", "change", "(II)I"⟩ : MethodName)) ∈ zTg := zmem 644 (by decide +kernel) (by decide +kernel)
theorem zt_645 : (Cond.selects "MergeGraphs" (⟨"MergeGraphs", "change", "(II)I"⟩ : MethodName) (⟨"MergeGraphs", "change", "(II)I"⟩ : MethodName)) ∈ zTg := zmem 645 (by decide +kernel) (by decide +kernel)
def y_La_part : MethodName := ⟨"MergeGraphsLaw", "part", "(LMergeGraphs;II[J)I"⟩
abbrev M_La_part : zM := ("MergeGraphsLaw", method_19_code, 5, (some .int), 8)
abbrev hh_La_part : List (Nat × Nat × Nat × Nat) := [((0 : Nat), (10 : Nat), (13 : Nat), (13 : Nat))]
set_option maxRecDepth 100000 in
theorem zk_La_part : Cond.codeWith y_La_part (M_La_part).2.1 (M_La_part).2.2.1 (M_La_part).2.2.2.1 hh_La_part ∈ zTg := zmem 649 rfl rfl
theorem zy_La_part : (y_La_part).cls ≠ "java/lang/invoke/MethodHandle" ∧ (y_La_part).cls ≠ "java/lang/invoke/VarHandle" ∧ (parseMethodDescriptor (y_La_part).desc).map (fun d => d.parameters.length) = some 4 := by decide +kernel
theorem d_La_part_0 : decode method_19_code 0 = .ok (.aload_n 3, 1) := by decide +kernel
theorem d_La_part_1 : decode method_19_code 1 = .ok (.iconst 0, 1) := by decide +kernel
theorem d_La_part_2 : decode method_19_code 2 = .ok (.aload_n 0, 1) := by decide +kernel
theorem d_La_part_3 : decode method_19_code 3 = .ok (.iload_n 1, 1) := by decide +kernel
theorem d_La_part_4 : decode method_19_code 4 = .ok (.iload_n 2, 1) := by decide +kernel
theorem d_La_part_5 : decode method_19_code 5 = .ok (.invokevirtual 67, 3) := by decide +kernel
theorem d_La_part_8 : decode method_19_code 8 = .ok (.i2l, 1) := by decide +kernel
theorem d_La_part_9 : decode method_19_code 9 = .ok (.lastore, 1) := by decide +kernel
theorem d_La_part_10 : decode method_19_code 10 = .ok (.goto 7, 3) := by decide +kernel
theorem d_La_part_13 : decode method_19_code 13 = .ok (.astore 4, 2) := by decide +kernel
theorem d_La_part_15 : decode method_19_code 15 = .ok (.iconst 1, 1) := by decide +kernel
theorem d_La_part_16 : decode method_19_code 16 = .ok (.ireturn, 1) := by decide +kernel
theorem d_La_part_17 : decode method_19_code 17 = .ok (.iconst 0, 1) := by decide +kernel
theorem d_La_part_18 : decode method_19_code 18 = .ok (.ireturn, 1) := by decide +kernel
theorem zt_650 : (Cond.methodLink "MergeGraphsLaw" (67 : Nat) (⟨"MergeGraphs", "part", "(II)I"⟩ : MethodName)) ∈ zTg := zmem 650 (by decide +kernel) (by decide +kernel)
theorem zt_651 : (Cond.instanceMethod (⟨"MergeGraphs", "part", "(II)I"⟩ : MethodName)) ∈ zTg := zmem 651 (by decide +kernel) (by decide +kernel)
theorem zt_652 : (Cond.selects "MergeGraphs" (⟨"MergeGraphs", "part", "(II)I"⟩ : MethodName) (⟨"MergeGraphs", "part", "(II)I"⟩ : MethodName)) ∈ zTg := zmem 652 (by decide +kernel) (by decide +kernel)
def y_La_apply : MethodName := ⟨"MergeGraphsLaw", "apply", "(LMergeGraphs;IZ[J)I"⟩
abbrev M_La_apply : zM := ("MergeGraphsLaw", method_20_code, 5, (some .int), 8)
abbrev hh_La_apply : List (Nat × Nat × Nat × Nat) := [((0 : Nat), (10 : Nat), (13 : Nat), (13 : Nat))]
set_option maxRecDepth 100000 in
theorem zk_La_apply : Cond.codeWith y_La_apply (M_La_apply).2.1 (M_La_apply).2.2.1 (M_La_apply).2.2.2.1 hh_La_apply ∈ zTg := zmem 656 rfl rfl
theorem zy_La_apply : (y_La_apply).cls ≠ "java/lang/invoke/MethodHandle" ∧ (y_La_apply).cls ≠ "java/lang/invoke/VarHandle" ∧ (parseMethodDescriptor (y_La_apply).desc).map (fun d => d.parameters.length) = some 4 := by decide +kernel
theorem d_La_apply_0 : decode method_20_code 0 = .ok (.aload_n 3, 1) := by decide +kernel
theorem d_La_apply_1 : decode method_20_code 1 = .ok (.iconst 0, 1) := by decide +kernel
theorem d_La_apply_2 : decode method_20_code 2 = .ok (.aload_n 0, 1) := by decide +kernel
theorem d_La_apply_3 : decode method_20_code 3 = .ok (.iload_n 1, 1) := by decide +kernel
theorem d_La_apply_4 : decode method_20_code 4 = .ok (.iload_n 2, 1) := by decide +kernel
theorem d_La_apply_5 : decode method_20_code 5 = .ok (.invokevirtual 70, 3) := by decide +kernel
theorem d_La_apply_8 : decode method_20_code 8 = .ok (.i2l, 1) := by decide +kernel
theorem d_La_apply_9 : decode method_20_code 9 = .ok (.lastore, 1) := by decide +kernel
theorem d_La_apply_10 : decode method_20_code 10 = .ok (.goto 7, 3) := by decide +kernel
theorem d_La_apply_13 : decode method_20_code 13 = .ok (.astore 4, 2) := by decide +kernel
theorem d_La_apply_15 : decode method_20_code 15 = .ok (.iconst 1, 1) := by decide +kernel
theorem d_La_apply_16 : decode method_20_code 16 = .ok (.ireturn, 1) := by decide +kernel
theorem d_La_apply_17 : decode method_20_code 17 = .ok (.iconst 0, 1) := by decide +kernel
theorem d_La_apply_18 : decode method_20_code 18 = .ok (.ireturn, 1) := by decide +kernel
theorem zt_657 : (Cond.methodLink "MergeGraphsLaw" (70 : Nat) (⟨"MergeGraphs", "apply", "(IZ)I"⟩ : MethodName)) ∈ zTg := zmem 657 (by decide +kernel) (by decide +kernel)
theorem zt_658 : (Cond.instanceMethod (⟨"MergeGraphs", "apply", "(IZ)I"⟩ : MethodName)) ∈ zTg := zmem 658 (by decide +kernel) (by decide +kernel)
theorem zt_659 : (Cond.selects "MergeGraphs" (⟨"MergeGraphs", "apply", "(IZ)I"⟩ : MethodName) (⟨"MergeGraphs", "apply", "(IZ)I"⟩ : MethodName)) ∈ zTg := zmem 659 (by decide +kernel) (by decide +kernel)
def f_La_put (G : Nat) (x0 : Nat) (x1 : Int32) (x2 : Int32) (x3 : Int32) (x4 : Int32) (x5 : Nat) (h : pH) : Option pR := tC (oC h x0 3) (f_Mg_put G x0 x1 x2 x3 x4 h) (fun v15 h9 => (sJ h9 x5 (0 : Int32) (v15).toInt64).bind fun h16 => some (some (.int (0 : Int32)), h16)) (fun kd h9 => if kd = 1 then (some (some (.int (1 : Int32)), h9)) else (if kd = 2 then (some (some (.int (2 : Int32)), h9)) else (none)))
theorem f_La_put_eq (G : Nat) (x0 : Nat) (x1 : Int32) (x2 : Int32) (x3 : Int32) (x4 : Int32) (x5 : Nat) (h : pH) : f_La_put G x0 x1 x2 x3 x4 x5 h = (tC (oC h x0 3) (f_Mg_put G x0 x1 x2 x3 x4 h) (fun v15 h9 => (sJ h9 x5 (0 : Int32) (v15).toInt64).bind fun h16 => some (some (.int (0 : Int32)), h16)) (fun kd h9 => if kd = 1 then (some (some (.int (1 : Int32)), h9)) else (if kd = 2 then (some (some (.int (2 : Int32)), h9)) else (none)))) := rfl
set_option maxRecDepth 100000 in
set_option maxHeartbeats 4000000 in
theorem w_La_put_b0 {X : zX} {r : pR} {G : Nat} (hQ : zQ X r) (hT : zLOK X hh_La_put) (hkn : zkn X 2 12) : ∀ (x0 : Nat) (x1 : Int32) (x2 : Int32) (x3 : Int32) (x4 : Int32) (x5 : Nat) (h : pH), f_La_put G x0 x1 x2 x3 x4 x5 h = some r → Z X M_La_put 0 0 h 0 [(0, .ref x0), (1, .int x1), (2, .int x2), (3, .int x3), (4, .int x4), (5, .ref x5)] [] := by
  intro x0 x1 x2 x3 x4 x5 h E
  rw [f_La_put_eq] at E
  refine z_aload 5 d_La_put_0 rfl ?_
  refine z_iconst (v := (0 : Int32)) d_La_put_2 (by decide) ?_
  refine z_aload_n 0 d_La_put_3 rfl rfl ?_
  refine z_iload_n 1 d_La_put_4 rfl rfl ?_
  refine z_iload_n 2 d_La_put_5 rfl rfl ?_
  refine z_iload_n 3 d_La_put_6 rfl rfl ?_
  refine z_iload 4 d_La_put_7 rfl ?_
  obtain ⟨g10, ⟨rc12, h9⟩, e11, kx13, kk14⟩ := tC_some E
  dsimp only at kx13 kk14
  refine l_invV (ci := 3) (y := y_Mg_put) (Mc := M_Mg_put) (av := [.int x1, .int x2, .int x3, .int x4]) (rest := [.int (0 : Int32), .ref x5]) (mc1 := 2) (ms1 := 12) hT rfl rfl ⟨zt_178, zt_179, zt_180, zt_48⟩ zk_Mg_put zy_Mg_put (by decide) (Nat.le_of_ble_eq_true rfl) (zkn_le hkn (Nat.le_of_ble_eq_true rfl) (Nat.le_of_ble_eq_true rfl)) rfl (Nat.le_of_ble_eq_true rfl) d_La_put_9 g10 (m_Mg_put (zLOK_l hT) e11) (fun kd hkd => ?_) (fun w9 hw9 => ?_)
  · have E := kx13 kd hkd
    by_cases c1 : kd = 1
    · rw [if_pos c1] at E
      subst c1
      refine ⟨17, ⟨[], (0, 14, 17, 13), [(0, 14, 21, 15)], rfl, rfl, (fun z hz => nomatch hz), by decide, by decide, zt_176, x1_castable⟩, fun q9 => ?_⟩
      show Z X M_La_put 2 12 h9 17 [(0, .ref x0), (1, .int x1), (2, .int x2), (3, .int x3), (4, .int x4), (5, .ref x5)] [.ref q9]
      refine z_astore (lv2 := [(6, .ref q9), (0, .ref x0), (1, .int x1), (2, .int x2), (3, .int x3), (4, .int x4), (5, .ref x5)]) d_La_put_17 (Nat.le_of_ble_eq_true rfl) rfl ?_
      refine z_iconst (v := (1 : Int32)) d_La_put_19 (by decide) ?_
      exact z_ireturn hQ rfl (zkn_le hkn (Nat.le_of_ble_eq_true rfl) (Nat.le_of_ble_eq_true rfl)) d_La_put_20 E
    rw [if_neg c1] at E
    by_cases c2 : kd = 2
    · rw [if_pos c2] at E
      subst c2
      refine ⟨21, ⟨[(0, 14, 17, 13)], (0, 14, 21, 15), [], rfl, rfl, (fun z hz => by rw [List.mem_singleton] at hz; subst hz; exact ⟨by decide, rfl, zt_176⟩), by decide, by decide, zt_177, x2_castable⟩, fun q9 => ?_⟩
      show Z X M_La_put 2 12 h9 21 [(0, .ref x0), (1, .int x1), (2, .int x2), (3, .int x3), (4, .int x4), (5, .ref x5)] [.ref q9]
      refine z_astore (lv2 := [(6, .ref q9), (0, .ref x0), (1, .int x1), (2, .int x2), (3, .int x3), (4, .int x4), (5, .ref x5)]) d_La_put_21 (Nat.le_of_ble_eq_true rfl) rfl ?_
      refine z_iconst (v := (2 : Int32)) d_La_put_23 (by decide) ?_
      exact z_ireturn hQ rfl (zkn_le hkn (Nat.le_of_ble_eq_true rfl) (Nat.le_of_ble_eq_true rfl)) d_La_put_24 E
    rw [if_neg c2] at E
    cases E
  · obtain ⟨v15, rfl, E⟩ := kk14 w9 hw9
    show Z X M_La_put 2 12 h9 12 [(0, .ref x0), (1, .int x1), (2, .int x2), (3, .int x3), (4, .int x4), (5, .ref x5)] [.int v15, .int (0 : Int32), .ref x5]
    refine z_i2l d_La_put_12 ?_
    refine z_lastore d_La_put_13 E (fun h16 _ E => ?_)
    refine z_goto (tgt := 25) d_La_put_14 (by decide) ?_
    refine z_iconst (v := (0 : Int32)) d_La_put_25 (by decide) ?_
    exact z_ireturn hQ rfl (zkn_le hkn (Nat.le_of_ble_eq_true rfl) (Nat.le_of_ble_eq_true rfl)) d_La_put_26 E
theorem m_La_put {l : Launch} (hl0 : l.stackTraces = false) {G : Nat} {x0 : Nat} {x1 : Int32} {x2 : Int32} {x3 : Int32} {x4 : Int32} {x5 : Nat} {h : pH} {r : pR} (E : f_La_put G x0 x1 x2 x3 x4 x5 h = some r) : zMetW l y_La_put M_La_put hh_La_put 2 12 [.ref x0, .int x1, .int x2, .int x3, .int x4, .ref x5] h r :=
  zMetW_of hl0 (by decide) rfl (Nat.le_of_ble_eq_true rfl) (fun X hT hQ hkn _ => w_La_put_b0 hQ hT hkn x0 x1 x2 x3 x4 x5 h E)
def f_La_drop (G : Nat) (x0 : Nat) (x1 : Int32) (x2 : Int32) (x3 : Int32) (x4 : Int32) (x5 : Nat) (h : pH) : Option pR := tC (oC h x0 3) (f_Mg_drop G x0 x1 x2 x3 x4 h) (fun v15 h9 => (sJ h9 x5 (0 : Int32) (v15).toInt64).bind fun h16 => some (some (.int (0 : Int32)), h16)) (fun kd h9 => if kd = 1 then (some (some (.int (1 : Int32)), h9)) else (if kd = 2 then (some (some (.int (2 : Int32)), h9)) else (none)))
theorem f_La_drop_eq (G : Nat) (x0 : Nat) (x1 : Int32) (x2 : Int32) (x3 : Int32) (x4 : Int32) (x5 : Nat) (h : pH) : f_La_drop G x0 x1 x2 x3 x4 x5 h = (tC (oC h x0 3) (f_Mg_drop G x0 x1 x2 x3 x4 h) (fun v15 h9 => (sJ h9 x5 (0 : Int32) (v15).toInt64).bind fun h16 => some (some (.int (0 : Int32)), h16)) (fun kd h9 => if kd = 1 then (some (some (.int (1 : Int32)), h9)) else (if kd = 2 then (some (some (.int (2 : Int32)), h9)) else (none)))) := rfl
set_option maxRecDepth 100000 in
set_option maxHeartbeats 4000000 in
theorem w_La_drop_b0 {X : zX} {r : pR} {G : Nat} (hQ : zQ X r) (hT : zLOK X hh_La_drop) (hkn : zkn X 2 12) : ∀ (x0 : Nat) (x1 : Int32) (x2 : Int32) (x3 : Int32) (x4 : Int32) (x5 : Nat) (h : pH), f_La_drop G x0 x1 x2 x3 x4 x5 h = some r → Z X M_La_drop 0 0 h 0 [(0, .ref x0), (1, .int x1), (2, .int x2), (3, .int x3), (4, .int x4), (5, .ref x5)] [] := by
  intro x0 x1 x2 x3 x4 x5 h E
  rw [f_La_drop_eq] at E
  refine z_aload 5 d_La_drop_0 rfl ?_
  refine z_iconst (v := (0 : Int32)) d_La_drop_2 (by decide) ?_
  refine z_aload_n 0 d_La_drop_3 rfl rfl ?_
  refine z_iload_n 1 d_La_drop_4 rfl rfl ?_
  refine z_iload_n 2 d_La_drop_5 rfl rfl ?_
  refine z_iload_n 3 d_La_drop_6 rfl rfl ?_
  refine z_iload 4 d_La_drop_7 rfl ?_
  obtain ⟨g10, ⟨rc12, h9⟩, e11, kx13, kk14⟩ := tC_some E
  dsimp only at kx13 kk14
  refine l_invV (ci := 3) (y := y_Mg_drop) (Mc := M_Mg_drop) (av := [.int x1, .int x2, .int x3, .int x4]) (rest := [.int (0 : Int32), .ref x5]) (mc1 := 2) (ms1 := 12) hT rfl rfl ⟨zt_291, zt_292, zt_293, zt_48⟩ zk_Mg_drop zy_Mg_drop (by decide) (Nat.le_of_ble_eq_true rfl) (zkn_le hkn (Nat.le_of_ble_eq_true rfl) (Nat.le_of_ble_eq_true rfl)) rfl (Nat.le_of_ble_eq_true rfl) d_La_drop_9 g10 (m_Mg_drop (zLOK_l hT) e11) (fun kd hkd => ?_) (fun w9 hw9 => ?_)
  · have E := kx13 kd hkd
    by_cases c1 : kd = 1
    · rw [if_pos c1] at E
      subst c1
      refine ⟨17, ⟨[], (0, 14, 17, 13), [(0, 14, 21, 15)], rfl, rfl, (fun z hz => nomatch hz), by decide, by decide, zt_176, x1_castable⟩, fun q9 => ?_⟩
      show Z X M_La_drop 2 12 h9 17 [(0, .ref x0), (1, .int x1), (2, .int x2), (3, .int x3), (4, .int x4), (5, .ref x5)] [.ref q9]
      refine z_astore (lv2 := [(6, .ref q9), (0, .ref x0), (1, .int x1), (2, .int x2), (3, .int x3), (4, .int x4), (5, .ref x5)]) d_La_drop_17 (Nat.le_of_ble_eq_true rfl) rfl ?_
      refine z_iconst (v := (1 : Int32)) d_La_drop_19 (by decide) ?_
      exact z_ireturn hQ rfl (zkn_le hkn (Nat.le_of_ble_eq_true rfl) (Nat.le_of_ble_eq_true rfl)) d_La_drop_20 E
    rw [if_neg c1] at E
    by_cases c2 : kd = 2
    · rw [if_pos c2] at E
      subst c2
      refine ⟨21, ⟨[(0, 14, 17, 13)], (0, 14, 21, 15), [], rfl, rfl, (fun z hz => by rw [List.mem_singleton] at hz; subst hz; exact ⟨by decide, rfl, zt_176⟩), by decide, by decide, zt_177, x2_castable⟩, fun q9 => ?_⟩
      show Z X M_La_drop 2 12 h9 21 [(0, .ref x0), (1, .int x1), (2, .int x2), (3, .int x3), (4, .int x4), (5, .ref x5)] [.ref q9]
      refine z_astore (lv2 := [(6, .ref q9), (0, .ref x0), (1, .int x1), (2, .int x2), (3, .int x3), (4, .int x4), (5, .ref x5)]) d_La_drop_21 (Nat.le_of_ble_eq_true rfl) rfl ?_
      refine z_iconst (v := (2 : Int32)) d_La_drop_23 (by decide) ?_
      exact z_ireturn hQ rfl (zkn_le hkn (Nat.le_of_ble_eq_true rfl) (Nat.le_of_ble_eq_true rfl)) d_La_drop_24 E
    rw [if_neg c2] at E
    cases E
  · obtain ⟨v15, rfl, E⟩ := kk14 w9 hw9
    show Z X M_La_drop 2 12 h9 12 [(0, .ref x0), (1, .int x1), (2, .int x2), (3, .int x3), (4, .int x4), (5, .ref x5)] [.int v15, .int (0 : Int32), .ref x5]
    refine z_i2l d_La_drop_12 ?_
    refine z_lastore d_La_drop_13 E (fun h16 _ E => ?_)
    refine z_goto (tgt := 25) d_La_drop_14 (by decide) ?_
    refine z_iconst (v := (0 : Int32)) d_La_drop_25 (by decide) ?_
    exact z_ireturn hQ rfl (zkn_le hkn (Nat.le_of_ble_eq_true rfl) (Nat.le_of_ble_eq_true rfl)) d_La_drop_26 E
theorem m_La_drop {l : Launch} (hl0 : l.stackTraces = false) {G : Nat} {x0 : Nat} {x1 : Int32} {x2 : Int32} {x3 : Int32} {x4 : Int32} {x5 : Nat} {h : pH} {r : pR} (E : f_La_drop G x0 x1 x2 x3 x4 x5 h = some r) : zMetW l y_La_drop M_La_drop hh_La_drop 2 12 [.ref x0, .int x1, .int x2, .int x3, .int x4, .ref x5] h r :=
  zMetW_of hl0 (by decide) rfl (Nat.le_of_ble_eq_true rfl) (fun X hT hQ hkn _ => w_La_drop_b0 hQ hT hkn x0 x1 x2 x3 x4 x5 h E)
def f_La_copy (G : Nat) (x0 : Nat) (x1 : Int32) (x2 : Int32) (x3 : Nat) (h : pH) : Option pR := tC (oC h x0 3) (f_Mg_copy G x0 x1 x2 h) (fun v15 h9 => (sJ h9 x3 (0 : Int32) (v15).toInt64).bind fun h16 => some (some (.int (0 : Int32)), h16)) (fun kd h9 => if kd = 1 then (some (some (.int (1 : Int32)), h9)) else (none))
theorem f_La_copy_eq (G : Nat) (x0 : Nat) (x1 : Int32) (x2 : Int32) (x3 : Nat) (h : pH) : f_La_copy G x0 x1 x2 x3 h = (tC (oC h x0 3) (f_Mg_copy G x0 x1 x2 h) (fun v15 h9 => (sJ h9 x3 (0 : Int32) (v15).toInt64).bind fun h16 => some (some (.int (0 : Int32)), h16)) (fun kd h9 => if kd = 1 then (some (some (.int (1 : Int32)), h9)) else (none))) := rfl
set_option maxRecDepth 100000 in
set_option maxHeartbeats 4000000 in
theorem w_La_copy_b0 {X : zX} {r : pR} {G : Nat} (hQ : zQ X r) (hT : zLOK X hh_La_copy) (hkn : zkn X 2 12) : ∀ (x0 : Nat) (x1 : Int32) (x2 : Int32) (x3 : Nat) (h : pH), f_La_copy G x0 x1 x2 x3 h = some r → Z X M_La_copy 0 0 h 0 [(0, .ref x0), (1, .int x1), (2, .int x2), (3, .ref x3)] [] := by
  intro x0 x1 x2 x3 h E
  rw [f_La_copy_eq] at E
  refine z_aload_n 3 d_La_copy_0 rfl rfl ?_
  refine z_iconst (v := (0 : Int32)) d_La_copy_1 (by decide) ?_
  refine z_aload_n 0 d_La_copy_2 rfl rfl ?_
  refine z_iload_n 1 d_La_copy_3 rfl rfl ?_
  refine z_iload_n 2 d_La_copy_4 rfl rfl ?_
  obtain ⟨g10, ⟨rc12, h9⟩, e11, kx13, kk14⟩ := tC_some E
  dsimp only at kx13 kk14
  refine l_invV (ci := 3) (y := y_Mg_copy) (Mc := M_Mg_copy) (av := [.int x1, .int x2]) (rest := [.int (0 : Int32), .ref x3]) (mc1 := 2) (ms1 := 12) hT rfl rfl ⟨zt_302, zt_303, zt_304, zt_48⟩ zk_Mg_copy zy_Mg_copy (by decide) (Nat.le_of_ble_eq_true rfl) (zkn_le hkn (Nat.le_of_ble_eq_true rfl) (Nat.le_of_ble_eq_true rfl)) rfl (Nat.le_of_ble_eq_true rfl) d_La_copy_5 g10 (m_Mg_copy (zLOK_l hT) e11) (fun kd hkd => ?_) (fun w9 hw9 => ?_)
  · have E := kx13 kd hkd
    by_cases c1 : kd = 1
    · rw [if_pos c1] at E
      subst c1
      refine ⟨13, ⟨[], (0, 10, 13, 13), [], rfl, rfl, (fun z hz => nomatch hz), by decide, by decide, zt_176, x1_castable⟩, fun q9 => ?_⟩
      show Z X M_La_copy 2 12 h9 13 [(0, .ref x0), (1, .int x1), (2, .int x2), (3, .ref x3)] [.ref q9]
      refine z_astore (lv2 := [(4, .ref q9), (0, .ref x0), (1, .int x1), (2, .int x2), (3, .ref x3)]) d_La_copy_13 (Nat.le_of_ble_eq_true rfl) rfl ?_
      refine z_iconst (v := (1 : Int32)) d_La_copy_15 (by decide) ?_
      exact z_ireturn hQ rfl (zkn_le hkn (Nat.le_of_ble_eq_true rfl) (Nat.le_of_ble_eq_true rfl)) d_La_copy_16 E
    rw [if_neg c1] at E
    cases E
  · obtain ⟨v15, rfl, E⟩ := kk14 w9 hw9
    show Z X M_La_copy 2 12 h9 8 [(0, .ref x0), (1, .int x1), (2, .int x2), (3, .ref x3)] [.int v15, .int (0 : Int32), .ref x3]
    refine z_i2l d_La_copy_8 ?_
    refine z_lastore d_La_copy_9 E (fun h16 _ E => ?_)
    refine z_goto (tgt := 17) d_La_copy_10 (by decide) ?_
    refine z_iconst (v := (0 : Int32)) d_La_copy_17 (by decide) ?_
    exact z_ireturn hQ rfl (zkn_le hkn (Nat.le_of_ble_eq_true rfl) (Nat.le_of_ble_eq_true rfl)) d_La_copy_18 E
theorem m_La_copy {l : Launch} (hl0 : l.stackTraces = false) {G : Nat} {x0 : Nat} {x1 : Int32} {x2 : Int32} {x3 : Nat} {h : pH} {r : pR} (E : f_La_copy G x0 x1 x2 x3 h = some r) : zMetW l y_La_copy M_La_copy hh_La_copy 2 12 [.ref x0, .int x1, .int x2, .ref x3] h r :=
  zMetW_of hl0 (by decide) rfl (Nat.le_of_ble_eq_true rfl) (fun X hT hQ hkn _ => w_La_copy_b0 hQ hT hkn x0 x1 x2 x3 h E)
def f_La_size (G : Nat) (x0 : Nat) (x1 : Int32) (x2 : Int32) (x3 : Nat) (h : pH) : Option pR := tC (oC h x0 3) (f_Mg_size G x0 x1 x2 h) (fun v15 h9 => (sJ h9 x3 (0 : Int32) (v15).toInt64).bind fun h16 => some (some (.int (0 : Int32)), h16)) (fun kd h9 => if kd = 1 then (some (some (.int (1 : Int32)), h9)) else (none))
theorem f_La_size_eq (G : Nat) (x0 : Nat) (x1 : Int32) (x2 : Int32) (x3 : Nat) (h : pH) : f_La_size G x0 x1 x2 x3 h = (tC (oC h x0 3) (f_Mg_size G x0 x1 x2 h) (fun v15 h9 => (sJ h9 x3 (0 : Int32) (v15).toInt64).bind fun h16 => some (some (.int (0 : Int32)), h16)) (fun kd h9 => if kd = 1 then (some (some (.int (1 : Int32)), h9)) else (none))) := rfl
set_option maxRecDepth 100000 in
set_option maxHeartbeats 4000000 in
theorem w_La_size_b0 {X : zX} {r : pR} {G : Nat} (hQ : zQ X r) (hT : zLOK X hh_La_size) (hkn : zkn X 2 12) : ∀ (x0 : Nat) (x1 : Int32) (x2 : Int32) (x3 : Nat) (h : pH), f_La_size G x0 x1 x2 x3 h = some r → Z X M_La_size 0 0 h 0 [(0, .ref x0), (1, .int x1), (2, .int x2), (3, .ref x3)] [] := by
  intro x0 x1 x2 x3 h E
  rw [f_La_size_eq] at E
  refine z_aload_n 3 d_La_size_0 rfl rfl ?_
  refine z_iconst (v := (0 : Int32)) d_La_size_1 (by decide) ?_
  refine z_aload_n 0 d_La_size_2 rfl rfl ?_
  refine z_iload_n 1 d_La_size_3 rfl rfl ?_
  refine z_iload_n 2 d_La_size_4 rfl rfl ?_
  obtain ⟨g10, ⟨rc12, h9⟩, e11, kx13, kk14⟩ := tC_some E
  dsimp only at kx13 kk14
  refine l_invV (ci := 3) (y := y_Mg_size) (Mc := M_Mg_size) (av := [.int x1, .int x2]) (rest := [.int (0 : Int32), .ref x3]) (mc1 := 2) (ms1 := 12) hT rfl rfl ⟨zt_317, zt_318, zt_319, zt_48⟩ zk_Mg_size zy_Mg_size (by decide) (Nat.le_of_ble_eq_true rfl) (zkn_le hkn (Nat.le_of_ble_eq_true rfl) (Nat.le_of_ble_eq_true rfl)) rfl (Nat.le_of_ble_eq_true rfl) d_La_size_5 g10 (m_Mg_size (zLOK_l hT) e11) (fun kd hkd => ?_) (fun w9 hw9 => ?_)
  · have E := kx13 kd hkd
    by_cases c1 : kd = 1
    · rw [if_pos c1] at E
      subst c1
      refine ⟨13, ⟨[], (0, 10, 13, 13), [], rfl, rfl, (fun z hz => nomatch hz), by decide, by decide, zt_176, x1_castable⟩, fun q9 => ?_⟩
      show Z X M_La_size 2 12 h9 13 [(0, .ref x0), (1, .int x1), (2, .int x2), (3, .ref x3)] [.ref q9]
      refine z_astore (lv2 := [(4, .ref q9), (0, .ref x0), (1, .int x1), (2, .int x2), (3, .ref x3)]) d_La_size_13 (Nat.le_of_ble_eq_true rfl) rfl ?_
      refine z_iconst (v := (1 : Int32)) d_La_size_15 (by decide) ?_
      exact z_ireturn hQ rfl (zkn_le hkn (Nat.le_of_ble_eq_true rfl) (Nat.le_of_ble_eq_true rfl)) d_La_size_16 E
    rw [if_neg c1] at E
    cases E
  · obtain ⟨v15, rfl, E⟩ := kk14 w9 hw9
    show Z X M_La_size 2 12 h9 8 [(0, .ref x0), (1, .int x1), (2, .int x2), (3, .ref x3)] [.int v15, .int (0 : Int32), .ref x3]
    refine z_i2l d_La_size_8 ?_
    refine z_lastore d_La_size_9 E (fun h16 _ E => ?_)
    refine z_goto (tgt := 17) d_La_size_10 (by decide) ?_
    refine z_iconst (v := (0 : Int32)) d_La_size_17 (by decide) ?_
    exact z_ireturn hQ rfl (zkn_le hkn (Nat.le_of_ble_eq_true rfl) (Nat.le_of_ble_eq_true rfl)) d_La_size_18 E
theorem m_La_size {l : Launch} (hl0 : l.stackTraces = false) {G : Nat} {x0 : Nat} {x1 : Int32} {x2 : Int32} {x3 : Nat} {h : pH} {r : pR} (E : f_La_size G x0 x1 x2 x3 h = some r) : zMetW l y_La_size M_La_size hh_La_size 2 12 [.ref x0, .int x1, .int x2, .ref x3] h r :=
  zMetW_of hl0 (by decide) rfl (Nat.le_of_ble_eq_true rfl) (fun X hT hQ hkn _ => w_La_size_b0 hQ hT hkn x0 x1 x2 x3 h E)
def f_La_fact (G : Nat) (x0 : Nat) (x1 : Int32) (x2 : Int32) (x3 : Nat) (h : pH) : Option pR := tC (oC h x0 3) (f_Mg_fact G x0 x1 x2 h) (fun v15 h9 => (sJ h9 x3 (0 : Int32) (v15).toInt64).bind fun h16 => some (some (.int (0 : Int32)), h16)) (fun kd h9 => if kd = 1 then (some (some (.int (1 : Int32)), h9)) else (none))
theorem f_La_fact_eq (G : Nat) (x0 : Nat) (x1 : Int32) (x2 : Int32) (x3 : Nat) (h : pH) : f_La_fact G x0 x1 x2 x3 h = (tC (oC h x0 3) (f_Mg_fact G x0 x1 x2 h) (fun v15 h9 => (sJ h9 x3 (0 : Int32) (v15).toInt64).bind fun h16 => some (some (.int (0 : Int32)), h16)) (fun kd h9 => if kd = 1 then (some (some (.int (1 : Int32)), h9)) else (none))) := rfl
set_option maxRecDepth 100000 in
set_option maxHeartbeats 4000000 in
theorem w_La_fact_b0 {X : zX} {r : pR} {G : Nat} (hQ : zQ X r) (hT : zLOK X hh_La_fact) (hkn : zkn X 2 12) : ∀ (x0 : Nat) (x1 : Int32) (x2 : Int32) (x3 : Nat) (h : pH), f_La_fact G x0 x1 x2 x3 h = some r → Z X M_La_fact 0 0 h 0 [(0, .ref x0), (1, .int x1), (2, .int x2), (3, .ref x3)] [] := by
  intro x0 x1 x2 x3 h E
  rw [f_La_fact_eq] at E
  refine z_aload_n 3 d_La_fact_0 rfl rfl ?_
  refine z_iconst (v := (0 : Int32)) d_La_fact_1 (by decide) ?_
  refine z_aload_n 0 d_La_fact_2 rfl rfl ?_
  refine z_iload_n 1 d_La_fact_3 rfl rfl ?_
  refine z_iload_n 2 d_La_fact_4 rfl rfl ?_
  obtain ⟨g10, ⟨rc12, h9⟩, e11, kx13, kk14⟩ := tC_some E
  dsimp only at kx13 kk14
  refine l_invV (ci := 3) (y := y_Mg_fact) (Mc := M_Mg_fact) (av := [.int x1, .int x2]) (rest := [.int (0 : Int32), .ref x3]) (mc1 := 2) (ms1 := 12) hT rfl rfl ⟨zt_347, zt_348, zt_349, zt_48⟩ zk_Mg_fact zy_Mg_fact (by decide) (Nat.le_of_ble_eq_true rfl) (zkn_le hkn (Nat.le_of_ble_eq_true rfl) (Nat.le_of_ble_eq_true rfl)) rfl (Nat.le_of_ble_eq_true rfl) d_La_fact_5 g10 (m_Mg_fact (zLOK_l hT) e11) (fun kd hkd => ?_) (fun w9 hw9 => ?_)
  · have E := kx13 kd hkd
    by_cases c1 : kd = 1
    · rw [if_pos c1] at E
      subst c1
      refine ⟨13, ⟨[], (0, 10, 13, 13), [], rfl, rfl, (fun z hz => nomatch hz), by decide, by decide, zt_176, x1_castable⟩, fun q9 => ?_⟩
      show Z X M_La_fact 2 12 h9 13 [(0, .ref x0), (1, .int x1), (2, .int x2), (3, .ref x3)] [.ref q9]
      refine z_astore (lv2 := [(4, .ref q9), (0, .ref x0), (1, .int x1), (2, .int x2), (3, .ref x3)]) d_La_fact_13 (Nat.le_of_ble_eq_true rfl) rfl ?_
      refine z_iconst (v := (1 : Int32)) d_La_fact_15 (by decide) ?_
      exact z_ireturn hQ rfl (zkn_le hkn (Nat.le_of_ble_eq_true rfl) (Nat.le_of_ble_eq_true rfl)) d_La_fact_16 E
    rw [if_neg c1] at E
    cases E
  · obtain ⟨v15, rfl, E⟩ := kk14 w9 hw9
    show Z X M_La_fact 2 12 h9 8 [(0, .ref x0), (1, .int x1), (2, .int x2), (3, .ref x3)] [.int v15, .int (0 : Int32), .ref x3]
    refine z_i2l d_La_fact_8 ?_
    refine z_lastore d_La_fact_9 E (fun h16 _ E => ?_)
    refine z_goto (tgt := 17) d_La_fact_10 (by decide) ?_
    refine z_iconst (v := (0 : Int32)) d_La_fact_17 (by decide) ?_
    exact z_ireturn hQ rfl (zkn_le hkn (Nat.le_of_ble_eq_true rfl) (Nat.le_of_ble_eq_true rfl)) d_La_fact_18 E
theorem m_La_fact {l : Launch} (hl0 : l.stackTraces = false) {G : Nat} {x0 : Nat} {x1 : Int32} {x2 : Int32} {x3 : Nat} {h : pH} {r : pR} (E : f_La_fact G x0 x1 x2 x3 h = some r) : zMetW l y_La_fact M_La_fact hh_La_fact 2 12 [.ref x0, .int x1, .int x2, .ref x3] h r :=
  zMetW_of hl0 (by decide) rfl (Nat.le_of_ble_eq_true rfl) (fun X hT hQ hkn _ => w_La_fact_b0 hQ hT hkn x0 x1 x2 x3 h E)
def f_La_alike_b16 (G : Nat) (s0 : Nat) (s1 : Int32) (s2 : Int64) (h : pH) : Option pR := (sJ h s0 s1 s2).bind fun h16 => some (some (.int (0 : Int32)), h16)
theorem f_La_alike_b16_eq (G : Nat) (s0 : Nat) (s1 : Int32) (s2 : Int64) (h : pH) : f_La_alike_b16 G s0 s1 s2 h = ((sJ h s0 s1 s2).bind fun h16 => some (some (.int (0 : Int32)), h16)) := rfl
def f_La_alike (G : Nat) (x0 : Nat) (x1 : Int32) (x2 : Int32) (x3 : Nat) (h : pH) : Option pR := tC (oC h x0 3) (f_Mg_alike G x0 x1 x2 h) (fun v15 h9 => if v15 = 0 then ((f_La_alike_b16 G) x3 (0 : Int32) (0 : Int64) h9) else ((f_La_alike_b16 G) x3 (0 : Int32) (1 : Int64) h9)) (fun kd h9 => if kd = 1 then (some (some (.int (1 : Int32)), h9)) else (none))
theorem f_La_alike_eq (G : Nat) (x0 : Nat) (x1 : Int32) (x2 : Int32) (x3 : Nat) (h : pH) : f_La_alike G x0 x1 x2 x3 h = (tC (oC h x0 3) (f_Mg_alike G x0 x1 x2 h) (fun v15 h9 => if v15 = 0 then ((f_La_alike_b16 G) x3 (0 : Int32) (0 : Int64) h9) else ((f_La_alike_b16 G) x3 (0 : Int32) (1 : Int64) h9)) (fun kd h9 => if kd = 1 then (some (some (.int (1 : Int32)), h9)) else (none))) := rfl
set_option maxRecDepth 100000 in
set_option maxHeartbeats 4000000 in
theorem w_La_alike_b16 {X : zX} {r : pR} {G : Nat} (hQ : zQ X r) (hT : zLOK X hh_La_alike) (hkn : zkn X 2 12) : ∀ (s0 : Nat) (s1 : Int32) (s2 : Int64) (h : pH), f_La_alike_b16 G s0 s1 s2 h = some r → Z X M_La_alike 2 12 h 16 [] [.long s2, .int s1, .ref s0] := by
  intro s0 s1 s2 h E
  rw [f_La_alike_b16_eq] at E
  refine z_lastore d_La_alike_16 E (fun h16 _ E => ?_)
  refine z_goto (tgt := 24) d_La_alike_17 (by decide) ?_
  refine z_iconst (v := (0 : Int32)) d_La_alike_24 (by decide) ?_
  exact z_ireturn hQ rfl (zkn_le hkn (Nat.le_of_ble_eq_true rfl) (Nat.le_of_ble_eq_true rfl)) d_La_alike_25 E
set_option maxRecDepth 100000 in
set_option maxHeartbeats 4000000 in
theorem w_La_alike_b0 {X : zX} {r : pR} {G : Nat} (hQ : zQ X r) (hT : zLOK X hh_La_alike) (hkn : zkn X 2 12) : ∀ (x0 : Nat) (x1 : Int32) (x2 : Int32) (x3 : Nat) (h : pH), f_La_alike G x0 x1 x2 x3 h = some r → Z X M_La_alike 0 0 h 0 [(0, .ref x0), (1, .int x1), (2, .int x2), (3, .ref x3)] [] := by
  intro x0 x1 x2 x3 h E
  rw [f_La_alike_eq] at E
  refine z_aload_n 3 d_La_alike_0 rfl rfl ?_
  refine z_iconst (v := (0 : Int32)) d_La_alike_1 (by decide) ?_
  refine z_aload_n 0 d_La_alike_2 rfl rfl ?_
  refine z_iload_n 1 d_La_alike_3 rfl rfl ?_
  refine z_iload_n 2 d_La_alike_4 rfl rfl ?_
  obtain ⟨g10, ⟨rc12, h9⟩, e11, kx13, kk14⟩ := tC_some E
  dsimp only at kx13 kk14
  refine l_invV (ci := 3) (y := y_Mg_alike) (Mc := M_Mg_alike) (av := [.int x1, .int x2]) (rest := [.int (0 : Int32), .ref x3]) (mc1 := 2) (ms1 := 12) hT rfl rfl ⟨zt_359, zt_360, zt_361, zt_48⟩ zk_Mg_alike zy_Mg_alike (by decide) (Nat.le_of_ble_eq_true rfl) (zkn_le hkn (Nat.le_of_ble_eq_true rfl) (Nat.le_of_ble_eq_true rfl)) rfl (Nat.le_of_ble_eq_true rfl) d_La_alike_5 g10 (m_Mg_alike (zLOK_l hT) e11) (fun kd hkd => ?_) (fun w9 hw9 => ?_)
  · have E := kx13 kd hkd
    by_cases c1 : kd = 1
    · rw [if_pos c1] at E
      subst c1
      refine ⟨20, ⟨[], (0, 17, 20, 13), [], rfl, rfl, (fun z hz => nomatch hz), by decide, by decide, zt_176, x1_castable⟩, fun q9 => ?_⟩
      show Z X M_La_alike 2 12 h9 20 [(0, .ref x0), (1, .int x1), (2, .int x2), (3, .ref x3)] [.ref q9]
      refine z_astore (lv2 := [(4, .ref q9), (0, .ref x0), (1, .int x1), (2, .int x2), (3, .ref x3)]) d_La_alike_20 (Nat.le_of_ble_eq_true rfl) rfl ?_
      refine z_iconst (v := (1 : Int32)) d_La_alike_22 (by decide) ?_
      exact z_ireturn hQ rfl (zkn_le hkn (Nat.le_of_ble_eq_true rfl) (Nat.le_of_ble_eq_true rfl)) d_La_alike_23 E
    rw [if_neg c1] at E
    cases E
  · obtain ⟨v15, rfl, E⟩ := kk14 w9 hw9
    show Z X M_La_alike 2 12 h9 8 [(0, .ref x0), (1, .int x1), (2, .int x2), (3, .ref x3)] [.int v15, .int (0 : Int32), .ref x3]
    refine z_if_eq (y := 0) (tgt := 15) d_La_alike_8 (by decide) E (fun E => ?_) (fun E => ?_)
    · refine z_lconst (v := (0 : Int64)) d_La_alike_15 (by decide) ?_
      refine z_lv [] rfl ?_
      exact (w_La_alike_b16 hQ hT hkn) x3 (0 : Int32) (0 : Int64) h9 E
    · refine z_lconst (v := (1 : Int64)) d_La_alike_11 (by decide) ?_
      refine z_goto (tgt := 16) d_La_alike_12 (by decide) ?_
      refine z_lv [] rfl ?_
      exact (w_La_alike_b16 hQ hT hkn) x3 (0 : Int32) (1 : Int64) h9 E
theorem m_La_alike {l : Launch} (hl0 : l.stackTraces = false) {G : Nat} {x0 : Nat} {x1 : Int32} {x2 : Int32} {x3 : Nat} {h : pH} {r : pR} (E : f_La_alike G x0 x1 x2 x3 h = some r) : zMetW l y_La_alike M_La_alike hh_La_alike 2 12 [.ref x0, .int x1, .int x2, .ref x3] h r :=
  zMetW_of hl0 (by decide) rfl (Nat.le_of_ble_eq_true rfl) (fun X hT hQ hkn _ => w_La_alike_b0 hQ hT hkn x0 x1 x2 x3 h E)
def f_La_image (G : Nat) (x0 : Nat) (x1 : Int32) (x2 : Int32) (x3 : Int32) (x4 : Nat) (h : pH) : Option pR := tC (oC h x0 3) (f_Mg_image G x0 x1 x2 x3 h) (fun v15 h9 => (sJ h9 x4 (0 : Int32) (v15).toInt64).bind fun h16 => some (some (.int (0 : Int32)), h16)) (fun kd h9 => if kd = 1 then (some (some (.int (1 : Int32)), h9)) else (none))
theorem f_La_image_eq (G : Nat) (x0 : Nat) (x1 : Int32) (x2 : Int32) (x3 : Int32) (x4 : Nat) (h : pH) : f_La_image G x0 x1 x2 x3 x4 h = (tC (oC h x0 3) (f_Mg_image G x0 x1 x2 x3 h) (fun v15 h9 => (sJ h9 x4 (0 : Int32) (v15).toInt64).bind fun h16 => some (some (.int (0 : Int32)), h16)) (fun kd h9 => if kd = 1 then (some (some (.int (1 : Int32)), h9)) else (none))) := rfl
set_option maxRecDepth 100000 in
set_option maxHeartbeats 4000000 in
theorem w_La_image_b0 {X : zX} {r : pR} {G : Nat} (hQ : zQ X r) (hT : zLOK X hh_La_image) (hkn : zkn X 2 12) : ∀ (x0 : Nat) (x1 : Int32) (x2 : Int32) (x3 : Int32) (x4 : Nat) (h : pH), f_La_image G x0 x1 x2 x3 x4 h = some r → Z X M_La_image 0 0 h 0 [(0, .ref x0), (1, .int x1), (2, .int x2), (3, .int x3), (4, .ref x4)] [] := by
  intro x0 x1 x2 x3 x4 h E
  rw [f_La_image_eq] at E
  refine z_aload 4 d_La_image_0 rfl ?_
  refine z_iconst (v := (0 : Int32)) d_La_image_2 (by decide) ?_
  refine z_aload_n 0 d_La_image_3 rfl rfl ?_
  refine z_iload_n 1 d_La_image_4 rfl rfl ?_
  refine z_iload_n 2 d_La_image_5 rfl rfl ?_
  refine z_iload_n 3 d_La_image_6 rfl rfl ?_
  obtain ⟨g10, ⟨rc12, h9⟩, e11, kx13, kk14⟩ := tC_some E
  dsimp only at kx13 kk14
  refine l_invV (ci := 3) (y := y_Mg_image) (Mc := M_Mg_image) (av := [.int x1, .int x2, .int x3]) (rest := [.int (0 : Int32), .ref x4]) (mc1 := 2) (ms1 := 12) hT rfl rfl ⟨zt_456, zt_457, zt_458, zt_48⟩ zk_Mg_image zy_Mg_image (by decide) (Nat.le_of_ble_eq_true rfl) (zkn_le hkn (Nat.le_of_ble_eq_true rfl) (Nat.le_of_ble_eq_true rfl)) rfl (Nat.le_of_ble_eq_true rfl) d_La_image_7 g10 (m_Mg_image (zLOK_l hT) e11) (fun kd hkd => ?_) (fun w9 hw9 => ?_)
  · have E := kx13 kd hkd
    by_cases c1 : kd = 1
    · rw [if_pos c1] at E
      subst c1
      refine ⟨15, ⟨[], (0, 12, 15, 13), [], rfl, rfl, (fun z hz => nomatch hz), by decide, by decide, zt_176, x1_castable⟩, fun q9 => ?_⟩
      show Z X M_La_image 2 12 h9 15 [(0, .ref x0), (1, .int x1), (2, .int x2), (3, .int x3), (4, .ref x4)] [.ref q9]
      refine z_astore (lv2 := [(5, .ref q9), (0, .ref x0), (1, .int x1), (2, .int x2), (3, .int x3), (4, .ref x4)]) d_La_image_15 (Nat.le_of_ble_eq_true rfl) rfl ?_
      refine z_iconst (v := (1 : Int32)) d_La_image_17 (by decide) ?_
      exact z_ireturn hQ rfl (zkn_le hkn (Nat.le_of_ble_eq_true rfl) (Nat.le_of_ble_eq_true rfl)) d_La_image_18 E
    rw [if_neg c1] at E
    cases E
  · obtain ⟨v15, rfl, E⟩ := kk14 w9 hw9
    show Z X M_La_image 2 12 h9 10 [(0, .ref x0), (1, .int x1), (2, .int x2), (3, .int x3), (4, .ref x4)] [.int v15, .int (0 : Int32), .ref x4]
    refine z_i2l d_La_image_10 ?_
    refine z_lastore d_La_image_11 E (fun h16 _ E => ?_)
    refine z_goto (tgt := 19) d_La_image_12 (by decide) ?_
    refine z_iconst (v := (0 : Int32)) d_La_image_19 (by decide) ?_
    exact z_ireturn hQ rfl (zkn_le hkn (Nat.le_of_ble_eq_true rfl) (Nat.le_of_ble_eq_true rfl)) d_La_image_20 E
theorem m_La_image {l : Launch} (hl0 : l.stackTraces = false) {G : Nat} {x0 : Nat} {x1 : Int32} {x2 : Int32} {x3 : Int32} {x4 : Nat} {h : pH} {r : pR} (E : f_La_image G x0 x1 x2 x3 x4 h = some r) : zMetW l y_La_image M_La_image hh_La_image 2 12 [.ref x0, .int x1, .int x2, .int x3, .ref x4] h r :=
  zMetW_of hl0 (by decide) rfl (Nat.le_of_ble_eq_true rfl) (fun X hT hQ hkn _ => w_La_image_b0 hQ hT hkn x0 x1 x2 x3 x4 h E)
def f_La_form (G : Nat) (x0 : Nat) (x1 : Int32) (x2 : Int32) (x3 : Nat) (h : pH) : Option pR := tC (oC h x0 3) (f_Mg_form G x0 x1 x2 h) (fun v15 h9 => (sJ h9 x3 (0 : Int32) (v15).toInt64).bind fun h16 => some (some (.int (0 : Int32)), h16)) (fun kd h9 => if kd = 1 then (some (some (.int (1 : Int32)), h9)) else (none))
theorem f_La_form_eq (G : Nat) (x0 : Nat) (x1 : Int32) (x2 : Int32) (x3 : Nat) (h : pH) : f_La_form G x0 x1 x2 x3 h = (tC (oC h x0 3) (f_Mg_form G x0 x1 x2 h) (fun v15 h9 => (sJ h9 x3 (0 : Int32) (v15).toInt64).bind fun h16 => some (some (.int (0 : Int32)), h16)) (fun kd h9 => if kd = 1 then (some (some (.int (1 : Int32)), h9)) else (none))) := rfl
set_option maxRecDepth 100000 in
set_option maxHeartbeats 4000000 in
theorem w_La_form_b0 {X : zX} {r : pR} {G : Nat} (hQ : zQ X r) (hT : zLOK X hh_La_form) (hkn : zkn X 2 12) : ∀ (x0 : Nat) (x1 : Int32) (x2 : Int32) (x3 : Nat) (h : pH), f_La_form G x0 x1 x2 x3 h = some r → Z X M_La_form 0 0 h 0 [(0, .ref x0), (1, .int x1), (2, .int x2), (3, .ref x3)] [] := by
  intro x0 x1 x2 x3 h E
  rw [f_La_form_eq] at E
  refine z_aload_n 3 d_La_form_0 rfl rfl ?_
  refine z_iconst (v := (0 : Int32)) d_La_form_1 (by decide) ?_
  refine z_aload_n 0 d_La_form_2 rfl rfl ?_
  refine z_iload_n 1 d_La_form_3 rfl rfl ?_
  refine z_iload_n 2 d_La_form_4 rfl rfl ?_
  obtain ⟨g10, ⟨rc12, h9⟩, e11, kx13, kk14⟩ := tC_some E
  dsimp only at kx13 kk14
  refine l_invV (ci := 3) (y := y_Mg_form) (Mc := M_Mg_form) (av := [.int x1, .int x2]) (rest := [.int (0 : Int32), .ref x3]) (mc1 := 2) (ms1 := 12) hT rfl rfl ⟨zt_467, zt_468, zt_469, zt_48⟩ zk_Mg_form zy_Mg_form (by decide) (Nat.le_of_ble_eq_true rfl) (zkn_le hkn (Nat.le_of_ble_eq_true rfl) (Nat.le_of_ble_eq_true rfl)) rfl (Nat.le_of_ble_eq_true rfl) d_La_form_5 g10 (m_Mg_form (zLOK_l hT) e11) (fun kd hkd => ?_) (fun w9 hw9 => ?_)
  · have E := kx13 kd hkd
    by_cases c1 : kd = 1
    · rw [if_pos c1] at E
      subst c1
      refine ⟨13, ⟨[], (0, 10, 13, 13), [], rfl, rfl, (fun z hz => nomatch hz), by decide, by decide, zt_176, x1_castable⟩, fun q9 => ?_⟩
      show Z X M_La_form 2 12 h9 13 [(0, .ref x0), (1, .int x1), (2, .int x2), (3, .ref x3)] [.ref q9]
      refine z_astore (lv2 := [(4, .ref q9), (0, .ref x0), (1, .int x1), (2, .int x2), (3, .ref x3)]) d_La_form_13 (Nat.le_of_ble_eq_true rfl) rfl ?_
      refine z_iconst (v := (1 : Int32)) d_La_form_15 (by decide) ?_
      exact z_ireturn hQ rfl (zkn_le hkn (Nat.le_of_ble_eq_true rfl) (Nat.le_of_ble_eq_true rfl)) d_La_form_16 E
    rw [if_neg c1] at E
    cases E
  · obtain ⟨v15, rfl, E⟩ := kk14 w9 hw9
    show Z X M_La_form 2 12 h9 8 [(0, .ref x0), (1, .int x1), (2, .int x2), (3, .ref x3)] [.int v15, .int (0 : Int32), .ref x3]
    refine z_i2l d_La_form_8 ?_
    refine z_lastore d_La_form_9 E (fun h16 _ E => ?_)
    refine z_goto (tgt := 17) d_La_form_10 (by decide) ?_
    refine z_iconst (v := (0 : Int32)) d_La_form_17 (by decide) ?_
    exact z_ireturn hQ rfl (zkn_le hkn (Nat.le_of_ble_eq_true rfl) (Nat.le_of_ble_eq_true rfl)) d_La_form_18 E
theorem m_La_form {l : Launch} (hl0 : l.stackTraces = false) {G : Nat} {x0 : Nat} {x1 : Int32} {x2 : Int32} {x3 : Nat} {h : pH} {r : pR} (E : f_La_form G x0 x1 x2 x3 h = some r) : zMetW l y_La_form M_La_form hh_La_form 2 12 [.ref x0, .int x1, .int x2, .ref x3] h r :=
  zMetW_of hl0 (by decide) rfl (Nat.le_of_ble_eq_true rfl) (fun X hT hQ hkn _ => w_La_form_b0 hQ hT hkn x0 x1 x2 x3 h E)
def f_La_follows_b16 (G : Nat) (s0 : Nat) (s1 : Int32) (s2 : Int64) (h : pH) : Option pR := (sJ h s0 s1 s2).bind fun h16 => some (some (.int (0 : Int32)), h16)
theorem f_La_follows_b16_eq (G : Nat) (s0 : Nat) (s1 : Int32) (s2 : Int64) (h : pH) : f_La_follows_b16 G s0 s1 s2 h = ((sJ h s0 s1 s2).bind fun h16 => some (some (.int (0 : Int32)), h16)) := rfl
def f_La_follows (G : Nat) (x0 : Nat) (x1 : Int32) (x2 : Int32) (x3 : Nat) (h : pH) : Option pR := tC (oC h x0 3) (f_Mg_follows G x0 x1 x2 h) (fun v15 h9 => if v15 = 0 then ((f_La_follows_b16 G) x3 (0 : Int32) (0 : Int64) h9) else ((f_La_follows_b16 G) x3 (0 : Int32) (1 : Int64) h9)) (fun kd h9 => if kd = 1 then (some (some (.int (1 : Int32)), h9)) else (none))
theorem f_La_follows_eq (G : Nat) (x0 : Nat) (x1 : Int32) (x2 : Int32) (x3 : Nat) (h : pH) : f_La_follows G x0 x1 x2 x3 h = (tC (oC h x0 3) (f_Mg_follows G x0 x1 x2 h) (fun v15 h9 => if v15 = 0 then ((f_La_follows_b16 G) x3 (0 : Int32) (0 : Int64) h9) else ((f_La_follows_b16 G) x3 (0 : Int32) (1 : Int64) h9)) (fun kd h9 => if kd = 1 then (some (some (.int (1 : Int32)), h9)) else (none))) := rfl
set_option maxRecDepth 100000 in
set_option maxHeartbeats 4000000 in
theorem w_La_follows_b16 {X : zX} {r : pR} {G : Nat} (hQ : zQ X r) (hT : zLOK X hh_La_follows) (hkn : zkn X 2 12) : ∀ (s0 : Nat) (s1 : Int32) (s2 : Int64) (h : pH), f_La_follows_b16 G s0 s1 s2 h = some r → Z X M_La_follows 2 12 h 16 [] [.long s2, .int s1, .ref s0] := by
  intro s0 s1 s2 h E
  rw [f_La_follows_b16_eq] at E
  refine z_lastore d_La_follows_16 E (fun h16 _ E => ?_)
  refine z_goto (tgt := 24) d_La_follows_17 (by decide) ?_
  refine z_iconst (v := (0 : Int32)) d_La_follows_24 (by decide) ?_
  exact z_ireturn hQ rfl (zkn_le hkn (Nat.le_of_ble_eq_true rfl) (Nat.le_of_ble_eq_true rfl)) d_La_follows_25 E
set_option maxRecDepth 100000 in
set_option maxHeartbeats 4000000 in
theorem w_La_follows_b0 {X : zX} {r : pR} {G : Nat} (hQ : zQ X r) (hT : zLOK X hh_La_follows) (hkn : zkn X 2 12) : ∀ (x0 : Nat) (x1 : Int32) (x2 : Int32) (x3 : Nat) (h : pH), f_La_follows G x0 x1 x2 x3 h = some r → Z X M_La_follows 0 0 h 0 [(0, .ref x0), (1, .int x1), (2, .int x2), (3, .ref x3)] [] := by
  intro x0 x1 x2 x3 h E
  rw [f_La_follows_eq] at E
  refine z_aload_n 3 d_La_follows_0 rfl rfl ?_
  refine z_iconst (v := (0 : Int32)) d_La_follows_1 (by decide) ?_
  refine z_aload_n 0 d_La_follows_2 rfl rfl ?_
  refine z_iload_n 1 d_La_follows_3 rfl rfl ?_
  refine z_iload_n 2 d_La_follows_4 rfl rfl ?_
  obtain ⟨g10, ⟨rc12, h9⟩, e11, kx13, kk14⟩ := tC_some E
  dsimp only at kx13 kk14
  refine l_invV (ci := 3) (y := y_Mg_follows) (Mc := M_Mg_follows) (av := [.int x1, .int x2]) (rest := [.int (0 : Int32), .ref x3]) (mc1 := 2) (ms1 := 12) hT rfl rfl ⟨zt_528, zt_529, zt_530, zt_48⟩ zk_Mg_follows zy_Mg_follows (by decide) (Nat.le_of_ble_eq_true rfl) (zkn_le hkn (Nat.le_of_ble_eq_true rfl) (Nat.le_of_ble_eq_true rfl)) rfl (Nat.le_of_ble_eq_true rfl) d_La_follows_5 g10 (m_Mg_follows (zLOK_l hT) e11) (fun kd hkd => ?_) (fun w9 hw9 => ?_)
  · have E := kx13 kd hkd
    by_cases c1 : kd = 1
    · rw [if_pos c1] at E
      subst c1
      refine ⟨20, ⟨[], (0, 17, 20, 13), [], rfl, rfl, (fun z hz => nomatch hz), by decide, by decide, zt_176, x1_castable⟩, fun q9 => ?_⟩
      show Z X M_La_follows 2 12 h9 20 [(0, .ref x0), (1, .int x1), (2, .int x2), (3, .ref x3)] [.ref q9]
      refine z_astore (lv2 := [(4, .ref q9), (0, .ref x0), (1, .int x1), (2, .int x2), (3, .ref x3)]) d_La_follows_20 (Nat.le_of_ble_eq_true rfl) rfl ?_
      refine z_iconst (v := (1 : Int32)) d_La_follows_22 (by decide) ?_
      exact z_ireturn hQ rfl (zkn_le hkn (Nat.le_of_ble_eq_true rfl) (Nat.le_of_ble_eq_true rfl)) d_La_follows_23 E
    rw [if_neg c1] at E
    cases E
  · obtain ⟨v15, rfl, E⟩ := kk14 w9 hw9
    show Z X M_La_follows 2 12 h9 8 [(0, .ref x0), (1, .int x1), (2, .int x2), (3, .ref x3)] [.int v15, .int (0 : Int32), .ref x3]
    refine z_if_eq (y := 0) (tgt := 15) d_La_follows_8 (by decide) E (fun E => ?_) (fun E => ?_)
    · refine z_lconst (v := (0 : Int64)) d_La_follows_15 (by decide) ?_
      refine z_lv [] rfl ?_
      exact (w_La_follows_b16 hQ hT hkn) x3 (0 : Int32) (0 : Int64) h9 E
    · refine z_lconst (v := (1 : Int64)) d_La_follows_11 (by decide) ?_
      refine z_goto (tgt := 16) d_La_follows_12 (by decide) ?_
      refine z_lv [] rfl ?_
      exact (w_La_follows_b16 hQ hT hkn) x3 (0 : Int32) (1 : Int64) h9 E
theorem m_La_follows {l : Launch} (hl0 : l.stackTraces = false) {G : Nat} {x0 : Nat} {x1 : Int32} {x2 : Int32} {x3 : Nat} {h : pH} {r : pR} (E : f_La_follows G x0 x1 x2 x3 h = some r) : zMetW l y_La_follows M_La_follows hh_La_follows 2 12 [.ref x0, .int x1, .int x2, .ref x3] h r :=
  zMetW_of hl0 (by decide) rfl (Nat.le_of_ble_eq_true rfl) (fun X hT hQ hkn _ => w_La_follows_b0 hQ hT hkn x0 x1 x2 x3 h E)
def f_La_putting (G : Nat) (x0 : Nat) (x1 : Int32) (x2 : Int32) (x3 : Int32) (x4 : Nat) (h : pH) : Option pR := tC (oC h x0 3) (f_Mg_putting G x0 x1 x2 x3 h) (fun v15 h9 => (sJ h9 x4 (0 : Int32) (v15).toInt64).bind fun h16 => some (some (.int (0 : Int32)), h16)) (fun kd h9 => if kd = 1 then (some (some (.int (1 : Int32)), h9)) else (none))
theorem f_La_putting_eq (G : Nat) (x0 : Nat) (x1 : Int32) (x2 : Int32) (x3 : Int32) (x4 : Nat) (h : pH) : f_La_putting G x0 x1 x2 x3 x4 h = (tC (oC h x0 3) (f_Mg_putting G x0 x1 x2 x3 h) (fun v15 h9 => (sJ h9 x4 (0 : Int32) (v15).toInt64).bind fun h16 => some (some (.int (0 : Int32)), h16)) (fun kd h9 => if kd = 1 then (some (some (.int (1 : Int32)), h9)) else (none))) := rfl
set_option maxRecDepth 100000 in
set_option maxHeartbeats 4000000 in
theorem w_La_putting_b0 {X : zX} {r : pR} {G : Nat} (hQ : zQ X r) (hT : zLOK X hh_La_putting) (hkn : zkn X 2 12) : ∀ (x0 : Nat) (x1 : Int32) (x2 : Int32) (x3 : Int32) (x4 : Nat) (h : pH), f_La_putting G x0 x1 x2 x3 x4 h = some r → Z X M_La_putting 0 0 h 0 [(0, .ref x0), (1, .int x1), (2, .int x2), (3, .int x3), (4, .ref x4)] [] := by
  intro x0 x1 x2 x3 x4 h E
  rw [f_La_putting_eq] at E
  refine z_aload 4 d_La_putting_0 rfl ?_
  refine z_iconst (v := (0 : Int32)) d_La_putting_2 (by decide) ?_
  refine z_aload_n 0 d_La_putting_3 rfl rfl ?_
  refine z_iload_n 1 d_La_putting_4 rfl rfl ?_
  refine z_iload_n 2 d_La_putting_5 rfl rfl ?_
  refine z_iload_n 3 d_La_putting_6 rfl rfl ?_
  obtain ⟨g10, ⟨rc12, h9⟩, e11, kx13, kk14⟩ := tC_some E
  dsimp only at kx13 kk14
  refine l_invV (ci := 3) (y := y_Mg_putting) (Mc := M_Mg_putting) (av := [.int x1, .int x2, .int x3]) (rest := [.int (0 : Int32), .ref x4]) (mc1 := 2) (ms1 := 12) hT rfl rfl ⟨zt_535, zt_536, zt_537, zt_48⟩ zk_Mg_putting zy_Mg_putting (by decide) (Nat.le_of_ble_eq_true rfl) (zkn_le hkn (Nat.le_of_ble_eq_true rfl) (Nat.le_of_ble_eq_true rfl)) rfl (Nat.le_of_ble_eq_true rfl) d_La_putting_7 g10 (m_Mg_putting (zLOK_l hT) e11) (fun kd hkd => ?_) (fun w9 hw9 => ?_)
  · have E := kx13 kd hkd
    by_cases c1 : kd = 1
    · rw [if_pos c1] at E
      subst c1
      refine ⟨15, ⟨[], (0, 12, 15, 13), [], rfl, rfl, (fun z hz => nomatch hz), by decide, by decide, zt_176, x1_castable⟩, fun q9 => ?_⟩
      show Z X M_La_putting 2 12 h9 15 [(0, .ref x0), (1, .int x1), (2, .int x2), (3, .int x3), (4, .ref x4)] [.ref q9]
      refine z_astore (lv2 := [(5, .ref q9), (0, .ref x0), (1, .int x1), (2, .int x2), (3, .int x3), (4, .ref x4)]) d_La_putting_15 (Nat.le_of_ble_eq_true rfl) rfl ?_
      refine z_iconst (v := (1 : Int32)) d_La_putting_17 (by decide) ?_
      exact z_ireturn hQ rfl (zkn_le hkn (Nat.le_of_ble_eq_true rfl) (Nat.le_of_ble_eq_true rfl)) d_La_putting_18 E
    rw [if_neg c1] at E
    cases E
  · obtain ⟨v15, rfl, E⟩ := kk14 w9 hw9
    show Z X M_La_putting 2 12 h9 10 [(0, .ref x0), (1, .int x1), (2, .int x2), (3, .int x3), (4, .ref x4)] [.int v15, .int (0 : Int32), .ref x4]
    refine z_i2l d_La_putting_10 ?_
    refine z_lastore d_La_putting_11 E (fun h16 _ E => ?_)
    refine z_goto (tgt := 19) d_La_putting_12 (by decide) ?_
    refine z_iconst (v := (0 : Int32)) d_La_putting_19 (by decide) ?_
    exact z_ireturn hQ rfl (zkn_le hkn (Nat.le_of_ble_eq_true rfl) (Nat.le_of_ble_eq_true rfl)) d_La_putting_20 E
theorem m_La_putting {l : Launch} (hl0 : l.stackTraces = false) {G : Nat} {x0 : Nat} {x1 : Int32} {x2 : Int32} {x3 : Int32} {x4 : Nat} {h : pH} {r : pR} (E : f_La_putting G x0 x1 x2 x3 x4 h = some r) : zMetW l y_La_putting M_La_putting hh_La_putting 2 12 [.ref x0, .int x1, .int x2, .int x3, .ref x4] h r :=
  zMetW_of hl0 (by decide) rfl (Nat.le_of_ble_eq_true rfl) (fun X hT hQ hkn _ => w_La_putting_b0 hQ hT hkn x0 x1 x2 x3 x4 h E)
def f_La_lean_b15 (G : Nat) (s0 : Nat) (s1 : Int32) (s2 : Int64) (h : pH) : Option pR := (sJ h s0 s1 s2).bind fun h16 => some (some (.int (0 : Int32)), h16)
theorem f_La_lean_b15_eq (G : Nat) (s0 : Nat) (s1 : Int32) (s2 : Int64) (h : pH) : f_La_lean_b15 G s0 s1 s2 h = ((sJ h s0 s1 s2).bind fun h16 => some (some (.int (0 : Int32)), h16)) := rfl
def f_La_lean (G : Nat) (x0 : Nat) (x1 : Int32) (x2 : Nat) (h : pH) : Option pR := tC (oC h x0 3) (f_Mg_lean G x0 x1 h) (fun v15 h9 => if v15 = 0 then ((f_La_lean_b15 G) x2 (0 : Int32) (0 : Int64) h9) else ((f_La_lean_b15 G) x2 (0 : Int32) (1 : Int64) h9)) (fun kd h9 => if kd = 1 then (some (some (.int (1 : Int32)), h9)) else (none))
theorem f_La_lean_eq (G : Nat) (x0 : Nat) (x1 : Int32) (x2 : Nat) (h : pH) : f_La_lean G x0 x1 x2 h = (tC (oC h x0 3) (f_Mg_lean G x0 x1 h) (fun v15 h9 => if v15 = 0 then ((f_La_lean_b15 G) x2 (0 : Int32) (0 : Int64) h9) else ((f_La_lean_b15 G) x2 (0 : Int32) (1 : Int64) h9)) (fun kd h9 => if kd = 1 then (some (some (.int (1 : Int32)), h9)) else (none))) := rfl
set_option maxRecDepth 100000 in
set_option maxHeartbeats 4000000 in
theorem w_La_lean_b15 {X : zX} {r : pR} {G : Nat} (hQ : zQ X r) (hT : zLOK X hh_La_lean) (hkn : zkn X 1 6) : ∀ (s0 : Nat) (s1 : Int32) (s2 : Int64) (h : pH), f_La_lean_b15 G s0 s1 s2 h = some r → Z X M_La_lean 1 6 h 15 [] [.long s2, .int s1, .ref s0] := by
  intro s0 s1 s2 h E
  rw [f_La_lean_b15_eq] at E
  refine z_lastore d_La_lean_15 E (fun h16 _ E => ?_)
  refine z_goto (tgt := 22) d_La_lean_16 (by decide) ?_
  refine z_iconst (v := (0 : Int32)) d_La_lean_22 (by decide) ?_
  exact z_ireturn hQ rfl (zkn_le hkn (Nat.le_of_ble_eq_true rfl) (Nat.le_of_ble_eq_true rfl)) d_La_lean_23 E
set_option maxRecDepth 100000 in
set_option maxHeartbeats 4000000 in
theorem w_La_lean_b0 {X : zX} {r : pR} {G : Nat} (hQ : zQ X r) (hT : zLOK X hh_La_lean) (hkn : zkn X 1 6) : ∀ (x0 : Nat) (x1 : Int32) (x2 : Nat) (h : pH), f_La_lean G x0 x1 x2 h = some r → Z X M_La_lean 0 0 h 0 [(0, .ref x0), (1, .int x1), (2, .ref x2)] [] := by
  intro x0 x1 x2 h E
  rw [f_La_lean_eq] at E
  refine z_aload_n 2 d_La_lean_0 rfl rfl ?_
  refine z_iconst (v := (0 : Int32)) d_La_lean_1 (by decide) ?_
  refine z_aload_n 0 d_La_lean_2 rfl rfl ?_
  refine z_iload_n 1 d_La_lean_3 rfl rfl ?_
  obtain ⟨g10, ⟨rc12, h9⟩, e11, kx13, kk14⟩ := tC_some E
  dsimp only at kx13 kk14
  refine l_invV (ci := 3) (y := y_Mg_lean) (Mc := M_Mg_lean) (av := [.int x1]) (rest := [.int (0 : Int32), .ref x2]) (mc1 := 1) (ms1 := 6) hT rfl rfl ⟨zt_542, zt_543, zt_544, zt_48⟩ zk_Mg_lean zy_Mg_lean (by decide) (Nat.le_of_ble_eq_true rfl) (zkn_le hkn (Nat.le_of_ble_eq_true rfl) (Nat.le_of_ble_eq_true rfl)) rfl (Nat.le_of_ble_eq_true rfl) d_La_lean_4 g10 (m_Mg_lean (zLOK_l hT) e11) (fun kd hkd => ?_) (fun w9 hw9 => ?_)
  · have E := kx13 kd hkd
    by_cases c1 : kd = 1
    · rw [if_pos c1] at E
      subst c1
      refine ⟨19, ⟨[], (0, 16, 19, 13), [], rfl, rfl, (fun z hz => nomatch hz), by decide, by decide, zt_176, x1_castable⟩, fun q9 => ?_⟩
      show Z X M_La_lean 1 6 h9 19 [(0, .ref x0), (1, .int x1), (2, .ref x2)] [.ref q9]
      refine z_astore_n (lv2 := [(3, .ref q9), (0, .ref x0), (1, .int x1), (2, .ref x2)]) d_La_lean_19 rfl (Nat.le_of_ble_eq_true rfl) rfl ?_
      refine z_iconst (v := (1 : Int32)) d_La_lean_20 (by decide) ?_
      exact z_ireturn hQ rfl (zkn_le hkn (Nat.le_of_ble_eq_true rfl) (Nat.le_of_ble_eq_true rfl)) d_La_lean_21 E
    rw [if_neg c1] at E
    cases E
  · obtain ⟨v15, rfl, E⟩ := kk14 w9 hw9
    show Z X M_La_lean 1 6 h9 7 [(0, .ref x0), (1, .int x1), (2, .ref x2)] [.int v15, .int (0 : Int32), .ref x2]
    refine z_if_eq (y := 0) (tgt := 14) d_La_lean_7 (by decide) E (fun E => ?_) (fun E => ?_)
    · refine z_lconst (v := (0 : Int64)) d_La_lean_14 (by decide) ?_
      refine z_lv [] rfl ?_
      exact (w_La_lean_b15 hQ hT hkn) x2 (0 : Int32) (0 : Int64) h9 E
    · refine z_lconst (v := (1 : Int64)) d_La_lean_10 (by decide) ?_
      refine z_goto (tgt := 15) d_La_lean_11 (by decide) ?_
      refine z_lv [] rfl ?_
      exact (w_La_lean_b15 hQ hT hkn) x2 (0 : Int32) (1 : Int64) h9 E
theorem m_La_lean {l : Launch} (hl0 : l.stackTraces = false) {G : Nat} {x0 : Nat} {x1 : Int32} {x2 : Nat} {h : pH} {r : pR} (E : f_La_lean G x0 x1 x2 h = some r) : zMetW l y_La_lean M_La_lean hh_La_lean 1 6 [.ref x0, .int x1, .ref x2] h r :=
  zMetW_of hl0 (by decide) rfl (Nat.le_of_ble_eq_true rfl) (fun X hT hQ hkn _ => w_La_lean_b0 hQ hT hkn x0 x1 x2 h E)
def f_La_core (G : Nat) (x0 : Nat) (x1 : Int32) (x2 : Nat) (h : pH) : Option pR := tC (oC h x0 3) (f_Mg_core G x0 x1 h) (fun v15 h9 => (sJ h9 x2 (0 : Int32) (v15).toInt64).bind fun h16 => some (some (.int (0 : Int32)), h16)) (fun kd h9 => if kd = 1 then (some (some (.int (1 : Int32)), h9)) else (none))
theorem f_La_core_eq (G : Nat) (x0 : Nat) (x1 : Int32) (x2 : Nat) (h : pH) : f_La_core G x0 x1 x2 h = (tC (oC h x0 3) (f_Mg_core G x0 x1 h) (fun v15 h9 => (sJ h9 x2 (0 : Int32) (v15).toInt64).bind fun h16 => some (some (.int (0 : Int32)), h16)) (fun kd h9 => if kd = 1 then (some (some (.int (1 : Int32)), h9)) else (none))) := rfl
set_option maxRecDepth 100000 in
set_option maxHeartbeats 4000000 in
theorem w_La_core_b0 {X : zX} {r : pR} {G : Nat} (hQ : zQ X r) (hT : zLOK X hh_La_core) (hkn : zkn X 1 6) : ∀ (x0 : Nat) (x1 : Int32) (x2 : Nat) (h : pH), f_La_core G x0 x1 x2 h = some r → Z X M_La_core 0 0 h 0 [(0, .ref x0), (1, .int x1), (2, .ref x2)] [] := by
  intro x0 x1 x2 h E
  rw [f_La_core_eq] at E
  refine z_aload_n 2 d_La_core_0 rfl rfl ?_
  refine z_iconst (v := (0 : Int32)) d_La_core_1 (by decide) ?_
  refine z_aload_n 0 d_La_core_2 rfl rfl ?_
  refine z_iload_n 1 d_La_core_3 rfl rfl ?_
  obtain ⟨g10, ⟨rc12, h9⟩, e11, kx13, kk14⟩ := tC_some E
  dsimp only at kx13 kk14
  refine l_invV (ci := 3) (y := y_Mg_core) (Mc := M_Mg_core) (av := [.int x1]) (rest := [.int (0 : Int32), .ref x2]) (mc1 := 1) (ms1 := 6) hT rfl rfl ⟨zt_564, zt_565, zt_566, zt_48⟩ zk_Mg_core zy_Mg_core (by decide) (Nat.le_of_ble_eq_true rfl) (zkn_le hkn (Nat.le_of_ble_eq_true rfl) (Nat.le_of_ble_eq_true rfl)) rfl (Nat.le_of_ble_eq_true rfl) d_La_core_4 g10 (m_Mg_core (zLOK_l hT) e11) (fun kd hkd => ?_) (fun w9 hw9 => ?_)
  · have E := kx13 kd hkd
    by_cases c1 : kd = 1
    · rw [if_pos c1] at E
      subst c1
      refine ⟨12, ⟨[], (0, 9, 12, 13), [], rfl, rfl, (fun z hz => nomatch hz), by decide, by decide, zt_176, x1_castable⟩, fun q9 => ?_⟩
      show Z X M_La_core 1 6 h9 12 [(0, .ref x0), (1, .int x1), (2, .ref x2)] [.ref q9]
      refine z_astore_n (lv2 := [(3, .ref q9), (0, .ref x0), (1, .int x1), (2, .ref x2)]) d_La_core_12 rfl (Nat.le_of_ble_eq_true rfl) rfl ?_
      refine z_iconst (v := (1 : Int32)) d_La_core_13 (by decide) ?_
      exact z_ireturn hQ rfl (zkn_le hkn (Nat.le_of_ble_eq_true rfl) (Nat.le_of_ble_eq_true rfl)) d_La_core_14 E
    rw [if_neg c1] at E
    cases E
  · obtain ⟨v15, rfl, E⟩ := kk14 w9 hw9
    show Z X M_La_core 1 6 h9 7 [(0, .ref x0), (1, .int x1), (2, .ref x2)] [.int v15, .int (0 : Int32), .ref x2]
    refine z_i2l d_La_core_7 ?_
    refine z_lastore d_La_core_8 E (fun h16 _ E => ?_)
    refine z_goto (tgt := 15) d_La_core_9 (by decide) ?_
    refine z_iconst (v := (0 : Int32)) d_La_core_15 (by decide) ?_
    exact z_ireturn hQ rfl (zkn_le hkn (Nat.le_of_ble_eq_true rfl) (Nat.le_of_ble_eq_true rfl)) d_La_core_16 E
theorem m_La_core {l : Launch} (hl0 : l.stackTraces = false) {G : Nat} {x0 : Nat} {x1 : Int32} {x2 : Nat} {h : pH} {r : pR} (E : f_La_core G x0 x1 x2 h = some r) : zMetW l y_La_core M_La_core hh_La_core 1 6 [.ref x0, .int x1, .ref x2] h r :=
  zMetW_of hl0 (by decide) rfl (Nat.le_of_ble_eq_true rfl) (fun X hT hQ hkn _ => w_La_core_b0 hQ hT hkn x0 x1 x2 h E)
def f_La_join (G : Nat) (x0 : Nat) (x1 : Int32) (x2 : Int32) (x3 : Int32) (x4 : Nat) (h : pH) : Option pR := tC (oC h x0 3) (f_Mg_join G x0 x1 x2 x3 h) (fun v15 h9 => (sJ h9 x4 (0 : Int32) (v15).toInt64).bind fun h16 => some (some (.int (0 : Int32)), h16)) (fun kd h9 => if kd = 1 then (some (some (.int (1 : Int32)), h9)) else (none))
theorem f_La_join_eq (G : Nat) (x0 : Nat) (x1 : Int32) (x2 : Int32) (x3 : Int32) (x4 : Nat) (h : pH) : f_La_join G x0 x1 x2 x3 x4 h = (tC (oC h x0 3) (f_Mg_join G x0 x1 x2 x3 h) (fun v15 h9 => (sJ h9 x4 (0 : Int32) (v15).toInt64).bind fun h16 => some (some (.int (0 : Int32)), h16)) (fun kd h9 => if kd = 1 then (some (some (.int (1 : Int32)), h9)) else (none))) := rfl
set_option maxRecDepth 100000 in
set_option maxHeartbeats 4000000 in
theorem w_La_join_b0 {X : zX} {r : pR} {G : Nat} (hQ : zQ X r) (hT : zLOK X hh_La_join) (hkn : zkn X 3 18) : ∀ (x0 : Nat) (x1 : Int32) (x2 : Int32) (x3 : Int32) (x4 : Nat) (h : pH), f_La_join G x0 x1 x2 x3 x4 h = some r → Z X M_La_join 0 0 h 0 [(0, .ref x0), (1, .int x1), (2, .int x2), (3, .int x3), (4, .ref x4)] [] := by
  intro x0 x1 x2 x3 x4 h E
  rw [f_La_join_eq] at E
  refine z_aload 4 d_La_join_0 rfl ?_
  refine z_iconst (v := (0 : Int32)) d_La_join_2 (by decide) ?_
  refine z_aload_n 0 d_La_join_3 rfl rfl ?_
  refine z_iload_n 1 d_La_join_4 rfl rfl ?_
  refine z_iload_n 2 d_La_join_5 rfl rfl ?_
  refine z_iload_n 3 d_La_join_6 rfl rfl ?_
  obtain ⟨g10, ⟨rc12, h9⟩, e11, kx13, kk14⟩ := tC_some E
  dsimp only at kx13 kk14
  refine l_invV (ci := 3) (y := y_Mg_join) (Mc := M_Mg_join) (av := [.int x1, .int x2, .int x3]) (rest := [.int (0 : Int32), .ref x4]) (mc1 := 3) (ms1 := 18) hT rfl rfl ⟨zt_581, zt_582, zt_583, zt_48⟩ zk_Mg_join zy_Mg_join (by decide) (Nat.le_of_ble_eq_true rfl) (zkn_le hkn (Nat.le_of_ble_eq_true rfl) (Nat.le_of_ble_eq_true rfl)) rfl (Nat.le_of_ble_eq_true rfl) d_La_join_7 g10 (m_Mg_join (zLOK_l hT) e11) (fun kd hkd => ?_) (fun w9 hw9 => ?_)
  · have E := kx13 kd hkd
    by_cases c1 : kd = 1
    · rw [if_pos c1] at E
      subst c1
      refine ⟨15, ⟨[], (0, 12, 15, 13), [], rfl, rfl, (fun z hz => nomatch hz), by decide, by decide, zt_176, x1_castable⟩, fun q9 => ?_⟩
      show Z X M_La_join 3 18 h9 15 [(0, .ref x0), (1, .int x1), (2, .int x2), (3, .int x3), (4, .ref x4)] [.ref q9]
      refine z_astore (lv2 := [(5, .ref q9), (0, .ref x0), (1, .int x1), (2, .int x2), (3, .int x3), (4, .ref x4)]) d_La_join_15 (Nat.le_of_ble_eq_true rfl) rfl ?_
      refine z_iconst (v := (1 : Int32)) d_La_join_17 (by decide) ?_
      exact z_ireturn hQ rfl (zkn_le hkn (Nat.le_of_ble_eq_true rfl) (Nat.le_of_ble_eq_true rfl)) d_La_join_18 E
    rw [if_neg c1] at E
    cases E
  · obtain ⟨v15, rfl, E⟩ := kk14 w9 hw9
    show Z X M_La_join 3 18 h9 10 [(0, .ref x0), (1, .int x1), (2, .int x2), (3, .int x3), (4, .ref x4)] [.int v15, .int (0 : Int32), .ref x4]
    refine z_i2l d_La_join_10 ?_
    refine z_lastore d_La_join_11 E (fun h16 _ E => ?_)
    refine z_goto (tgt := 19) d_La_join_12 (by decide) ?_
    refine z_iconst (v := (0 : Int32)) d_La_join_19 (by decide) ?_
    exact z_ireturn hQ rfl (zkn_le hkn (Nat.le_of_ble_eq_true rfl) (Nat.le_of_ble_eq_true rfl)) d_La_join_20 E
theorem m_La_join {l : Launch} (hl0 : l.stackTraces = false) {G : Nat} {x0 : Nat} {x1 : Int32} {x2 : Int32} {x3 : Int32} {x4 : Nat} {h : pH} {r : pR} (E : f_La_join G x0 x1 x2 x3 x4 h = some r) : zMetW l y_La_join M_La_join hh_La_join 3 18 [.ref x0, .int x1, .int x2, .int x3, .ref x4] h r :=
  zMetW_of hl0 (by decide) rfl (Nat.le_of_ble_eq_true rfl) (fun X hT hQ hkn _ => w_La_join_b0 hQ hT hkn x0 x1 x2 x3 x4 h E)
def f_La_merge (G : Nat) (x0 : Nat) (x1 : Int32) (x2 : Int32) (x3 : Int32) (x4 : Int32) (x5 : Nat) (h : pH) : Option pR := tC (oC h x0 3) (f_Mg_merge G x0 x1 x2 x3 x4 h) (fun v15 h9 => (sJ h9 x5 (0 : Int32) (v15).toInt64).bind fun h16 => some (some (.int (0 : Int32)), h16)) (fun kd h9 => if kd = 1 then (some (some (.int (1 : Int32)), h9)) else (none))
theorem f_La_merge_eq (G : Nat) (x0 : Nat) (x1 : Int32) (x2 : Int32) (x3 : Int32) (x4 : Int32) (x5 : Nat) (h : pH) : f_La_merge G x0 x1 x2 x3 x4 x5 h = (tC (oC h x0 3) (f_Mg_merge G x0 x1 x2 x3 x4 h) (fun v15 h9 => (sJ h9 x5 (0 : Int32) (v15).toInt64).bind fun h16 => some (some (.int (0 : Int32)), h16)) (fun kd h9 => if kd = 1 then (some (some (.int (1 : Int32)), h9)) else (none))) := rfl
set_option maxRecDepth 100000 in
set_option maxHeartbeats 4000000 in
theorem w_La_merge_b0 {X : zX} {r : pR} {G : Nat} (hQ : zQ X r) (hT : zLOK X hh_La_merge) (hkn : zkn X 4 24) : ∀ (x0 : Nat) (x1 : Int32) (x2 : Int32) (x3 : Int32) (x4 : Int32) (x5 : Nat) (h : pH), f_La_merge G x0 x1 x2 x3 x4 x5 h = some r → Z X M_La_merge 0 0 h 0 [(0, .ref x0), (1, .int x1), (2, .int x2), (3, .int x3), (4, .int x4), (5, .ref x5)] [] := by
  intro x0 x1 x2 x3 x4 x5 h E
  rw [f_La_merge_eq] at E
  refine z_aload 5 d_La_merge_0 rfl ?_
  refine z_iconst (v := (0 : Int32)) d_La_merge_2 (by decide) ?_
  refine z_aload_n 0 d_La_merge_3 rfl rfl ?_
  refine z_iload_n 1 d_La_merge_4 rfl rfl ?_
  refine z_iload_n 2 d_La_merge_5 rfl rfl ?_
  refine z_iload_n 3 d_La_merge_6 rfl rfl ?_
  refine z_iload 4 d_La_merge_7 rfl ?_
  obtain ⟨g10, ⟨rc12, h9⟩, e11, kx13, kk14⟩ := tC_some E
  dsimp only at kx13 kk14
  refine l_invV (ci := 3) (y := y_Mg_merge) (Mc := M_Mg_merge) (av := [.int x1, .int x2, .int x3, .int x4]) (rest := [.int (0 : Int32), .ref x5]) (mc1 := 4) (ms1 := 24) hT rfl rfl ⟨zt_594, zt_595, zt_596, zt_48⟩ zk_Mg_merge zy_Mg_merge (by decide) (Nat.le_of_ble_eq_true rfl) (zkn_le hkn (Nat.le_of_ble_eq_true rfl) (Nat.le_of_ble_eq_true rfl)) rfl (Nat.le_of_ble_eq_true rfl) d_La_merge_9 g10 (m_Mg_merge (zLOK_l hT) e11) (fun kd hkd => ?_) (fun w9 hw9 => ?_)
  · have E := kx13 kd hkd
    by_cases c1 : kd = 1
    · rw [if_pos c1] at E
      subst c1
      refine ⟨17, ⟨[], (0, 14, 17, 13), [], rfl, rfl, (fun z hz => nomatch hz), by decide, by decide, zt_176, x1_castable⟩, fun q9 => ?_⟩
      show Z X M_La_merge 4 24 h9 17 [(0, .ref x0), (1, .int x1), (2, .int x2), (3, .int x3), (4, .int x4), (5, .ref x5)] [.ref q9]
      refine z_astore (lv2 := [(6, .ref q9), (0, .ref x0), (1, .int x1), (2, .int x2), (3, .int x3), (4, .int x4), (5, .ref x5)]) d_La_merge_17 (Nat.le_of_ble_eq_true rfl) rfl ?_
      refine z_iconst (v := (1 : Int32)) d_La_merge_19 (by decide) ?_
      exact z_ireturn hQ rfl (zkn_le hkn (Nat.le_of_ble_eq_true rfl) (Nat.le_of_ble_eq_true rfl)) d_La_merge_20 E
    rw [if_neg c1] at E
    cases E
  · obtain ⟨v15, rfl, E⟩ := kk14 w9 hw9
    show Z X M_La_merge 4 24 h9 12 [(0, .ref x0), (1, .int x1), (2, .int x2), (3, .int x3), (4, .int x4), (5, .ref x5)] [.int v15, .int (0 : Int32), .ref x5]
    refine z_i2l d_La_merge_12 ?_
    refine z_lastore d_La_merge_13 E (fun h16 _ E => ?_)
    refine z_goto (tgt := 21) d_La_merge_14 (by decide) ?_
    refine z_iconst (v := (0 : Int32)) d_La_merge_21 (by decide) ?_
    exact z_ireturn hQ rfl (zkn_le hkn (Nat.le_of_ble_eq_true rfl) (Nat.le_of_ble_eq_true rfl)) d_La_merge_22 E
theorem m_La_merge {l : Launch} (hl0 : l.stackTraces = false) {G : Nat} {x0 : Nat} {x1 : Int32} {x2 : Int32} {x3 : Int32} {x4 : Int32} {x5 : Nat} {h : pH} {r : pR} (E : f_La_merge G x0 x1 x2 x3 x4 x5 h = some r) : zMetW l y_La_merge M_La_merge hh_La_merge 4 24 [.ref x0, .int x1, .int x2, .int x3, .int x4, .ref x5] h r :=
  zMetW_of hl0 (by decide) rfl (Nat.le_of_ble_eq_true rfl) (fun X hT hQ hkn _ => w_La_merge_b0 hQ hT hkn x0 x1 x2 x3 x4 x5 h E)
def f_La_clash (G : Nat) (x0 : Nat) (x1 : Int32) (x2 : Int32) (x3 : Nat) (h : pH) : Option pR := tC (oC h x0 3) (f_Mg_clash G x0 x1 x2 h) (fun v15 h9 => (sJ h9 x3 (0 : Int32) (v15).toInt64).bind fun h16 => some (some (.int (0 : Int32)), h16)) (fun kd h9 => if kd = 1 then (some (some (.int (1 : Int32)), h9)) else (none))
theorem f_La_clash_eq (G : Nat) (x0 : Nat) (x1 : Int32) (x2 : Int32) (x3 : Nat) (h : pH) : f_La_clash G x0 x1 x2 x3 h = (tC (oC h x0 3) (f_Mg_clash G x0 x1 x2 h) (fun v15 h9 => (sJ h9 x3 (0 : Int32) (v15).toInt64).bind fun h16 => some (some (.int (0 : Int32)), h16)) (fun kd h9 => if kd = 1 then (some (some (.int (1 : Int32)), h9)) else (none))) := rfl
set_option maxRecDepth 100000 in
set_option maxHeartbeats 4000000 in
theorem w_La_clash_b0 {X : zX} {r : pR} {G : Nat} (hQ : zQ X r) (hT : zLOK X hh_La_clash) (hkn : zkn X 2 12) : ∀ (x0 : Nat) (x1 : Int32) (x2 : Int32) (x3 : Nat) (h : pH), f_La_clash G x0 x1 x2 x3 h = some r → Z X M_La_clash 0 0 h 0 [(0, .ref x0), (1, .int x1), (2, .int x2), (3, .ref x3)] [] := by
  intro x0 x1 x2 x3 h E
  rw [f_La_clash_eq] at E
  refine z_aload_n 3 d_La_clash_0 rfl rfl ?_
  refine z_iconst (v := (0 : Int32)) d_La_clash_1 (by decide) ?_
  refine z_aload_n 0 d_La_clash_2 rfl rfl ?_
  refine z_iload_n 1 d_La_clash_3 rfl rfl ?_
  refine z_iload_n 2 d_La_clash_4 rfl rfl ?_
  obtain ⟨g10, ⟨rc12, h9⟩, e11, kx13, kk14⟩ := tC_some E
  dsimp only at kx13 kk14
  refine l_invV (ci := 3) (y := y_Mg_clash) (Mc := M_Mg_clash) (av := [.int x1, .int x2]) (rest := [.int (0 : Int32), .ref x3]) (mc1 := 2) (ms1 := 12) hT rfl rfl ⟨zt_632, zt_633, zt_634, zt_48⟩ zk_Mg_clash zy_Mg_clash (by decide) (Nat.le_of_ble_eq_true rfl) (zkn_le hkn (Nat.le_of_ble_eq_true rfl) (Nat.le_of_ble_eq_true rfl)) rfl (Nat.le_of_ble_eq_true rfl) d_La_clash_5 g10 (m_Mg_clash (zLOK_l hT) e11) (fun kd hkd => ?_) (fun w9 hw9 => ?_)
  · have E := kx13 kd hkd
    by_cases c1 : kd = 1
    · rw [if_pos c1] at E
      subst c1
      refine ⟨13, ⟨[], (0, 10, 13, 13), [], rfl, rfl, (fun z hz => nomatch hz), by decide, by decide, zt_176, x1_castable⟩, fun q9 => ?_⟩
      show Z X M_La_clash 2 12 h9 13 [(0, .ref x0), (1, .int x1), (2, .int x2), (3, .ref x3)] [.ref q9]
      refine z_astore (lv2 := [(4, .ref q9), (0, .ref x0), (1, .int x1), (2, .int x2), (3, .ref x3)]) d_La_clash_13 (Nat.le_of_ble_eq_true rfl) rfl ?_
      refine z_iconst (v := (1 : Int32)) d_La_clash_15 (by decide) ?_
      exact z_ireturn hQ rfl (zkn_le hkn (Nat.le_of_ble_eq_true rfl) (Nat.le_of_ble_eq_true rfl)) d_La_clash_16 E
    rw [if_neg c1] at E
    cases E
  · obtain ⟨v15, rfl, E⟩ := kk14 w9 hw9
    show Z X M_La_clash 2 12 h9 8 [(0, .ref x0), (1, .int x1), (2, .int x2), (3, .ref x3)] [.int v15, .int (0 : Int32), .ref x3]
    refine z_i2l d_La_clash_8 ?_
    refine z_lastore d_La_clash_9 E (fun h16 _ E => ?_)
    refine z_goto (tgt := 17) d_La_clash_10 (by decide) ?_
    refine z_iconst (v := (0 : Int32)) d_La_clash_17 (by decide) ?_
    exact z_ireturn hQ rfl (zkn_le hkn (Nat.le_of_ble_eq_true rfl) (Nat.le_of_ble_eq_true rfl)) d_La_clash_18 E
theorem m_La_clash {l : Launch} (hl0 : l.stackTraces = false) {G : Nat} {x0 : Nat} {x1 : Int32} {x2 : Int32} {x3 : Nat} {h : pH} {r : pR} (E : f_La_clash G x0 x1 x2 x3 h = some r) : zMetW l y_La_clash M_La_clash hh_La_clash 2 12 [.ref x0, .int x1, .int x2, .ref x3] h r :=
  zMetW_of hl0 (by decide) rfl (Nat.le_of_ble_eq_true rfl) (fun X hT hQ hkn _ => w_La_clash_b0 hQ hT hkn x0 x1 x2 x3 h E)
def f_La_change (G : Nat) (x0 : Nat) (x1 : Int32) (x2 : Int32) (x3 : Nat) (h : pH) : Option pR := tC (oC h x0 3) (f_Mg_change G x0 x1 x2 h) (fun v15 h9 => (sJ h9 x3 (0 : Int32) (v15).toInt64).bind fun h16 => some (some (.int (0 : Int32)), h16)) (fun kd h9 => if kd = 1 then (some (some (.int (1 : Int32)), h9)) else (none))
theorem f_La_change_eq (G : Nat) (x0 : Nat) (x1 : Int32) (x2 : Int32) (x3 : Nat) (h : pH) : f_La_change G x0 x1 x2 x3 h = (tC (oC h x0 3) (f_Mg_change G x0 x1 x2 h) (fun v15 h9 => (sJ h9 x3 (0 : Int32) (v15).toInt64).bind fun h16 => some (some (.int (0 : Int32)), h16)) (fun kd h9 => if kd = 1 then (some (some (.int (1 : Int32)), h9)) else (none))) := rfl
set_option maxRecDepth 100000 in
set_option maxHeartbeats 4000000 in
theorem w_La_change_b0 {X : zX} {r : pR} {G : Nat} (hQ : zQ X r) (hT : zLOK X hh_La_change) (hkn : zkn X 2 12) : ∀ (x0 : Nat) (x1 : Int32) (x2 : Int32) (x3 : Nat) (h : pH), f_La_change G x0 x1 x2 x3 h = some r → Z X M_La_change 0 0 h 0 [(0, .ref x0), (1, .int x1), (2, .int x2), (3, .ref x3)] [] := by
  intro x0 x1 x2 x3 h E
  rw [f_La_change_eq] at E
  refine z_aload_n 3 d_La_change_0 rfl rfl ?_
  refine z_iconst (v := (0 : Int32)) d_La_change_1 (by decide) ?_
  refine z_aload_n 0 d_La_change_2 rfl rfl ?_
  refine z_iload_n 1 d_La_change_3 rfl rfl ?_
  refine z_iload_n 2 d_La_change_4 rfl rfl ?_
  obtain ⟨g10, ⟨rc12, h9⟩, e11, kx13, kk14⟩ := tC_some E
  dsimp only at kx13 kk14
  refine l_invV (ci := 3) (y := y_Mg_change) (Mc := M_Mg_change) (av := [.int x1, .int x2]) (rest := [.int (0 : Int32), .ref x3]) (mc1 := 2) (ms1 := 12) hT rfl rfl ⟨zt_643, zt_644, zt_645, zt_48⟩ zk_Mg_change zy_Mg_change (by decide) (Nat.le_of_ble_eq_true rfl) (zkn_le hkn (Nat.le_of_ble_eq_true rfl) (Nat.le_of_ble_eq_true rfl)) rfl (Nat.le_of_ble_eq_true rfl) d_La_change_5 g10 (m_Mg_change (zLOK_l hT) e11) (fun kd hkd => ?_) (fun w9 hw9 => ?_)
  · have E := kx13 kd hkd
    by_cases c1 : kd = 1
    · rw [if_pos c1] at E
      subst c1
      refine ⟨13, ⟨[], (0, 10, 13, 13), [], rfl, rfl, (fun z hz => nomatch hz), by decide, by decide, zt_176, x1_castable⟩, fun q9 => ?_⟩
      show Z X M_La_change 2 12 h9 13 [(0, .ref x0), (1, .int x1), (2, .int x2), (3, .ref x3)] [.ref q9]
      refine z_astore (lv2 := [(4, .ref q9), (0, .ref x0), (1, .int x1), (2, .int x2), (3, .ref x3)]) d_La_change_13 (Nat.le_of_ble_eq_true rfl) rfl ?_
      refine z_iconst (v := (1 : Int32)) d_La_change_15 (by decide) ?_
      exact z_ireturn hQ rfl (zkn_le hkn (Nat.le_of_ble_eq_true rfl) (Nat.le_of_ble_eq_true rfl)) d_La_change_16 E
    rw [if_neg c1] at E
    cases E
  · obtain ⟨v15, rfl, E⟩ := kk14 w9 hw9
    show Z X M_La_change 2 12 h9 8 [(0, .ref x0), (1, .int x1), (2, .int x2), (3, .ref x3)] [.int v15, .int (0 : Int32), .ref x3]
    refine z_i2l d_La_change_8 ?_
    refine z_lastore d_La_change_9 E (fun h16 _ E => ?_)
    refine z_goto (tgt := 17) d_La_change_10 (by decide) ?_
    refine z_iconst (v := (0 : Int32)) d_La_change_17 (by decide) ?_
    exact z_ireturn hQ rfl (zkn_le hkn (Nat.le_of_ble_eq_true rfl) (Nat.le_of_ble_eq_true rfl)) d_La_change_18 E
theorem m_La_change {l : Launch} (hl0 : l.stackTraces = false) {G : Nat} {x0 : Nat} {x1 : Int32} {x2 : Int32} {x3 : Nat} {h : pH} {r : pR} (E : f_La_change G x0 x1 x2 x3 h = some r) : zMetW l y_La_change M_La_change hh_La_change 2 12 [.ref x0, .int x1, .int x2, .ref x3] h r :=
  zMetW_of hl0 (by decide) rfl (Nat.le_of_ble_eq_true rfl) (fun X hT hQ hkn _ => w_La_change_b0 hQ hT hkn x0 x1 x2 x3 h E)
def f_La_part (G : Nat) (x0 : Nat) (x1 : Int32) (x2 : Int32) (x3 : Nat) (h : pH) : Option pR := tC (oC h x0 3) (f_Mg_part G x0 x1 x2 h) (fun v15 h9 => (sJ h9 x3 (0 : Int32) (v15).toInt64).bind fun h16 => some (some (.int (0 : Int32)), h16)) (fun kd h9 => if kd = 1 then (some (some (.int (1 : Int32)), h9)) else (none))
theorem f_La_part_eq (G : Nat) (x0 : Nat) (x1 : Int32) (x2 : Int32) (x3 : Nat) (h : pH) : f_La_part G x0 x1 x2 x3 h = (tC (oC h x0 3) (f_Mg_part G x0 x1 x2 h) (fun v15 h9 => (sJ h9 x3 (0 : Int32) (v15).toInt64).bind fun h16 => some (some (.int (0 : Int32)), h16)) (fun kd h9 => if kd = 1 then (some (some (.int (1 : Int32)), h9)) else (none))) := rfl
set_option maxRecDepth 100000 in
set_option maxHeartbeats 4000000 in
theorem w_La_part_b0 {X : zX} {r : pR} {G : Nat} (hQ : zQ X r) (hT : zLOK X hh_La_part) (hkn : zkn X 2 12) : ∀ (x0 : Nat) (x1 : Int32) (x2 : Int32) (x3 : Nat) (h : pH), f_La_part G x0 x1 x2 x3 h = some r → Z X M_La_part 0 0 h 0 [(0, .ref x0), (1, .int x1), (2, .int x2), (3, .ref x3)] [] := by
  intro x0 x1 x2 x3 h E
  rw [f_La_part_eq] at E
  refine z_aload_n 3 d_La_part_0 rfl rfl ?_
  refine z_iconst (v := (0 : Int32)) d_La_part_1 (by decide) ?_
  refine z_aload_n 0 d_La_part_2 rfl rfl ?_
  refine z_iload_n 1 d_La_part_3 rfl rfl ?_
  refine z_iload_n 2 d_La_part_4 rfl rfl ?_
  obtain ⟨g10, ⟨rc12, h9⟩, e11, kx13, kk14⟩ := tC_some E
  dsimp only at kx13 kk14
  refine l_invV (ci := 3) (y := y_Mg_part) (Mc := M_Mg_part) (av := [.int x1, .int x2]) (rest := [.int (0 : Int32), .ref x3]) (mc1 := 2) (ms1 := 12) hT rfl rfl ⟨zt_650, zt_651, zt_652, zt_48⟩ zk_Mg_part zy_Mg_part (by decide) (Nat.le_of_ble_eq_true rfl) (zkn_le hkn (Nat.le_of_ble_eq_true rfl) (Nat.le_of_ble_eq_true rfl)) rfl (Nat.le_of_ble_eq_true rfl) d_La_part_5 g10 (m_Mg_part (zLOK_l hT) e11) (fun kd hkd => ?_) (fun w9 hw9 => ?_)
  · have E := kx13 kd hkd
    by_cases c1 : kd = 1
    · rw [if_pos c1] at E
      subst c1
      refine ⟨13, ⟨[], (0, 10, 13, 13), [], rfl, rfl, (fun z hz => nomatch hz), by decide, by decide, zt_176, x1_castable⟩, fun q9 => ?_⟩
      show Z X M_La_part 2 12 h9 13 [(0, .ref x0), (1, .int x1), (2, .int x2), (3, .ref x3)] [.ref q9]
      refine z_astore (lv2 := [(4, .ref q9), (0, .ref x0), (1, .int x1), (2, .int x2), (3, .ref x3)]) d_La_part_13 (Nat.le_of_ble_eq_true rfl) rfl ?_
      refine z_iconst (v := (1 : Int32)) d_La_part_15 (by decide) ?_
      exact z_ireturn hQ rfl (zkn_le hkn (Nat.le_of_ble_eq_true rfl) (Nat.le_of_ble_eq_true rfl)) d_La_part_16 E
    rw [if_neg c1] at E
    cases E
  · obtain ⟨v15, rfl, E⟩ := kk14 w9 hw9
    show Z X M_La_part 2 12 h9 8 [(0, .ref x0), (1, .int x1), (2, .int x2), (3, .ref x3)] [.int v15, .int (0 : Int32), .ref x3]
    refine z_i2l d_La_part_8 ?_
    refine z_lastore d_La_part_9 E (fun h16 _ E => ?_)
    refine z_goto (tgt := 17) d_La_part_10 (by decide) ?_
    refine z_iconst (v := (0 : Int32)) d_La_part_17 (by decide) ?_
    exact z_ireturn hQ rfl (zkn_le hkn (Nat.le_of_ble_eq_true rfl) (Nat.le_of_ble_eq_true rfl)) d_La_part_18 E
theorem m_La_part {l : Launch} (hl0 : l.stackTraces = false) {G : Nat} {x0 : Nat} {x1 : Int32} {x2 : Int32} {x3 : Nat} {h : pH} {r : pR} (E : f_La_part G x0 x1 x2 x3 h = some r) : zMetW l y_La_part M_La_part hh_La_part 2 12 [.ref x0, .int x1, .int x2, .ref x3] h r :=
  zMetW_of hl0 (by decide) rfl (Nat.le_of_ble_eq_true rfl) (fun X hT hQ hkn _ => w_La_part_b0 hQ hT hkn x0 x1 x2 x3 h E)
def f_La_apply (G : Nat) (x0 : Nat) (x1 : Int32) (x2 : Int32) (x3 : Nat) (h : pH) : Option pR := tC (oC h x0 3) (f_Mg_apply G x0 x1 x2 h) (fun v15 h9 => (sJ h9 x3 (0 : Int32) (v15).toInt64).bind fun h16 => some (some (.int (0 : Int32)), h16)) (fun kd h9 => if kd = 1 then (some (some (.int (1 : Int32)), h9)) else (none))
theorem f_La_apply_eq (G : Nat) (x0 : Nat) (x1 : Int32) (x2 : Int32) (x3 : Nat) (h : pH) : f_La_apply G x0 x1 x2 x3 h = (tC (oC h x0 3) (f_Mg_apply G x0 x1 x2 h) (fun v15 h9 => (sJ h9 x3 (0 : Int32) (v15).toInt64).bind fun h16 => some (some (.int (0 : Int32)), h16)) (fun kd h9 => if kd = 1 then (some (some (.int (1 : Int32)), h9)) else (none))) := rfl
set_option maxRecDepth 100000 in
set_option maxHeartbeats 4000000 in
theorem w_La_apply_b0 {X : zX} {r : pR} {G : Nat} (hQ : zQ X r) (hT : zLOK X hh_La_apply) (hkn : zkn X 1 6) : ∀ (x0 : Nat) (x1 : Int32) (x2 : Int32) (x3 : Nat) (h : pH), f_La_apply G x0 x1 x2 x3 h = some r → Z X M_La_apply 0 0 h 0 [(0, .ref x0), (1, .int x1), (2, .int x2), (3, .ref x3)] [] := by
  intro x0 x1 x2 x3 h E
  rw [f_La_apply_eq] at E
  refine z_aload_n 3 d_La_apply_0 rfl rfl ?_
  refine z_iconst (v := (0 : Int32)) d_La_apply_1 (by decide) ?_
  refine z_aload_n 0 d_La_apply_2 rfl rfl ?_
  refine z_iload_n 1 d_La_apply_3 rfl rfl ?_
  refine z_iload_n 2 d_La_apply_4 rfl rfl ?_
  obtain ⟨g10, ⟨rc12, h9⟩, e11, kx13, kk14⟩ := tC_some E
  dsimp only at kx13 kk14
  refine l_invV (ci := 3) (y := y_Mg_apply) (Mc := M_Mg_apply) (av := [.int x1, .int x2]) (rest := [.int (0 : Int32), .ref x3]) (mc1 := 1) (ms1 := 6) hT rfl rfl ⟨zt_657, zt_658, zt_659, zt_48⟩ zk_Mg_apply zy_Mg_apply (by decide) (Nat.le_of_ble_eq_true rfl) (zkn_le hkn (Nat.le_of_ble_eq_true rfl) (Nat.le_of_ble_eq_true rfl)) rfl (Nat.le_of_ble_eq_true rfl) d_La_apply_5 g10 (m_Mg_apply (zLOK_l hT) e11) (fun kd hkd => ?_) (fun w9 hw9 => ?_)
  · have E := kx13 kd hkd
    by_cases c1 : kd = 1
    · rw [if_pos c1] at E
      subst c1
      refine ⟨13, ⟨[], (0, 10, 13, 13), [], rfl, rfl, (fun z hz => nomatch hz), by decide, by decide, zt_176, x1_castable⟩, fun q9 => ?_⟩
      show Z X M_La_apply 1 6 h9 13 [(0, .ref x0), (1, .int x1), (2, .int x2), (3, .ref x3)] [.ref q9]
      refine z_astore (lv2 := [(4, .ref q9), (0, .ref x0), (1, .int x1), (2, .int x2), (3, .ref x3)]) d_La_apply_13 (Nat.le_of_ble_eq_true rfl) rfl ?_
      refine z_iconst (v := (1 : Int32)) d_La_apply_15 (by decide) ?_
      exact z_ireturn hQ rfl (zkn_le hkn (Nat.le_of_ble_eq_true rfl) (Nat.le_of_ble_eq_true rfl)) d_La_apply_16 E
    rw [if_neg c1] at E
    cases E
  · obtain ⟨v15, rfl, E⟩ := kk14 w9 hw9
    show Z X M_La_apply 1 6 h9 8 [(0, .ref x0), (1, .int x1), (2, .int x2), (3, .ref x3)] [.int v15, .int (0 : Int32), .ref x3]
    refine z_i2l d_La_apply_8 ?_
    refine z_lastore d_La_apply_9 E (fun h16 _ E => ?_)
    refine z_goto (tgt := 17) d_La_apply_10 (by decide) ?_
    refine z_iconst (v := (0 : Int32)) d_La_apply_17 (by decide) ?_
    exact z_ireturn hQ rfl (zkn_le hkn (Nat.le_of_ble_eq_true rfl) (Nat.le_of_ble_eq_true rfl)) d_La_apply_18 E
theorem m_La_apply {l : Launch} (hl0 : l.stackTraces = false) {G : Nat} {x0 : Nat} {x1 : Int32} {x2 : Int32} {x3 : Nat} {h : pH} {r : pR} (E : f_La_apply G x0 x1 x2 x3 h = some r) : zMetW l y_La_apply M_La_apply hh_La_apply 1 6 [.ref x0, .int x1, .int x2, .ref x3] h r :=
  zMetW_of hl0 (by decide) rfl (Nat.le_of_ble_eq_true rfl) (fun X hT hQ hkn _ => w_La_apply_b0 hQ hT hkn x0 x1 x2 x3 h E)

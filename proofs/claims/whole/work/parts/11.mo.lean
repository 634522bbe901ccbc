def y_Mo_search : MethodName := ⟨"MergeGraphsModel", "search", "(III)Z"⟩
abbrev M_Mo_search : zM := (nR4, prog_6_method_28_code, 6, (some .boolean), 4)
set_option maxRecDepth 100000 in
theorem zk_Mo_search : Cond.code y_Mo_search (M_Mo_search).2.1 (M_Mo_search).2.2.1 (M_Mo_search).2.2.2.1 ∈ zTg := zmem 813 rfl rfl
theorem zy_Mo_search : (y_Mo_search).cls ≠ "java/lang/invoke/MethodHandle" ∧ (y_Mo_search).cls ≠ "java/lang/invoke/VarHandle" ∧ (parseMethodDescriptor (y_Mo_search).desc).map (fun d => d.parameters.length) = some 3 := by decide +kernel
theorem d_Mo_search_0 : decode prog_6_method_28_code 0 = .ok (.aload_n 0, 1) := by decide +kernel
theorem d_Mo_search_1 : decode prog_6_method_28_code 1 = .ok (.iload_n 1, 1) := by decide +kernel
theorem d_Mo_search_2 : decode prog_6_method_28_code 2 = .ok (.iload_n 2, 1) := by decide +kernel
theorem d_Mo_search_3 : decode prog_6_method_28_code 3 = .ok (.iload_n 3, 1) := by decide +kernel
theorem d_Mo_search_4 : decode prog_6_method_28_code 4 = .ok (.invokevirtual 116, 3) := by decide +kernel
theorem d_Mo_search_7 : decode prog_6_method_28_code 7 = .ok (.iload_n 3, 1) := by decide +kernel
theorem d_Mo_search_8 : decode prog_6_method_28_code 8 = .ok (.ifCond .ne 29, 3) := by decide +kernel
theorem d_Mo_search_11 : decode prog_6_method_28_code 11 = .ok (.aload_n 0, 1) := by decide +kernel
theorem d_Mo_search_12 : decode prog_6_method_28_code 12 = .ok (.getfield 98, 3) := by decide +kernel
theorem d_Mo_search_15 : decode prog_6_method_28_code 15 = .ok (.aload_n 0, 1) := by decide +kernel
theorem d_Mo_search_16 : decode prog_6_method_28_code 16 = .ok (.getfield 113, 3) := by decide +kernel
theorem d_Mo_search_19 : decode prog_6_method_28_code 19 = .ok (.if_icmp .ne 28, 3) := by decide +kernel
theorem d_Mo_search_22 : decode prog_6_method_28_code 22 = .ok (.aload_n 0, 1) := by decide +kernel
theorem d_Mo_search_23 : decode prog_6_method_28_code 23 = .ok (.getfield 13, 3) := by decide +kernel
theorem d_Mo_search_26 : decode prog_6_method_28_code 26 = .ok (.iload_n 1, 1) := by decide +kernel
theorem d_Mo_search_27 : decode prog_6_method_28_code 27 = .ok (.iaload, 1) := by decide +kernel
theorem d_Mo_search_28 : decode prog_6_method_28_code 28 = .ok (.aload_n 0, 1) := by decide +kernel
theorem d_Mo_search_29 : decode prog_6_method_28_code 29 = .ok (.getfield 13, 3) := by decide +kernel
theorem d_Mo_search_32 : decode prog_6_method_28_code 32 = .ok (.iload_n 2, 1) := by decide +kernel
theorem d_Mo_search_33 : decode prog_6_method_28_code 33 = .ok (.iaload, 1) := by decide +kernel
theorem d_Mo_search_34 : decode prog_6_method_28_code 34 = .ok (.if_icmp .ne 13, 3) := by decide +kernel
theorem d_Mo_search_37 : decode prog_6_method_28_code 37 = .ok (.aload_n 0, 1) := by decide +kernel
theorem d_Mo_search_38 : decode prog_6_method_28_code 38 = .ok (.iload_n 1, 1) := by decide +kernel
theorem d_Mo_search_39 : decode prog_6_method_28_code 39 = .ok (.iconst (-1), 1) := by decide +kernel
theorem d_Mo_search_40 : decode prog_6_method_28_code 40 = .ok (.iload_n 2, 1) := by decide +kernel
theorem d_Mo_search_41 : decode prog_6_method_28_code 41 = .ok (.invokevirtual 120, 3) := by decide +kernel
theorem d_Mo_search_44 : decode prog_6_method_28_code 44 = .ok (.ifCond .ne 5, 3) := by decide +kernel
theorem d_Mo_search_47 : decode prog_6_method_28_code 47 = .ok (.iconst 0, 1) := by decide +kernel
theorem d_Mo_search_48 : decode prog_6_method_28_code 48 = .ok (.ireturn, 1) := by decide +kernel
theorem d_Mo_search_49 : decode prog_6_method_28_code 49 = .ok (.aload_n 0, 1) := by decide +kernel
theorem d_Mo_search_50 : decode prog_6_method_28_code 50 = .ok (.getfield 98, 3) := by decide +kernel
theorem d_Mo_search_53 : decode prog_6_method_28_code 53 = .ok (.ifCond .ne 14, 3) := by decide +kernel
theorem d_Mo_search_56 : decode prog_6_method_28_code 56 = .ok (.iload_n 3, 1) := by decide +kernel
theorem d_Mo_search_57 : decode prog_6_method_28_code 57 = .ok (.iconst 2, 1) := by decide +kernel
theorem d_Mo_search_58 : decode prog_6_method_28_code 58 = .ok (.if_icmp .eq 7, 3) := by decide +kernel
theorem d_Mo_search_61 : decode prog_6_method_28_code 61 = .ok (.iconst 1, 1) := by decide +kernel
theorem d_Mo_search_62 : decode prog_6_method_28_code 62 = .ok (.goto 4, 3) := by decide +kernel
theorem d_Mo_search_65 : decode prog_6_method_28_code 65 = .ok (.iconst 0, 1) := by decide +kernel
theorem d_Mo_search_66 : decode prog_6_method_28_code 66 = .ok (.ireturn, 1) := by decide +kernel
theorem d_Mo_search_67 : decode prog_6_method_28_code 67 = .ok (.iconst 0, 1) := by decide +kernel
theorem d_Mo_search_68 : decode prog_6_method_28_code 68 = .ok (.istore 4, 2) := by decide +kernel
theorem d_Mo_search_70 : decode prog_6_method_28_code 70 = .ok (.aload_n 0, 1) := by decide +kernel
theorem d_Mo_search_71 : decode prog_6_method_28_code 71 = .ok (.getfield 28, 3) := by decide +kernel
theorem d_Mo_search_74 : decode prog_6_method_28_code 74 = .ok (.iconst 0, 1) := by decide +kernel
theorem d_Mo_search_75 : decode prog_6_method_28_code 75 = .ok (.iconst (-1), 1) := by decide +kernel
theorem d_Mo_search_76 : decode prog_6_method_28_code 76 = .ok (.iastore, 1) := by decide +kernel
theorem d_Mo_search_77 : decode prog_6_method_28_code 77 = .ok (.iload 4, 2) := by decide +kernel
theorem d_Mo_search_79 : decode prog_6_method_28_code 79 = .ok (.ifCond .lt 143, 3) := by decide +kernel
theorem d_Mo_search_82 : decode prog_6_method_28_code 82 = .ok (.aload_n 0, 1) := by decide +kernel
theorem d_Mo_search_83 : decode prog_6_method_28_code 83 = .ok (.getfield 28, 3) := by decide +kernel
theorem d_Mo_search_86 : decode prog_6_method_28_code 86 = .ok (.iload 4, 2) := by decide +kernel
theorem d_Mo_search_88 : decode prog_6_method_28_code 88 = .ok (.dup2, 1) := by decide +kernel
theorem d_Mo_search_89 : decode prog_6_method_28_code 89 = .ok (.iaload, 1) := by decide +kernel
theorem d_Mo_search_90 : decode prog_6_method_28_code 90 = .ok (.iconst 1, 1) := by decide +kernel
theorem d_Mo_search_91 : decode prog_6_method_28_code 91 = .ok (.iadd, 1) := by decide +kernel
theorem d_Mo_search_92 : decode prog_6_method_28_code 92 = .ok (.iastore, 1) := by decide +kernel
theorem d_Mo_search_93 : decode prog_6_method_28_code 93 = .ok (.aload_n 0, 1) := by decide +kernel
theorem d_Mo_search_94 : decode prog_6_method_28_code 94 = .ok (.getfield 28, 3) := by decide +kernel
theorem d_Mo_search_97 : decode prog_6_method_28_code 97 = .ok (.iload 4, 2) := by decide +kernel
theorem d_Mo_search_99 : decode prog_6_method_28_code 99 = .ok (.iaload, 1) := by decide +kernel
theorem d_Mo_search_100 : decode prog_6_method_28_code 100 = .ok (.aload_n 0, 1) := by decide +kernel
theorem d_Mo_search_101 : decode prog_6_method_28_code 101 = .ok (.getfield 113, 3) := by decide +kernel
theorem d_Mo_search_104 : decode prog_6_method_28_code 104 = .ok (.if_icmp .ne 9, 3) := by decide +kernel
theorem d_Mo_search_107 : decode prog_6_method_28_code 107 = .ok (.iinc 4 (-1), 3) := by decide +kernel
theorem d_Mo_search_110 : decode prog_6_method_28_code 110 = .ok (.goto (-33), 3) := by decide +kernel
theorem d_Mo_search_113 : decode prog_6_method_28_code 113 = .ok (.aload_n 0, 1) := by decide +kernel
theorem d_Mo_search_114 : decode prog_6_method_28_code 114 = .ok (.getfield 31, 3) := by decide +kernel
theorem d_Mo_search_117 : decode prog_6_method_28_code 117 = .ok (.iload 4, 2) := by decide +kernel
theorem d_Mo_search_119 : decode prog_6_method_28_code 119 = .ok (.aload_n 0, 1) := by decide +kernel
theorem d_Mo_search_120 : decode prog_6_method_28_code 120 = .ok (.getfield 25, 3) := by decide +kernel
theorem d_Mo_search_123 : decode prog_6_method_28_code 123 = .ok (.aload_n 0, 1) := by decide +kernel
theorem d_Mo_search_124 : decode prog_6_method_28_code 124 = .ok (.getfield 28, 3) := by decide +kernel
theorem d_Mo_search_127 : decode prog_6_method_28_code 127 = .ok (.iload 4, 2) := by decide +kernel
theorem d_Mo_search_129 : decode prog_6_method_28_code 129 = .ok (.iaload, 1) := by decide +kernel
theorem d_Mo_search_130 : decode prog_6_method_28_code 130 = .ok (.iaload, 1) := by decide +kernel
theorem d_Mo_search_131 : decode prog_6_method_28_code 131 = .ok (.iastore, 1) := by decide +kernel
theorem d_Mo_search_132 : decode prog_6_method_28_code 132 = .ok (.iload_n 3, 1) := by decide +kernel
theorem d_Mo_search_133 : decode prog_6_method_28_code 133 = .ok (.ifCond .ne 12, 3) := by decide +kernel
theorem d_Mo_search_136 : decode prog_6_method_28_code 136 = .ok (.aload_n 0, 1) := by decide +kernel
theorem d_Mo_search_137 : decode prog_6_method_28_code 137 = .ok (.iload 4, 2) := by decide +kernel
theorem d_Mo_search_139 : decode prog_6_method_28_code 139 = .ok (.invokevirtual 123, 3) := by decide +kernel
theorem d_Mo_search_142 : decode prog_6_method_28_code 142 = .ok (.ifCond .eq 18, 3) := by decide +kernel
theorem d_Mo_search_145 : decode prog_6_method_28_code 145 = .ok (.aload_n 0, 1) := by decide +kernel
theorem d_Mo_search_146 : decode prog_6_method_28_code 146 = .ok (.iload_n 1, 1) := by decide +kernel
theorem d_Mo_search_147 : decode prog_6_method_28_code 147 = .ok (.iload 4, 2) := by decide +kernel
theorem d_Mo_search_149 : decode prog_6_method_28_code 149 = .ok (.iload_n 2, 1) := by decide +kernel
theorem d_Mo_search_150 : decode prog_6_method_28_code 150 = .ok (.invokevirtual 120, 3) := by decide +kernel
theorem d_Mo_search_153 : decode prog_6_method_28_code 153 = .ok (.ifCond .eq 7, 3) := by decide +kernel
theorem d_Mo_search_156 : decode prog_6_method_28_code 156 = .ok (.iconst 1, 1) := by decide +kernel
theorem d_Mo_search_157 : decode prog_6_method_28_code 157 = .ok (.goto 4, 3) := by decide +kernel
theorem d_Mo_search_160 : decode prog_6_method_28_code 160 = .ok (.iconst 0, 1) := by decide +kernel
theorem d_Mo_search_161 : decode prog_6_method_28_code 161 = .ok (.istore 5, 2) := by decide +kernel
theorem d_Mo_search_163 : decode prog_6_method_28_code 163 = .ok (.iload 5, 2) := by decide +kernel
theorem d_Mo_search_165 : decode prog_6_method_28_code 165 = .ok (.ifCond .eq 28, 3) := by decide +kernel
theorem d_Mo_search_168 : decode prog_6_method_28_code 168 = .ok (.iload 4, 2) := by decide +kernel
theorem d_Mo_search_170 : decode prog_6_method_28_code 170 = .ok (.iconst 1, 1) := by decide +kernel
theorem d_Mo_search_171 : decode prog_6_method_28_code 171 = .ok (.iadd, 1) := by decide +kernel
theorem d_Mo_search_172 : decode prog_6_method_28_code 172 = .ok (.aload_n 0, 1) := by decide +kernel
theorem d_Mo_search_173 : decode prog_6_method_28_code 173 = .ok (.getfield 98, 3) := by decide +kernel
theorem d_Mo_search_176 : decode prog_6_method_28_code 176 = .ok (.if_icmp .ge 17, 3) := by decide +kernel
theorem d_Mo_search_179 : decode prog_6_method_28_code 179 = .ok (.iinc 4 1, 3) := by decide +kernel
theorem d_Mo_search_182 : decode prog_6_method_28_code 182 = .ok (.aload_n 0, 1) := by decide +kernel
theorem d_Mo_search_183 : decode prog_6_method_28_code 183 = .ok (.getfield 28, 3) := by decide +kernel
theorem d_Mo_search_186 : decode prog_6_method_28_code 186 = .ok (.iload 4, 2) := by decide +kernel
theorem d_Mo_search_188 : decode prog_6_method_28_code 188 = .ok (.iconst (-1), 1) := by decide +kernel
theorem d_Mo_search_189 : decode prog_6_method_28_code 189 = .ok (.iastore, 1) := by decide +kernel
theorem d_Mo_search_190 : decode prog_6_method_28_code 190 = .ok (.goto 29, 3) := by decide +kernel
theorem d_Mo_search_193 : decode prog_6_method_28_code 193 = .ok (.iload 5, 2) := by decide +kernel
theorem d_Mo_search_195 : decode prog_6_method_28_code 195 = .ok (.ifCond .eq 24, 3) := by decide +kernel
theorem d_Mo_search_198 : decode prog_6_method_28_code 198 = .ok (.iload_n 3, 1) := by decide +kernel
theorem d_Mo_search_199 : decode prog_6_method_28_code 199 = .ok (.iconst 2, 1) := by decide +kernel
theorem d_Mo_search_200 : decode prog_6_method_28_code 200 = .ok (.if_icmp .ne 17, 3) := by decide +kernel
theorem d_Mo_search_203 : decode prog_6_method_28_code 203 = .ok (.aload_n 0, 1) := by decide +kernel
theorem d_Mo_search_204 : decode prog_6_method_28_code 204 = .ok (.iload_n 1, 1) := by decide +kernel
theorem d_Mo_search_205 : decode prog_6_method_28_code 205 = .ok (.invokevirtual 126, 3) := by decide +kernel
theorem d_Mo_search_208 : decode prog_6_method_28_code 208 = .ok (.aload_n 0, 1) := by decide +kernel
theorem d_Mo_search_209 : decode prog_6_method_28_code 209 = .ok (.getfield 13, 3) := by decide +kernel
theorem d_Mo_search_212 : decode prog_6_method_28_code 212 = .ok (.iload_n 1, 1) := by decide +kernel
theorem d_Mo_search_213 : decode prog_6_method_28_code 213 = .ok (.iaload, 1) := by decide +kernel
theorem d_Mo_search_214 : decode prog_6_method_28_code 214 = .ok (.if_icmp .ge 5, 3) := by decide +kernel
theorem d_Mo_search_217 : decode prog_6_method_28_code 217 = .ok (.iconst 1, 1) := by decide +kernel
theorem d_Mo_search_218 : decode prog_6_method_28_code 218 = .ok (.ireturn, 1) := by decide +kernel
theorem d_Mo_search_219 : decode prog_6_method_28_code 219 = .ok (.goto (-142), 3) := by decide +kernel
theorem d_Mo_search_222 : decode prog_6_method_28_code 222 = .ok (.iconst 0, 1) := by decide +kernel
theorem d_Mo_search_223 : decode prog_6_method_28_code 223 = .ok (.ireturn, 1) := by decide +kernel
theorem zf_Mo_28 : Cond.fieldLink nR4 28 (nT4 10).1 (nT4 10).2.1 (nT4 10).2.2.1 ∈ zTg := zmem 690 (by decide +kernel) (by decide +kernel)
theorem zt_34 : (Cond.selects "MergeGraphsModel" (⟨"MergeGraphsModel", "prepare", "(III)V"⟩ : MethodName) (⟨"MergeGraphsModel", "prepare", "(III)V"⟩ : MethodName)) ∈ zTg := zmem 34 (by decide +kernel) (by decide +kernel)
theorem zt_35 : (Cond.selects "MergeGraphsModel" (⟨"MergeGraphsModel", "areThere", "(III)Z"⟩ : MethodName) (⟨"MergeGraphsModel", "areThere", "(III)Z"⟩ : MethodName)) ∈ zTg := zmem 35 (by decide +kernel) (by decide +kernel)
theorem zt_40 : (Cond.selects "MergeGraphsModel" (⟨"MergeGraphsModel", "isNew", "(I)Z"⟩ : MethodName) (⟨"MergeGraphsModel", "isNew", "(I)Z"⟩ : MethodName)) ∈ zTg := zmem 40 (by decide +kernel) (by decide +kernel)
theorem zt_41 : (Cond.selects "MergeGraphsModel" (⟨"MergeGraphsModel", "imageSize", "(I)I"⟩ : MethodName) (⟨"MergeGraphsModel", "imageSize", "(I)I"⟩ : MethodName)) ∈ zTg := zmem 41 (by decide +kernel) (by decide +kernel)
theorem zt_814 : (Cond.methodLink "MergeGraphsModel" (116 : Nat) (⟨"MergeGraphsModel", "prepare", "(III)V"⟩ : MethodName)) ∈ zTg := zmem 814 (by decide +kernel) (by decide +kernel)
theorem zt_816 : (Cond.instanceMethod (⟨"MergeGraphsModel", "prepare", "(III)V"⟩ : MethodName)) ∈ zTg := zmem 816 (by decide +kernel) (by decide +kernel)
theorem zt_818 : (Cond.methodLink "MergeGraphsModel" (120 : Nat) (⟨"MergeGraphsModel", "areThere", "(III)Z"⟩ : MethodName)) ∈ zTg := zmem 818 (by decide +kernel) (by decide +kernel)
theorem zt_820 : (Cond.instanceMethod (⟨"MergeGraphsModel", "areThere", "(III)Z"⟩ : MethodName)) ∈ zTg := zmem 820 (by decide +kernel) (by decide +kernel)
theorem zt_838 : (Cond.methodLink "MergeGraphsModel" (123 : Nat) (⟨"MergeGraphsModel", "isNew", "(I)Z"⟩ : MethodName)) ∈ zTg := zmem 838 (by decide +kernel) (by decide +kernel)
theorem zt_840 : (Cond.instanceMethod (⟨"MergeGraphsModel", "isNew", "(I)Z"⟩ : MethodName)) ∈ zTg := zmem 840 (by decide +kernel) (by decide +kernel)
theorem zt_842 : (Cond.methodLink "MergeGraphsModel" (126 : Nat) (⟨"MergeGraphsModel", "imageSize", "(I)I"⟩ : MethodName)) ∈ zTg := zmem 842 (by decide +kernel) (by decide +kernel)
theorem zt_844 : (Cond.instanceMethod (⟨"MergeGraphsModel", "imageSize", "(I)I"⟩ : MethodName)) ∈ zTg := zmem 844 (by decide +kernel) (by decide +kernel)
def y_Mo_alike : MethodName := ⟨"MergeGraphsModel", "alike", "(II)Z"⟩
abbrev M_Mo_alike : zM := (nR4, prog_6_method_29_code, 3, (some .boolean), 5)
set_option maxRecDepth 100000 in
theorem zk_Mo_alike : Cond.code y_Mo_alike (M_Mo_alike).2.1 (M_Mo_alike).2.2.1 (M_Mo_alike).2.2.2.1 ∈ zTg := zmem 809 rfl rfl
theorem zy_Mo_alike : (y_Mo_alike).cls ≠ "java/lang/invoke/MethodHandle" ∧ (y_Mo_alike).cls ≠ "java/lang/invoke/VarHandle" ∧ (parseMethodDescriptor (y_Mo_alike).desc).map (fun d => d.parameters.length) = some 2 := by decide +kernel
theorem d_Mo_alike_0 : decode prog_6_method_29_code 0 = .ok (.aload_n 0, 1) := by decide +kernel
theorem d_Mo_alike_1 : decode prog_6_method_29_code 1 = .ok (.iload_n 1, 1) := by decide +kernel
theorem d_Mo_alike_2 : decode prog_6_method_29_code 2 = .ok (.invokestatic 68, 3) := by decide +kernel
theorem d_Mo_alike_5 : decode prog_6_method_29_code 5 = .ok (.ifCond .eq 14, 3) := by decide +kernel
theorem d_Mo_alike_8 : decode prog_6_method_29_code 8 = .ok (.iload_n 2, 1) := by decide +kernel
theorem d_Mo_alike_9 : decode prog_6_method_29_code 9 = .ok (.invokestatic 68, 3) := by decide +kernel
theorem d_Mo_alike_12 : decode prog_6_method_29_code 12 = .ok (.ifCond .eq 7, 3) := by decide +kernel
theorem d_Mo_alike_15 : decode prog_6_method_29_code 15 = .ok (.iconst 1, 1) := by decide +kernel
theorem d_Mo_alike_16 : decode prog_6_method_29_code 16 = .ok (.goto 4, 3) := by decide +kernel
theorem d_Mo_alike_19 : decode prog_6_method_29_code 19 = .ok (.iconst 0, 1) := by decide +kernel
theorem d_Mo_alike_20 : decode prog_6_method_29_code 20 = .ok (.invokevirtual 91, 3) := by decide +kernel
theorem d_Mo_alike_23 : decode prog_6_method_29_code 23 = .ok (.ifCond .eq 17, 3) := by decide +kernel
theorem d_Mo_alike_26 : decode prog_6_method_29_code 26 = .ok (.aload_n 0, 1) := by decide +kernel
theorem d_Mo_alike_27 : decode prog_6_method_29_code 27 = .ok (.iload_n 1, 1) := by decide +kernel
theorem d_Mo_alike_28 : decode prog_6_method_29_code 28 = .ok (.iload_n 2, 1) := by decide +kernel
theorem d_Mo_alike_29 : decode prog_6_method_29_code 29 = .ok (.iconst 0, 1) := by decide +kernel
theorem d_Mo_alike_30 : decode prog_6_method_29_code 30 = .ok (.invokevirtual 129, 3) := by decide +kernel
theorem d_Mo_alike_33 : decode prog_6_method_29_code 33 = .ok (.ifCond .eq 7, 3) := by decide +kernel
theorem d_Mo_alike_36 : decode prog_6_method_29_code 36 = .ok (.iconst 1, 1) := by decide +kernel
theorem d_Mo_alike_37 : decode prog_6_method_29_code 37 = .ok (.goto 4, 3) := by decide +kernel
theorem d_Mo_alike_40 : decode prog_6_method_29_code 40 = .ok (.iconst 0, 1) := by decide +kernel
theorem d_Mo_alike_41 : decode prog_6_method_29_code 41 = .ok (.ireturn, 1) := by decide +kernel
theorem zt_33 : (Cond.selects "MergeGraphsModel" (⟨"MergeGraphsModel", "search", "(III)Z"⟩ : MethodName) (⟨"MergeGraphsModel", "search", "(III)Z"⟩ : MethodName)) ∈ zTg := zmem 33 (by decide +kernel) (by decide +kernel)
theorem zt_810 : (Cond.methodLink "MergeGraphsModel" (129 : Nat) (⟨"MergeGraphsModel", "search", "(III)Z"⟩ : MethodName)) ∈ zTg := zmem 810 (by decide +kernel) (by decide +kernel)
theorem zt_812 : (Cond.instanceMethod (⟨"MergeGraphsModel", "search", "(III)Z"⟩ : MethodName)) ∈ zTg := zmem 812 (by decide +kernel) (by decide +kernel)
def y_Mo_image : MethodName := ⟨"MergeGraphsModel", "image", "(III)I"⟩
abbrev M_Mo_image : zM := (nR4, prog_6_method_30_code, 4, (some .int), 5)
set_option maxRecDepth 100000 in
theorem zk_Mo_image : Cond.code y_Mo_image (M_Mo_image).2.1 (M_Mo_image).2.2.1 (M_Mo_image).2.2.2.1 ∈ zTg := zmem 849 rfl rfl
theorem zy_Mo_image : (y_Mo_image).cls ≠ "java/lang/invoke/MethodHandle" ∧ (y_Mo_image).cls ≠ "java/lang/invoke/VarHandle" ∧ (parseMethodDescriptor (y_Mo_image).desc).map (fun d => d.parameters.length) = some 3 := by decide +kernel
theorem d_Mo_image_0 : decode prog_6_method_30_code 0 = .ok (.aload_n 0, 1) := by decide +kernel
theorem d_Mo_image_1 : decode prog_6_method_30_code 1 = .ok (.iload_n 1, 1) := by decide +kernel
theorem d_Mo_image_2 : decode prog_6_method_30_code 2 = .ok (.invokestatic 68, 3) := by decide +kernel
theorem d_Mo_image_5 : decode prog_6_method_30_code 5 = .ok (.ifCond .eq 14, 3) := by decide +kernel
theorem d_Mo_image_8 : decode prog_6_method_30_code 8 = .ok (.iload_n 2, 1) := by decide +kernel
theorem d_Mo_image_9 : decode prog_6_method_30_code 9 = .ok (.invokestatic 68, 3) := by decide +kernel
theorem d_Mo_image_12 : decode prog_6_method_30_code 12 = .ok (.ifCond .eq 7, 3) := by decide +kernel
theorem d_Mo_image_15 : decode prog_6_method_30_code 15 = .ok (.iconst 1, 1) := by decide +kernel
theorem d_Mo_image_16 : decode prog_6_method_30_code 16 = .ok (.goto 4, 3) := by decide +kernel
theorem d_Mo_image_19 : decode prog_6_method_30_code 19 = .ok (.iconst 0, 1) := by decide +kernel
theorem d_Mo_image_20 : decode prog_6_method_30_code 20 = .ok (.invokevirtual 91, 3) := by decide +kernel
theorem d_Mo_image_23 : decode prog_6_method_30_code 23 = .ok (.ifCond .eq 21, 3) := by decide +kernel
theorem d_Mo_image_26 : decode prog_6_method_30_code 26 = .ok (.aload_n 0, 1) := by decide +kernel
theorem d_Mo_image_27 : decode prog_6_method_30_code 27 = .ok (.iload_n 1, 1) := by decide +kernel
theorem d_Mo_image_28 : decode prog_6_method_30_code 28 = .ok (.iload_n 2, 1) := by decide +kernel
theorem d_Mo_image_29 : decode prog_6_method_30_code 29 = .ok (.iconst 0, 1) := by decide +kernel
theorem d_Mo_image_30 : decode prog_6_method_30_code 30 = .ok (.invokevirtual 129, 3) := by decide +kernel
theorem d_Mo_image_33 : decode prog_6_method_30_code 33 = .ok (.ifCond .eq 11, 3) := by decide +kernel
theorem d_Mo_image_36 : decode prog_6_method_30_code 36 = .ok (.aload_n 0, 1) := by decide +kernel
theorem d_Mo_image_37 : decode prog_6_method_30_code 37 = .ok (.iload_n 3, 1) := by decide +kernel
theorem d_Mo_image_38 : decode prog_6_method_30_code 38 = .ok (.invokevirtual 101, 3) := by decide +kernel
theorem d_Mo_image_41 : decode prog_6_method_30_code 41 = .ok (.ifCond .ge 16, 3) := by decide +kernel
theorem d_Mo_image_44 : decode prog_6_method_30_code 44 = .ok (.aload_n 0, 1) := by decide +kernel
theorem d_Mo_image_45 : decode prog_6_method_30_code 45 = .ok (.getfield 46, 3) := by decide +kernel
theorem d_Mo_image_48 : decode prog_6_method_30_code 48 = .ok (.ifCond .le 7, 3) := by decide +kernel
theorem d_Mo_image_51 : decode prog_6_method_30_code 51 = .ok (.iconst 0, 1) := by decide +kernel
theorem d_Mo_image_52 : decode prog_6_method_30_code 52 = .ok (.goto 4, 3) := by decide +kernel
theorem d_Mo_image_55 : decode prog_6_method_30_code 55 = .ok (.iconst (-1), 1) := by decide +kernel
theorem d_Mo_image_56 : decode prog_6_method_30_code 56 = .ok (.ireturn, 1) := by decide +kernel
theorem d_Mo_image_57 : decode prog_6_method_30_code 57 = .ok (.aload_n 0, 1) := by decide +kernel
theorem d_Mo_image_58 : decode prog_6_method_30_code 58 = .ok (.getfield 31, 3) := by decide +kernel
theorem d_Mo_image_61 : decode prog_6_method_30_code 61 = .ok (.aload_n 0, 1) := by decide +kernel
theorem d_Mo_image_62 : decode prog_6_method_30_code 62 = .ok (.iload_n 3, 1) := by decide +kernel
theorem d_Mo_image_63 : decode prog_6_method_30_code 63 = .ok (.invokevirtual 101, 3) := by decide +kernel
theorem d_Mo_image_66 : decode prog_6_method_30_code 66 = .ok (.iaload, 1) := by decide +kernel
theorem d_Mo_image_67 : decode prog_6_method_30_code 67 = .ok (.ireturn, 1) := by decide +kernel
def y_Mo_follows : MethodName := ⟨"MergeGraphsModel", "follows", "(II)Z"⟩
abbrev M_Mo_follows : zM := (nR4, prog_6_method_31_code, 3, (some .boolean), 5)
set_option maxRecDepth 100000 in
theorem zk_Mo_follows : Cond.code y_Mo_follows (M_Mo_follows).2.1 (M_Mo_follows).2.2.1 (M_Mo_follows).2.2.2.1 ∈ zTg := zmem 853 rfl rfl
theorem zy_Mo_follows : (y_Mo_follows).cls ≠ "java/lang/invoke/MethodHandle" ∧ (y_Mo_follows).cls ≠ "java/lang/invoke/VarHandle" ∧ (parseMethodDescriptor (y_Mo_follows).desc).map (fun d => d.parameters.length) = some 2 := by decide +kernel
theorem d_Mo_follows_0 : decode prog_6_method_31_code 0 = .ok (.aload_n 0, 1) := by decide +kernel
theorem d_Mo_follows_1 : decode prog_6_method_31_code 1 = .ok (.iload_n 1, 1) := by decide +kernel
theorem d_Mo_follows_2 : decode prog_6_method_31_code 2 = .ok (.invokestatic 68, 3) := by decide +kernel
theorem d_Mo_follows_5 : decode prog_6_method_31_code 5 = .ok (.ifCond .eq 14, 3) := by decide +kernel
theorem d_Mo_follows_8 : decode prog_6_method_31_code 8 = .ok (.iload_n 2, 1) := by decide +kernel
theorem d_Mo_follows_9 : decode prog_6_method_31_code 9 = .ok (.invokestatic 68, 3) := by decide +kernel
theorem d_Mo_follows_12 : decode prog_6_method_31_code 12 = .ok (.ifCond .eq 7, 3) := by decide +kernel
theorem d_Mo_follows_15 : decode prog_6_method_31_code 15 = .ok (.iconst 1, 1) := by decide +kernel
theorem d_Mo_follows_16 : decode prog_6_method_31_code 16 = .ok (.goto 4, 3) := by decide +kernel
theorem d_Mo_follows_19 : decode prog_6_method_31_code 19 = .ok (.iconst 0, 1) := by decide +kernel
theorem d_Mo_follows_20 : decode prog_6_method_31_code 20 = .ok (.invokevirtual 91, 3) := by decide +kernel
theorem d_Mo_follows_23 : decode prog_6_method_31_code 23 = .ok (.ifCond .eq 17, 3) := by decide +kernel
theorem d_Mo_follows_26 : decode prog_6_method_31_code 26 = .ok (.aload_n 0, 1) := by decide +kernel
theorem d_Mo_follows_27 : decode prog_6_method_31_code 27 = .ok (.iload_n 2, 1) := by decide +kernel
theorem d_Mo_follows_28 : decode prog_6_method_31_code 28 = .ok (.iload_n 1, 1) := by decide +kernel
theorem d_Mo_follows_29 : decode prog_6_method_31_code 29 = .ok (.iconst 1, 1) := by decide +kernel
theorem d_Mo_follows_30 : decode prog_6_method_31_code 30 = .ok (.invokevirtual 129, 3) := by decide +kernel
theorem d_Mo_follows_33 : decode prog_6_method_31_code 33 = .ok (.ifCond .eq 7, 3) := by decide +kernel
theorem d_Mo_follows_36 : decode prog_6_method_31_code 36 = .ok (.iconst 1, 1) := by decide +kernel
theorem d_Mo_follows_37 : decode prog_6_method_31_code 37 = .ok (.goto 4, 3) := by decide +kernel
theorem d_Mo_follows_40 : decode prog_6_method_31_code 40 = .ok (.iconst 0, 1) := by decide +kernel
theorem d_Mo_follows_41 : decode prog_6_method_31_code 41 = .ok (.ireturn, 1) := by decide +kernel
def y_Mo_putting : MethodName := ⟨"MergeGraphsModel", "putting", "(III)I"⟩
abbrev M_Mo_putting : zM := (nR4, prog_6_method_32_code, 4, (some .int), 5)
set_option maxRecDepth 100000 in
theorem zk_Mo_putting : Cond.code y_Mo_putting (M_Mo_putting).2.1 (M_Mo_putting).2.2.1 (M_Mo_putting).2.2.2.1 ∈ zTg := zmem 857 rfl rfl
theorem zy_Mo_putting : (y_Mo_putting).cls ≠ "java/lang/invoke/MethodHandle" ∧ (y_Mo_putting).cls ≠ "java/lang/invoke/VarHandle" ∧ (parseMethodDescriptor (y_Mo_putting).desc).map (fun d => d.parameters.length) = some 3 := by decide +kernel
theorem d_Mo_putting_0 : decode prog_6_method_32_code 0 = .ok (.aload_n 0, 1) := by decide +kernel
theorem d_Mo_putting_1 : decode prog_6_method_32_code 1 = .ok (.iload_n 1, 1) := by decide +kernel
theorem d_Mo_putting_2 : decode prog_6_method_32_code 2 = .ok (.invokestatic 68, 3) := by decide +kernel
theorem d_Mo_putting_5 : decode prog_6_method_32_code 5 = .ok (.ifCond .eq 14, 3) := by decide +kernel
theorem d_Mo_putting_8 : decode prog_6_method_32_code 8 = .ok (.iload_n 2, 1) := by decide +kernel
theorem d_Mo_putting_9 : decode prog_6_method_32_code 9 = .ok (.invokestatic 68, 3) := by decide +kernel
theorem d_Mo_putting_12 : decode prog_6_method_32_code 12 = .ok (.ifCond .eq 7, 3) := by decide +kernel
theorem d_Mo_putting_15 : decode prog_6_method_32_code 15 = .ok (.iconst 1, 1) := by decide +kernel
theorem d_Mo_putting_16 : decode prog_6_method_32_code 16 = .ok (.goto 4, 3) := by decide +kernel
theorem d_Mo_putting_19 : decode prog_6_method_32_code 19 = .ok (.iconst 0, 1) := by decide +kernel
theorem d_Mo_putting_20 : decode prog_6_method_32_code 20 = .ok (.invokevirtual 91, 3) := by decide +kernel
theorem d_Mo_putting_23 : decode prog_6_method_32_code 23 = .ok (.ifCond .eq 21, 3) := by decide +kernel
theorem d_Mo_putting_26 : decode prog_6_method_32_code 26 = .ok (.aload_n 0, 1) := by decide +kernel
theorem d_Mo_putting_27 : decode prog_6_method_32_code 27 = .ok (.iload_n 2, 1) := by decide +kernel
theorem d_Mo_putting_28 : decode prog_6_method_32_code 28 = .ok (.iload_n 1, 1) := by decide +kernel
theorem d_Mo_putting_29 : decode prog_6_method_32_code 29 = .ok (.iconst 1, 1) := by decide +kernel
theorem d_Mo_putting_30 : decode prog_6_method_32_code 30 = .ok (.invokevirtual 129, 3) := by decide +kernel
theorem d_Mo_putting_33 : decode prog_6_method_32_code 33 = .ok (.ifCond .eq 11, 3) := by decide +kernel
theorem d_Mo_putting_36 : decode prog_6_method_32_code 36 = .ok (.aload_n 0, 1) := by decide +kernel
theorem d_Mo_putting_37 : decode prog_6_method_32_code 37 = .ok (.iload_n 3, 1) := by decide +kernel
theorem d_Mo_putting_38 : decode prog_6_method_32_code 38 = .ok (.invokevirtual 101, 3) := by decide +kernel
theorem d_Mo_putting_41 : decode prog_6_method_32_code 41 = .ok (.ifCond .ge 16, 3) := by decide +kernel
theorem d_Mo_putting_44 : decode prog_6_method_32_code 44 = .ok (.aload_n 0, 1) := by decide +kernel
theorem d_Mo_putting_45 : decode prog_6_method_32_code 45 = .ok (.getfield 46, 3) := by decide +kernel
theorem d_Mo_putting_48 : decode prog_6_method_32_code 48 = .ok (.ifCond .le 7, 3) := by decide +kernel
theorem d_Mo_putting_51 : decode prog_6_method_32_code 51 = .ok (.iconst 0, 1) := by decide +kernel
theorem d_Mo_putting_52 : decode prog_6_method_32_code 52 = .ok (.goto 4, 3) := by decide +kernel
theorem d_Mo_putting_55 : decode prog_6_method_32_code 55 = .ok (.iconst (-1), 1) := by decide +kernel
theorem d_Mo_putting_56 : decode prog_6_method_32_code 56 = .ok (.ireturn, 1) := by decide +kernel
theorem d_Mo_putting_57 : decode prog_6_method_32_code 57 = .ok (.aload_n 0, 1) := by decide +kernel
theorem d_Mo_putting_58 : decode prog_6_method_32_code 58 = .ok (.getfield 31, 3) := by decide +kernel
theorem d_Mo_putting_61 : decode prog_6_method_32_code 61 = .ok (.aload_n 0, 1) := by decide +kernel
theorem d_Mo_putting_62 : decode prog_6_method_32_code 62 = .ok (.iload_n 3, 1) := by decide +kernel
theorem d_Mo_putting_63 : decode prog_6_method_32_code 63 = .ok (.invokevirtual 101, 3) := by decide +kernel
theorem d_Mo_putting_66 : decode prog_6_method_32_code 66 = .ok (.iaload, 1) := by decide +kernel
theorem d_Mo_putting_67 : decode prog_6_method_32_code 67 = .ok (.ireturn, 1) := by decide +kernel
def y_Mo_lean : MethodName := ⟨"MergeGraphsModel", "lean", "(I)Z"⟩
abbrev M_Mo_lean : zM := (nR4, prog_6_method_33_code, 2, (some .boolean), 5)
set_option maxRecDepth 100000 in
theorem zk_Mo_lean : Cond.code y_Mo_lean (M_Mo_lean).2.1 (M_Mo_lean).2.2.1 (M_Mo_lean).2.2.2.1 ∈ zTg := zmem 861 rfl rfl
theorem zy_Mo_lean : (y_Mo_lean).cls ≠ "java/lang/invoke/MethodHandle" ∧ (y_Mo_lean).cls ≠ "java/lang/invoke/VarHandle" ∧ (parseMethodDescriptor (y_Mo_lean).desc).map (fun d => d.parameters.length) = some 1 := by decide +kernel
theorem d_Mo_lean_0 : decode prog_6_method_33_code 0 = .ok (.aload_n 0, 1) := by decide +kernel
theorem d_Mo_lean_1 : decode prog_6_method_33_code 1 = .ok (.iload_n 1, 1) := by decide +kernel
theorem d_Mo_lean_2 : decode prog_6_method_33_code 2 = .ok (.invokestatic 68, 3) := by decide +kernel
theorem d_Mo_lean_5 : decode prog_6_method_33_code 5 = .ok (.invokevirtual 91, 3) := by decide +kernel
theorem d_Mo_lean_8 : decode prog_6_method_33_code 8 = .ok (.ifCond .eq 17, 3) := by decide +kernel
theorem d_Mo_lean_11 : decode prog_6_method_33_code 11 = .ok (.aload_n 0, 1) := by decide +kernel
theorem d_Mo_lean_12 : decode prog_6_method_33_code 12 = .ok (.iload_n 1, 1) := by decide +kernel
theorem d_Mo_lean_13 : decode prog_6_method_33_code 13 = .ok (.iload_n 1, 1) := by decide +kernel
theorem d_Mo_lean_14 : decode prog_6_method_33_code 14 = .ok (.iconst 2, 1) := by decide +kernel
theorem d_Mo_lean_15 : decode prog_6_method_33_code 15 = .ok (.invokevirtual 129, 3) := by decide +kernel
theorem d_Mo_lean_18 : decode prog_6_method_33_code 18 = .ok (.ifCond .ne 7, 3) := by decide +kernel
theorem d_Mo_lean_21 : decode prog_6_method_33_code 21 = .ok (.iconst 1, 1) := by decide +kernel
theorem d_Mo_lean_22 : decode prog_6_method_33_code 22 = .ok (.goto 4, 3) := by decide +kernel
theorem d_Mo_lean_25 : decode prog_6_method_33_code 25 = .ok (.iconst 0, 1) := by decide +kernel
theorem d_Mo_lean_26 : decode prog_6_method_33_code 26 = .ok (.ireturn, 1) := by decide +kernel
def y_Mo_core : MethodName := ⟨"MergeGraphsModel", "core", "(I)I"⟩
abbrev M_Mo_core : zM := (nR4, prog_6_method_34_code, 5, (some .int), 5)
set_option maxRecDepth 100000 in
theorem zk_Mo_core : Cond.code y_Mo_core (M_Mo_core).2.1 (M_Mo_core).2.2.1 (M_Mo_core).2.2.2.1 ∈ zTg := zmem 865 rfl rfl
theorem zy_Mo_core : (y_Mo_core).cls ≠ "java/lang/invoke/MethodHandle" ∧ (y_Mo_core).cls ≠ "java/lang/invoke/VarHandle" ∧ (parseMethodDescriptor (y_Mo_core).desc).map (fun d => d.parameters.length) = some 1 := by decide +kernel
theorem d_Mo_core_0 : decode prog_6_method_34_code 0 = .ok (.iconst 0, 1) := by decide +kernel
theorem d_Mo_core_1 : decode prog_6_method_34_code 1 = .ok (.istore_n 2, 1) := by decide +kernel
theorem d_Mo_core_2 : decode prog_6_method_34_code 2 = .ok (.aload_n 0, 1) := by decide +kernel
theorem d_Mo_core_3 : decode prog_6_method_34_code 3 = .ok (.iload_n 1, 1) := by decide +kernel
theorem d_Mo_core_4 : decode prog_6_method_34_code 4 = .ok (.invokestatic 68, 3) := by decide +kernel
theorem d_Mo_core_7 : decode prog_6_method_34_code 7 = .ok (.invokevirtual 91, 3) := by decide +kernel
theorem d_Mo_core_10 : decode prog_6_method_34_code 10 = .ok (.istore_n 3, 1) := by decide +kernel
theorem d_Mo_core_11 : decode prog_6_method_34_code 11 = .ok (.iload_n 3, 1) := by decide +kernel
theorem d_Mo_core_12 : decode prog_6_method_34_code 12 = .ok (.ifCond .eq 33, 3) := by decide +kernel
theorem d_Mo_core_15 : decode prog_6_method_34_code 15 = .ok (.aload_n 0, 1) := by decide +kernel
theorem d_Mo_core_16 : decode prog_6_method_34_code 16 = .ok (.iload_n 1, 1) := by decide +kernel
theorem d_Mo_core_17 : decode prog_6_method_34_code 17 = .ok (.iload_n 1, 1) := by decide +kernel
theorem d_Mo_core_18 : decode prog_6_method_34_code 18 = .ok (.iconst 2, 1) := by decide +kernel
theorem d_Mo_core_19 : decode prog_6_method_34_code 19 = .ok (.invokevirtual 129, 3) := by decide +kernel
theorem d_Mo_core_22 : decode prog_6_method_34_code 22 = .ok (.istore_n 3, 1) := by decide +kernel
theorem d_Mo_core_23 : decode prog_6_method_34_code 23 = .ok (.iload_n 3, 1) := by decide +kernel
theorem d_Mo_core_24 : decode prog_6_method_34_code 24 = .ok (.ifCond .eq (-13), 3) := by decide +kernel
theorem d_Mo_core_27 : decode prog_6_method_34_code 27 = .ok (.iinc 2 1, 3) := by decide +kernel
theorem d_Mo_core_30 : decode prog_6_method_34_code 30 = .ok (.aload_n 0, 1) := by decide +kernel
theorem d_Mo_core_31 : decode prog_6_method_34_code 31 = .ok (.iload_n 1, 1) := by decide +kernel
theorem d_Mo_core_32 : decode prog_6_method_34_code 32 = .ok (.invokevirtual 126, 3) := by decide +kernel
theorem d_Mo_core_35 : decode prog_6_method_34_code 35 = .ok (.istore 4, 2) := by decide +kernel
theorem d_Mo_core_37 : decode prog_6_method_34_code 37 = .ok (.aload_n 0, 1) := by decide +kernel
theorem d_Mo_core_38 : decode prog_6_method_34_code 38 = .ok (.iload_n 1, 1) := by decide +kernel
theorem d_Mo_core_39 : decode prog_6_method_34_code 39 = .ok (.invokevirtual 88, 3) := by decide +kernel
theorem d_Mo_core_42 : decode prog_6_method_34_code 42 = .ok (.goto (-31), 3) := by decide +kernel
theorem d_Mo_core_45 : decode prog_6_method_34_code 45 = .ok (.iload_n 2, 1) := by decide +kernel
theorem d_Mo_core_46 : decode prog_6_method_34_code 46 = .ok (.ireturn, 1) := by decide +kernel
def y_Mo_isBefore : MethodName := ⟨"MergeGraphsModel", "isBefore", "()Z"⟩
abbrev M_Mo_isBefore : zM := (nR4, prog_6_method_35_code, 2, (some .boolean), 0)
set_option maxRecDepth 100000 in
theorem zk_Mo_isBefore : Cond.code y_Mo_isBefore (M_Mo_isBefore).2.1 (M_Mo_isBefore).2.2.1 (M_Mo_isBefore).2.2.2.1 ∈ zTg := zmem 877 rfl rfl
theorem zy_Mo_isBefore : (y_Mo_isBefore).cls ≠ "java/lang/invoke/MethodHandle" ∧ (y_Mo_isBefore).cls ≠ "java/lang/invoke/VarHandle" ∧ (parseMethodDescriptor (y_Mo_isBefore).desc).map (fun d => d.parameters.length) = some 0 := by decide +kernel
theorem d_Mo_isBefore_0 : decode prog_6_method_35_code 0 = .ok (.iconst 0, 1) := by decide +kernel
theorem d_Mo_isBefore_1 : decode prog_6_method_35_code 1 = .ok (.istore_n 1, 1) := by decide +kernel
theorem d_Mo_isBefore_2 : decode prog_6_method_35_code 2 = .ok (.iload_n 1, 1) := by decide +kernel
theorem d_Mo_isBefore_3 : decode prog_6_method_35_code 3 = .ok (.aload_n 0, 1) := by decide +kernel
theorem d_Mo_isBefore_4 : decode prog_6_method_35_code 4 = .ok (.getfield 54, 3) := by decide +kernel
theorem d_Mo_isBefore_7 : decode prog_6_method_35_code 7 = .ok (.if_icmp .ge 45, 3) := by decide +kernel
theorem d_Mo_isBefore_10 : decode prog_6_method_35_code 10 = .ok (.aload_n 0, 1) := by decide +kernel
theorem d_Mo_isBefore_11 : decode prog_6_method_35_code 11 = .ok (.getfield 16, 3) := by decide +kernel
theorem d_Mo_isBefore_14 : decode prog_6_method_35_code 14 = .ok (.iload_n 1, 1) := by decide +kernel
theorem d_Mo_isBefore_15 : decode prog_6_method_35_code 15 = .ok (.iaload, 1) := by decide +kernel
theorem d_Mo_isBefore_16 : decode prog_6_method_35_code 16 = .ok (.aload_n 0, 1) := by decide +kernel
theorem d_Mo_isBefore_17 : decode prog_6_method_35_code 17 = .ok (.getfield 19, 3) := by decide +kernel
theorem d_Mo_isBefore_20 : decode prog_6_method_35_code 20 = .ok (.iload_n 1, 1) := by decide +kernel
theorem d_Mo_isBefore_21 : decode prog_6_method_35_code 21 = .ok (.iaload, 1) := by decide +kernel
theorem d_Mo_isBefore_22 : decode prog_6_method_35_code 22 = .ok (.if_icmp .eq 24, 3) := by decide +kernel
theorem d_Mo_isBefore_25 : decode prog_6_method_35_code 25 = .ok (.aload_n 0, 1) := by decide +kernel
theorem d_Mo_isBefore_26 : decode prog_6_method_35_code 26 = .ok (.getfield 16, 3) := by decide +kernel
theorem d_Mo_isBefore_29 : decode prog_6_method_35_code 29 = .ok (.iload_n 1, 1) := by decide +kernel
theorem d_Mo_isBefore_30 : decode prog_6_method_35_code 30 = .ok (.iaload, 1) := by decide +kernel
theorem d_Mo_isBefore_31 : decode prog_6_method_35_code 31 = .ok (.aload_n 0, 1) := by decide +kernel
theorem d_Mo_isBefore_32 : decode prog_6_method_35_code 32 = .ok (.getfield 19, 3) := by decide +kernel
theorem d_Mo_isBefore_35 : decode prog_6_method_35_code 35 = .ok (.iload_n 1, 1) := by decide +kernel
theorem d_Mo_isBefore_36 : decode prog_6_method_35_code 36 = .ok (.iaload, 1) := by decide +kernel
theorem d_Mo_isBefore_37 : decode prog_6_method_35_code 37 = .ok (.if_icmp .ge 7, 3) := by decide +kernel
theorem d_Mo_isBefore_40 : decode prog_6_method_35_code 40 = .ok (.iconst 1, 1) := by decide +kernel
theorem d_Mo_isBefore_41 : decode prog_6_method_35_code 41 = .ok (.goto 4, 3) := by decide +kernel
theorem d_Mo_isBefore_44 : decode prog_6_method_35_code 44 = .ok (.iconst 0, 1) := by decide +kernel
theorem d_Mo_isBefore_45 : decode prog_6_method_35_code 45 = .ok (.ireturn, 1) := by decide +kernel
theorem d_Mo_isBefore_46 : decode prog_6_method_35_code 46 = .ok (.iinc 1 1, 3) := by decide +kernel
theorem d_Mo_isBefore_49 : decode prog_6_method_35_code 49 = .ok (.goto (-47), 3) := by decide +kernel
theorem d_Mo_isBefore_52 : decode prog_6_method_35_code 52 = .ok (.iconst 0, 1) := by decide +kernel
theorem d_Mo_isBefore_53 : decode prog_6_method_35_code 53 = .ok (.ireturn, 1) := by decide +kernel
theorem zf_Mo_19 : Cond.fieldLink nR4 19 (nT4 5).1 (nT4 5).2.1 (nT4 5).2.2.1 ∈ zTg := zmem 685 (by decide +kernel) (by decide +kernel)
def y_Mo_findForm : MethodName := ⟨"MergeGraphsModel", "findForm", "(I)V"⟩
abbrev M_Mo_findForm : zM := (nR4, prog_6_method_36_code, 9, none, 4)
set_option maxRecDepth 100000 in
theorem zk_Mo_findForm : Cond.code y_Mo_findForm (M_Mo_findForm).2.1 (M_Mo_findForm).2.2.1 (M_Mo_findForm).2.2.2.1 ∈ zTg := zmem 873 rfl rfl
theorem zy_Mo_findForm : (y_Mo_findForm).cls ≠ "java/lang/invoke/MethodHandle" ∧ (y_Mo_findForm).cls ≠ "java/lang/invoke/VarHandle" ∧ (parseMethodDescriptor (y_Mo_findForm).desc).map (fun d => d.parameters.length) = some 1 := by decide +kernel
theorem d_Mo_findForm_0 : decode prog_6_method_36_code 0 = .ok (.aload_n 0, 1) := by decide +kernel
theorem d_Mo_findForm_1 : decode prog_6_method_36_code 1 = .ok (.iload_n 1, 1) := by decide +kernel
theorem d_Mo_findForm_2 : decode prog_6_method_36_code 2 = .ok (.iload_n 1, 1) := by decide +kernel
theorem d_Mo_findForm_3 : decode prog_6_method_36_code 3 = .ok (.iconst 0, 1) := by decide +kernel
theorem d_Mo_findForm_4 : decode prog_6_method_36_code 4 = .ok (.invokevirtual 116, 3) := by decide +kernel
theorem d_Mo_findForm_7 : decode prog_6_method_36_code 7 = .ok (.iconst 1, 1) := by decide +kernel
theorem d_Mo_findForm_8 : decode prog_6_method_36_code 8 = .ok (.istore_n 2, 1) := by decide +kernel
theorem d_Mo_findForm_9 : decode prog_6_method_36_code 9 = .ok (.iconst 0, 1) := by decide +kernel
theorem d_Mo_findForm_10 : decode prog_6_method_36_code 10 = .ok (.istore_n 3, 1) := by decide +kernel
theorem d_Mo_findForm_11 : decode prog_6_method_36_code 11 = .ok (.iload_n 3, 1) := by decide +kernel
theorem d_Mo_findForm_12 : decode prog_6_method_36_code 12 = .ok (.aload_n 0, 1) := by decide +kernel
theorem d_Mo_findForm_13 : decode prog_6_method_36_code 13 = .ok (.getfield 98, 3) := by decide +kernel
theorem d_Mo_findForm_16 : decode prog_6_method_36_code 16 = .ok (.if_icmp .ge 16, 3) := by decide +kernel
theorem d_Mo_findForm_19 : decode prog_6_method_36_code 19 = .ok (.iload_n 2, 1) := by decide +kernel
theorem d_Mo_findForm_20 : decode prog_6_method_36_code 20 = .ok (.aload_n 0, 1) := by decide +kernel
theorem d_Mo_findForm_21 : decode prog_6_method_36_code 21 = .ok (.getfield 98, 3) := by decide +kernel
theorem d_Mo_findForm_24 : decode prog_6_method_36_code 24 = .ok (.imul, 1) := by decide +kernel
theorem d_Mo_findForm_25 : decode prog_6_method_36_code 25 = .ok (.istore_n 2, 1) := by decide +kernel
theorem d_Mo_findForm_26 : decode prog_6_method_36_code 26 = .ok (.iinc 3 1, 3) := by decide +kernel
theorem d_Mo_findForm_29 : decode prog_6_method_36_code 29 = .ok (.goto (-18), 3) := by decide +kernel
theorem d_Mo_findForm_32 : decode prog_6_method_36_code 32 = .ok (.iconst 0, 1) := by decide +kernel
theorem d_Mo_findForm_33 : decode prog_6_method_36_code 33 = .ok (.istore_n 3, 1) := by decide +kernel
theorem d_Mo_findForm_34 : decode prog_6_method_36_code 34 = .ok (.iconst 0, 1) := by decide +kernel
theorem d_Mo_findForm_35 : decode prog_6_method_36_code 35 = .ok (.istore 4, 2) := by decide +kernel
theorem d_Mo_findForm_37 : decode prog_6_method_36_code 37 = .ok (.iload 4, 2) := by decide +kernel
theorem d_Mo_findForm_39 : decode prog_6_method_36_code 39 = .ok (.iload_n 2, 1) := by decide +kernel
theorem d_Mo_findForm_40 : decode prog_6_method_36_code 40 = .ok (.if_icmp .ge 139, 3) := by decide +kernel
theorem d_Mo_findForm_43 : decode prog_6_method_36_code 43 = .ok (.iload 4, 2) := by decide +kernel
theorem d_Mo_findForm_45 : decode prog_6_method_36_code 45 = .ok (.istore 5, 2) := by decide +kernel
theorem d_Mo_findForm_47 : decode prog_6_method_36_code 47 = .ok (.iconst 1, 1) := by decide +kernel
theorem d_Mo_findForm_48 : decode prog_6_method_36_code 48 = .ok (.istore 6, 2) := by decide +kernel
theorem d_Mo_findForm_50 : decode prog_6_method_36_code 50 = .ok (.iconst 0, 1) := by decide +kernel
theorem d_Mo_findForm_51 : decode prog_6_method_36_code 51 = .ok (.istore 7, 2) := by decide +kernel
theorem d_Mo_findForm_53 : decode prog_6_method_36_code 53 = .ok (.iload 7, 2) := by decide +kernel
theorem d_Mo_findForm_55 : decode prog_6_method_36_code 55 = .ok (.aload_n 0, 1) := by decide +kernel
theorem d_Mo_findForm_56 : decode prog_6_method_36_code 56 = .ok (.getfield 98, 3) := by decide +kernel
theorem d_Mo_findForm_59 : decode prog_6_method_36_code 59 = .ok (.if_icmp .ge 56, 3) := by decide +kernel
theorem d_Mo_findForm_62 : decode prog_6_method_36_code 62 = .ok (.aload_n 0, 1) := by decide +kernel
theorem d_Mo_findForm_63 : decode prog_6_method_36_code 63 = .ok (.getfield 31, 3) := by decide +kernel
theorem d_Mo_findForm_66 : decode prog_6_method_36_code 66 = .ok (.iload 7, 2) := by decide +kernel
theorem d_Mo_findForm_68 : decode prog_6_method_36_code 68 = .ok (.bipush 40, 2) := by decide +kernel
theorem d_Mo_findForm_70 : decode prog_6_method_36_code 70 = .ok (.iload 5, 2) := by decide +kernel
theorem d_Mo_findForm_72 : decode prog_6_method_36_code 72 = .ok (.aload_n 0, 1) := by decide +kernel
theorem d_Mo_findForm_73 : decode prog_6_method_36_code 73 = .ok (.getfield 98, 3) := by decide +kernel
theorem d_Mo_findForm_76 : decode prog_6_method_36_code 76 = .ok (.irem, 1) := by decide +kernel
theorem d_Mo_findForm_77 : decode prog_6_method_36_code 77 = .ok (.iadd, 1) := by decide +kernel
theorem d_Mo_findForm_78 : decode prog_6_method_36_code 78 = .ok (.iastore, 1) := by decide +kernel
theorem d_Mo_findForm_79 : decode prog_6_method_36_code 79 = .ok (.iload 5, 2) := by decide +kernel
theorem d_Mo_findForm_81 : decode prog_6_method_36_code 81 = .ok (.aload_n 0, 1) := by decide +kernel
theorem d_Mo_findForm_82 : decode prog_6_method_36_code 82 = .ok (.getfield 98, 3) := by decide +kernel
theorem d_Mo_findForm_85 : decode prog_6_method_36_code 85 = .ok (.idiv, 1) := by decide +kernel
theorem d_Mo_findForm_86 : decode prog_6_method_36_code 86 = .ok (.istore 5, 2) := by decide +kernel
theorem d_Mo_findForm_88 : decode prog_6_method_36_code 88 = .ok (.iload 6, 2) := by decide +kernel
theorem d_Mo_findForm_90 : decode prog_6_method_36_code 90 = .ok (.ifCond .eq 16, 3) := by decide +kernel
theorem d_Mo_findForm_93 : decode prog_6_method_36_code 93 = .ok (.aload_n 0, 1) := by decide +kernel
theorem d_Mo_findForm_94 : decode prog_6_method_36_code 94 = .ok (.iload 7, 2) := by decide +kernel
theorem d_Mo_findForm_96 : decode prog_6_method_36_code 96 = .ok (.invokevirtual 123, 3) := by decide +kernel
theorem d_Mo_findForm_99 : decode prog_6_method_36_code 99 = .ok (.ifCond .eq 7, 3) := by decide +kernel
theorem d_Mo_findForm_102 : decode prog_6_method_36_code 102 = .ok (.iconst 1, 1) := by decide +kernel
theorem d_Mo_findForm_103 : decode prog_6_method_36_code 103 = .ok (.goto 4, 3) := by decide +kernel
theorem d_Mo_findForm_106 : decode prog_6_method_36_code 106 = .ok (.iconst 0, 1) := by decide +kernel
theorem d_Mo_findForm_107 : decode prog_6_method_36_code 107 = .ok (.istore 6, 2) := by decide +kernel
theorem d_Mo_findForm_109 : decode prog_6_method_36_code 109 = .ok (.iinc 7 1, 3) := by decide +kernel
theorem d_Mo_findForm_112 : decode prog_6_method_36_code 112 = .ok (.goto (-59), 3) := by decide +kernel
theorem d_Mo_findForm_115 : decode prog_6_method_36_code 115 = .ok (.iload 6, 2) := by decide +kernel
theorem d_Mo_findForm_117 : decode prog_6_method_36_code 117 = .ok (.ifCond .ne 6, 3) := by decide +kernel
theorem d_Mo_findForm_120 : decode prog_6_method_36_code 120 = .ok (.goto 53, 3) := by decide +kernel
theorem d_Mo_findForm_123 : decode prog_6_method_36_code 123 = .ok (.aload_n 0, 1) := by decide +kernel
theorem d_Mo_findForm_124 : decode prog_6_method_36_code 124 = .ok (.iload_n 1, 1) := by decide +kernel
theorem d_Mo_findForm_125 : decode prog_6_method_36_code 125 = .ok (.invokevirtual 126, 3) := by decide +kernel
theorem d_Mo_findForm_128 : decode prog_6_method_36_code 128 = .ok (.istore 7, 2) := by decide +kernel
theorem d_Mo_findForm_130 : decode prog_6_method_36_code 130 = .ok (.iload_n 3, 1) := by decide +kernel
theorem d_Mo_findForm_131 : decode prog_6_method_36_code 131 = .ok (.ifCond .eq 10, 3) := by decide +kernel
theorem d_Mo_findForm_134 : decode prog_6_method_36_code 134 = .ok (.aload_n 0, 1) := by decide +kernel
theorem d_Mo_findForm_135 : decode prog_6_method_36_code 135 = .ok (.invokevirtual 132, 3) := by decide +kernel
theorem d_Mo_findForm_138 : decode prog_6_method_36_code 138 = .ok (.ifCond .eq 35, 3) := by decide +kernel
theorem d_Mo_findForm_141 : decode prog_6_method_36_code 141 = .ok (.iconst 1, 1) := by decide +kernel
theorem d_Mo_findForm_142 : decode prog_6_method_36_code 142 = .ok (.istore_n 3, 1) := by decide +kernel
theorem d_Mo_findForm_143 : decode prog_6_method_36_code 143 = .ok (.iconst 0, 1) := by decide +kernel
theorem d_Mo_findForm_144 : decode prog_6_method_36_code 144 = .ok (.istore 8, 2) := by decide +kernel
theorem d_Mo_findForm_146 : decode prog_6_method_36_code 146 = .ok (.iload 8, 2) := by decide +kernel
theorem d_Mo_findForm_148 : decode prog_6_method_36_code 148 = .ok (.iload 7, 2) := by decide +kernel
theorem d_Mo_findForm_150 : decode prog_6_method_36_code 150 = .ok (.if_icmp .ge 23, 3) := by decide +kernel
theorem d_Mo_findForm_153 : decode prog_6_method_36_code 153 = .ok (.aload_n 0, 1) := by decide +kernel
theorem d_Mo_findForm_154 : decode prog_6_method_36_code 154 = .ok (.getfield 19, 3) := by decide +kernel
theorem d_Mo_findForm_157 : decode prog_6_method_36_code 157 = .ok (.iload 8, 2) := by decide +kernel
theorem d_Mo_findForm_159 : decode prog_6_method_36_code 159 = .ok (.aload_n 0, 1) := by decide +kernel
theorem d_Mo_findForm_160 : decode prog_6_method_36_code 160 = .ok (.getfield 16, 3) := by decide +kernel
theorem d_Mo_findForm_163 : decode prog_6_method_36_code 163 = .ok (.iload 8, 2) := by decide +kernel
theorem d_Mo_findForm_165 : decode prog_6_method_36_code 165 = .ok (.iaload, 1) := by decide +kernel
theorem d_Mo_findForm_166 : decode prog_6_method_36_code 166 = .ok (.iastore, 1) := by decide +kernel
theorem d_Mo_findForm_167 : decode prog_6_method_36_code 167 = .ok (.iinc 8 1, 3) := by decide +kernel
theorem d_Mo_findForm_170 : decode prog_6_method_36_code 170 = .ok (.goto (-24), 3) := by decide +kernel
theorem d_Mo_findForm_173 : decode prog_6_method_36_code 173 = .ok (.iinc 4 1, 3) := by decide +kernel
theorem d_Mo_findForm_176 : decode prog_6_method_36_code 176 = .ok (.goto (-139), 3) := by decide +kernel
theorem d_Mo_findForm_179 : decode prog_6_method_36_code 179 = .ok (.return_, 1) := by decide +kernel
theorem zt_43 : (Cond.selects "MergeGraphsModel" (⟨"MergeGraphsModel", "isBefore", "()Z"⟩ : MethodName) (⟨"MergeGraphsModel", "isBefore", "()Z"⟩ : MethodName)) ∈ zTg := zmem 43 (by decide +kernel) (by decide +kernel)
theorem zt_874 : (Cond.methodLink "MergeGraphsModel" (132 : Nat) (⟨"MergeGraphsModel", "isBefore", "()Z"⟩ : MethodName)) ∈ zTg := zmem 874 (by decide +kernel) (by decide +kernel)
theorem zt_876 : (Cond.instanceMethod (⟨"MergeGraphsModel", "isBefore", "()Z"⟩ : MethodName)) ∈ zTg := zmem 876 (by decide +kernel) (by decide +kernel)
def y_Mo_form : MethodName := ⟨"MergeGraphsModel", "form", "(II)I"⟩
abbrev M_Mo_form : zM := (nR4, prog_6_method_37_code, 3, (some .int), 5)
set_option maxRecDepth 100000 in
theorem zk_Mo_form : Cond.code y_Mo_form (M_Mo_form).2.1 (M_Mo_form).2.2.1 (M_Mo_form).2.2.2.1 ∈ zTg := zmem 869 rfl rfl
theorem zy_Mo_form : (y_Mo_form).cls ≠ "java/lang/invoke/MethodHandle" ∧ (y_Mo_form).cls ≠ "java/lang/invoke/VarHandle" ∧ (parseMethodDescriptor (y_Mo_form).desc).map (fun d => d.parameters.length) = some 2 := by decide +kernel
theorem d_Mo_form_0 : decode prog_6_method_37_code 0 = .ok (.aload_n 0, 1) := by decide +kernel
theorem d_Mo_form_1 : decode prog_6_method_37_code 1 = .ok (.iload_n 1, 1) := by decide +kernel
theorem d_Mo_form_2 : decode prog_6_method_37_code 2 = .ok (.invokestatic 68, 3) := by decide +kernel
theorem d_Mo_form_5 : decode prog_6_method_37_code 5 = .ok (.ifCond .eq 21, 3) := by decide +kernel
theorem d_Mo_form_8 : decode prog_6_method_37_code 8 = .ok (.iload_n 2, 1) := by decide +kernel
theorem d_Mo_form_9 : decode prog_6_method_37_code 9 = .ok (.ifCond .lt 17, 3) := by decide +kernel
theorem d_Mo_form_12 : decode prog_6_method_37_code 12 = .ok (.iload_n 2, 1) := by decide +kernel
theorem d_Mo_form_13 : decode prog_6_method_37_code 13 = .ok (.aload_n 0, 1) := by decide +kernel
theorem d_Mo_form_14 : decode prog_6_method_37_code 14 = .ok (.getfield 13, 3) := by decide +kernel
theorem d_Mo_form_17 : decode prog_6_method_37_code 17 = .ok (.iload_n 1, 1) := by decide +kernel
theorem d_Mo_form_18 : decode prog_6_method_37_code 18 = .ok (.iaload, 1) := by decide +kernel
theorem d_Mo_form_19 : decode prog_6_method_37_code 19 = .ok (.if_icmp .ge 7, 3) := by decide +kernel
theorem d_Mo_form_22 : decode prog_6_method_37_code 22 = .ok (.iconst 1, 1) := by decide +kernel
theorem d_Mo_form_23 : decode prog_6_method_37_code 23 = .ok (.goto 4, 3) := by decide +kernel
theorem d_Mo_form_26 : decode prog_6_method_37_code 26 = .ok (.iconst 0, 1) := by decide +kernel
theorem d_Mo_form_27 : decode prog_6_method_37_code 27 = .ok (.invokevirtual 91, 3) := by decide +kernel
theorem d_Mo_form_30 : decode prog_6_method_37_code 30 = .ok (.ifCond .ne 5, 3) := by decide +kernel
theorem d_Mo_form_33 : decode prog_6_method_37_code 33 = .ok (.iconst 0, 1) := by decide +kernel
theorem d_Mo_form_34 : decode prog_6_method_37_code 34 = .ok (.ireturn, 1) := by decide +kernel
theorem d_Mo_form_35 : decode prog_6_method_37_code 35 = .ok (.aload_n 0, 1) := by decide +kernel
theorem d_Mo_form_36 : decode prog_6_method_37_code 36 = .ok (.iload_n 1, 1) := by decide +kernel
theorem d_Mo_form_37 : decode prog_6_method_37_code 37 = .ok (.invokevirtual 136, 3) := by decide +kernel
theorem d_Mo_form_40 : decode prog_6_method_37_code 40 = .ok (.aload_n 0, 1) := by decide +kernel
theorem d_Mo_form_41 : decode prog_6_method_37_code 41 = .ok (.getfield 19, 3) := by decide +kernel
theorem d_Mo_form_44 : decode prog_6_method_37_code 44 = .ok (.iload_n 2, 1) := by decide +kernel
theorem d_Mo_form_45 : decode prog_6_method_37_code 45 = .ok (.iaload, 1) := by decide +kernel
theorem d_Mo_form_46 : decode prog_6_method_37_code 46 = .ok (.ireturn, 1) := by decide +kernel
theorem zt_42 : (Cond.selects "MergeGraphsModel" (⟨"MergeGraphsModel", "findForm", "(I)V"⟩ : MethodName) (⟨"MergeGraphsModel", "findForm", "(I)V"⟩ : MethodName)) ∈ zTg := zmem 42 (by decide +kernel) (by decide +kernel)
theorem zt_870 : (Cond.methodLink "MergeGraphsModel" (136 : Nat) (⟨"MergeGraphsModel", "findForm", "(I)V"⟩ : MethodName)) ∈ zTg := zmem 870 (by decide +kernel) (by decide +kernel)
theorem zt_872 : (Cond.instanceMethod (⟨"MergeGraphsModel", "findForm", "(I)V"⟩ : MethodName)) ∈ zTg := zmem 872 (by decide +kernel) (by decide +kernel)
def y_Mo_join : MethodName := ⟨"MergeGraphsModel", "join", "(III)I"⟩
abbrev M_Mo_join : zM := (nR4, prog_6_method_38_code, 7, (some .int), 4)
set_option maxRecDepth 100000 in
theorem zk_Mo_join : Cond.code y_Mo_join (M_Mo_join).2.1 (M_Mo_join).2.2.1 (M_Mo_join).2.2.2.1 ∈ zTg := zmem 881 rfl rfl
theorem zy_Mo_join : (y_Mo_join).cls ≠ "java/lang/invoke/MethodHandle" ∧ (y_Mo_join).cls ≠ "java/lang/invoke/VarHandle" ∧ (parseMethodDescriptor (y_Mo_join).desc).map (fun d => d.parameters.length) = some 3 := by decide +kernel
theorem d_Mo_join_0 : decode prog_6_method_38_code 0 = .ok (.aload_n 0, 1) := by decide +kernel
theorem d_Mo_join_1 : decode prog_6_method_38_code 1 = .ok (.iload_n 1, 1) := by decide +kernel
theorem d_Mo_join_2 : decode prog_6_method_38_code 2 = .ok (.invokestatic 68, 3) := by decide +kernel
theorem d_Mo_join_5 : decode prog_6_method_38_code 5 = .ok (.ifCond .eq 21, 3) := by decide +kernel
theorem d_Mo_join_8 : decode prog_6_method_38_code 8 = .ok (.iload_n 2, 1) := by decide +kernel
theorem d_Mo_join_9 : decode prog_6_method_38_code 9 = .ok (.invokestatic 68, 3) := by decide +kernel
theorem d_Mo_join_12 : decode prog_6_method_38_code 12 = .ok (.ifCond .eq 14, 3) := by decide +kernel
theorem d_Mo_join_15 : decode prog_6_method_38_code 15 = .ok (.iload_n 3, 1) := by decide +kernel
theorem d_Mo_join_16 : decode prog_6_method_38_code 16 = .ok (.invokestatic 68, 3) := by decide +kernel
theorem d_Mo_join_19 : decode prog_6_method_38_code 19 = .ok (.ifCond .eq 7, 3) := by decide +kernel
theorem d_Mo_join_22 : decode prog_6_method_38_code 22 = .ok (.iconst 1, 1) := by decide +kernel
theorem d_Mo_join_23 : decode prog_6_method_38_code 23 = .ok (.goto 4, 3) := by decide +kernel
theorem d_Mo_join_26 : decode prog_6_method_38_code 26 = .ok (.iconst 0, 1) := by decide +kernel
theorem d_Mo_join_27 : decode prog_6_method_38_code 27 = .ok (.invokevirtual 91, 3) := by decide +kernel
theorem d_Mo_join_30 : decode prog_6_method_38_code 30 = .ok (.ifCond .ne 5, 3) := by decide +kernel
theorem d_Mo_join_33 : decode prog_6_method_38_code 33 = .ok (.iconst 0, 1) := by decide +kernel
theorem d_Mo_join_34 : decode prog_6_method_38_code 34 = .ok (.ireturn, 1) := by decide +kernel
theorem d_Mo_join_35 : decode prog_6_method_38_code 35 = .ok (.aload_n 0, 1) := by decide +kernel
theorem d_Mo_join_36 : decode prog_6_method_38_code 36 = .ok (.iload_n 1, 1) := by decide +kernel
theorem d_Mo_join_37 : decode prog_6_method_38_code 37 = .ok (.invokevirtual 95, 3) := by decide +kernel
theorem d_Mo_join_40 : decode prog_6_method_38_code 40 = .ok (.aload_n 0, 1) := by decide +kernel
theorem d_Mo_join_41 : decode prog_6_method_38_code 41 = .ok (.iload_n 2, 1) := by decide +kernel
theorem d_Mo_join_42 : decode prog_6_method_38_code 42 = .ok (.invokevirtual 95, 3) := by decide +kernel
theorem d_Mo_join_45 : decode prog_6_method_38_code 45 = .ok (.iadd, 1) := by decide +kernel
theorem d_Mo_join_46 : decode prog_6_method_38_code 46 = .ok (.bipush 6, 2) := by decide +kernel
theorem d_Mo_join_48 : decode prog_6_method_38_code 48 = .ok (.if_icmp .le 5, 3) := by decide +kernel
theorem d_Mo_join_51 : decode prog_6_method_38_code 51 = .ok (.iconst (-1), 1) := by decide +kernel
theorem d_Mo_join_52 : decode prog_6_method_38_code 52 = .ok (.ireturn, 1) := by decide +kernel
theorem d_Mo_join_53 : decode prog_6_method_38_code 53 = .ok (.aload_n 0, 1) := by decide +kernel
theorem d_Mo_join_54 : decode prog_6_method_38_code 54 = .ok (.iload_n 2, 1) := by decide +kernel
theorem d_Mo_join_55 : decode prog_6_method_38_code 55 = .ok (.iload_n 2, 1) := by decide +kernel
theorem d_Mo_join_56 : decode prog_6_method_38_code 56 = .ok (.iconst 0, 1) := by decide +kernel
theorem d_Mo_join_57 : decode prog_6_method_38_code 57 = .ok (.invokevirtual 116, 3) := by decide +kernel
theorem d_Mo_join_60 : decode prog_6_method_38_code 60 = .ok (.bipush 40, 2) := by decide +kernel
theorem d_Mo_join_62 : decode prog_6_method_38_code 62 = .ok (.istore 4, 2) := by decide +kernel
theorem d_Mo_join_64 : decode prog_6_method_38_code 64 = .ok (.iconst 0, 1) := by decide +kernel
theorem d_Mo_join_65 : decode prog_6_method_38_code 65 = .ok (.istore 5, 2) := by decide +kernel
theorem d_Mo_join_67 : decode prog_6_method_38_code 67 = .ok (.iload 5, 2) := by decide +kernel
theorem d_Mo_join_69 : decode prog_6_method_38_code 69 = .ok (.aload_n 0, 1) := by decide +kernel
theorem d_Mo_join_70 : decode prog_6_method_38_code 70 = .ok (.getfield 98, 3) := by decide +kernel
theorem d_Mo_join_73 : decode prog_6_method_38_code 73 = .ok (.if_icmp .ge 38, 3) := by decide +kernel
theorem d_Mo_join_76 : decode prog_6_method_38_code 76 = .ok (.aload_n 0, 1) := by decide +kernel
theorem d_Mo_join_77 : decode prog_6_method_38_code 77 = .ok (.iload_n 1, 1) := by decide +kernel
theorem d_Mo_join_78 : decode prog_6_method_38_code 78 = .ok (.iload 4, 2) := by decide +kernel
theorem d_Mo_join_80 : decode prog_6_method_38_code 80 = .ok (.iconst 2, 1) := by decide +kernel
theorem d_Mo_join_81 : decode prog_6_method_38_code 81 = .ok (.invokevirtual 64, 3) := by decide +kernel
theorem d_Mo_join_84 : decode prog_6_method_38_code 84 = .ok (.ifCond .eq 9, 3) := by decide +kernel
theorem d_Mo_join_87 : decode prog_6_method_38_code 87 = .ok (.iinc 4 1, 3) := by decide +kernel
theorem d_Mo_join_90 : decode prog_6_method_38_code 90 = .ok (.goto (-14), 3) := by decide +kernel
theorem d_Mo_join_93 : decode prog_6_method_38_code 93 = .ok (.aload_n 0, 1) := by decide +kernel
theorem d_Mo_join_94 : decode prog_6_method_38_code 94 = .ok (.getfield 31, 3) := by decide +kernel
theorem d_Mo_join_97 : decode prog_6_method_38_code 97 = .ok (.iload 5, 2) := by decide +kernel
theorem d_Mo_join_99 : decode prog_6_method_38_code 99 = .ok (.iload 4, 2) := by decide +kernel
theorem d_Mo_join_101 : decode prog_6_method_38_code 101 = .ok (.iastore, 1) := by decide +kernel
theorem d_Mo_join_102 : decode prog_6_method_38_code 102 = .ok (.iinc 4 1, 3) := by decide +kernel
theorem d_Mo_join_105 : decode prog_6_method_38_code 105 = .ok (.iinc 5 1, 3) := by decide +kernel
theorem d_Mo_join_108 : decode prog_6_method_38_code 108 = .ok (.goto (-41), 3) := by decide +kernel
theorem d_Mo_join_111 : decode prog_6_method_38_code 111 = .ok (.aload_n 0, 1) := by decide +kernel
theorem d_Mo_join_112 : decode prog_6_method_38_code 112 = .ok (.iload_n 2, 1) := by decide +kernel
theorem d_Mo_join_113 : decode prog_6_method_38_code 113 = .ok (.invokevirtual 126, 3) := by decide +kernel
theorem d_Mo_join_116 : decode prog_6_method_38_code 116 = .ok (.istore 5, 2) := by decide +kernel
theorem d_Mo_join_118 : decode prog_6_method_38_code 118 = .ok (.iconst 0, 1) := by decide +kernel
theorem d_Mo_join_119 : decode prog_6_method_38_code 119 = .ok (.istore 6, 2) := by decide +kernel
theorem d_Mo_join_121 : decode prog_6_method_38_code 121 = .ok (.iload 6, 2) := by decide +kernel
theorem d_Mo_join_123 : decode prog_6_method_38_code 123 = .ok (.aload_n 0, 1) := by decide +kernel
theorem d_Mo_join_124 : decode prog_6_method_38_code 124 = .ok (.getfield 13, 3) := by decide +kernel
theorem d_Mo_join_127 : decode prog_6_method_38_code 127 = .ok (.iload_n 1, 1) := by decide +kernel
theorem d_Mo_join_128 : decode prog_6_method_38_code 128 = .ok (.iaload, 1) := by decide +kernel
theorem d_Mo_join_129 : decode prog_6_method_38_code 129 = .ok (.if_icmp .ge 20, 3) := by decide +kernel
theorem d_Mo_join_132 : decode prog_6_method_38_code 132 = .ok (.aload_n 0, 1) := by decide +kernel
theorem d_Mo_join_133 : decode prog_6_method_38_code 133 = .ok (.aload_n 0, 1) := by decide +kernel
theorem d_Mo_join_134 : decode prog_6_method_38_code 134 = .ok (.iload_n 1, 1) := by decide +kernel
theorem d_Mo_join_135 : decode prog_6_method_38_code 135 = .ok (.iload 6, 2) := by decide +kernel
theorem d_Mo_join_137 : decode prog_6_method_38_code 137 = .ok (.invokevirtual 50, 3) := by decide +kernel
theorem d_Mo_join_140 : decode prog_6_method_38_code 140 = .ok (.invokevirtual 84, 3) := by decide +kernel
theorem d_Mo_join_143 : decode prog_6_method_38_code 143 = .ok (.iinc 6 1, 3) := by decide +kernel
theorem d_Mo_join_146 : decode prog_6_method_38_code 146 = .ok (.goto (-25), 3) := by decide +kernel
theorem d_Mo_join_149 : decode prog_6_method_38_code 149 = .ok (.aload_n 0, 1) := by decide +kernel
theorem d_Mo_join_150 : decode prog_6_method_38_code 150 = .ok (.getfield 54, 3) := by decide +kernel
theorem d_Mo_join_153 : decode prog_6_method_38_code 153 = .ok (.bipush 30, 2) := by decide +kernel
theorem d_Mo_join_155 : decode prog_6_method_38_code 155 = .ok (.if_icmp .le 5, 3) := by decide +kernel
theorem d_Mo_join_158 : decode prog_6_method_38_code 158 = .ok (.iconst (-1), 1) := by decide +kernel
theorem d_Mo_join_159 : decode prog_6_method_38_code 159 = .ok (.ireturn, 1) := by decide +kernel
theorem d_Mo_join_160 : decode prog_6_method_38_code 160 = .ok (.aload_n 0, 1) := by decide +kernel
theorem d_Mo_join_161 : decode prog_6_method_38_code 161 = .ok (.iload_n 3, 1) := by decide +kernel
theorem d_Mo_join_162 : decode prog_6_method_38_code 162 = .ok (.invokevirtual 88, 3) := by decide +kernel
theorem d_Mo_join_165 : decode prog_6_method_38_code 165 = .ok (.aload_n 0, 1) := by decide +kernel
theorem d_Mo_join_166 : decode prog_6_method_38_code 166 = .ok (.getfield 54, 3) := by decide +kernel
theorem d_Mo_join_169 : decode prog_6_method_38_code 169 = .ok (.ireturn, 1) := by decide +kernel
def y_Mo_doClash : MethodName := ⟨"MergeGraphsModel", "doClash", "(IIII)Z"⟩
abbrev M_Mo_doClash : zM := (nR4, prog_6_method_39_code, 8, (some .boolean), 2)
set_option maxRecDepth 100000 in
theorem zk_Mo_doClash : Cond.code y_Mo_doClash (M_Mo_doClash).2.1 (M_Mo_doClash).2.2.1 (M_Mo_doClash).2.2.2.1 ∈ zTg := zmem 889 rfl rfl
theorem zy_Mo_doClash : (y_Mo_doClash).cls ≠ "java/lang/invoke/MethodHandle" ∧ (y_Mo_doClash).cls ≠ "java/lang/invoke/VarHandle" ∧ (parseMethodDescriptor (y_Mo_doClash).desc).map (fun d => d.parameters.length) = some 4 := by decide +kernel
theorem d_Mo_doClash_0 : decode prog_6_method_39_code 0 = .ok (.aload_n 0, 1) := by decide +kernel
theorem d_Mo_doClash_1 : decode prog_6_method_39_code 1 = .ok (.iload_n 1, 1) := by decide +kernel
theorem d_Mo_doClash_2 : decode prog_6_method_39_code 2 = .ok (.iload 4, 2) := by decide +kernel
theorem d_Mo_doClash_4 : decode prog_6_method_39_code 4 = .ok (.iconst 0, 1) := by decide +kernel
theorem d_Mo_doClash_5 : decode prog_6_method_39_code 5 = .ok (.invokevirtual 64, 3) := by decide +kernel
theorem d_Mo_doClash_8 : decode prog_6_method_39_code 8 = .ok (.ifCond .eq 14, 3) := by decide +kernel
theorem d_Mo_doClash_11 : decode prog_6_method_39_code 11 = .ok (.aload_n 0, 1) := by decide +kernel
theorem d_Mo_doClash_12 : decode prog_6_method_39_code 12 = .ok (.iload_n 2, 1) := by decide +kernel
theorem d_Mo_doClash_13 : decode prog_6_method_39_code 13 = .ok (.iload 4, 2) := by decide +kernel
theorem d_Mo_doClash_15 : decode prog_6_method_39_code 15 = .ok (.iconst 0, 1) := by decide +kernel
theorem d_Mo_doClash_16 : decode prog_6_method_39_code 16 = .ok (.invokevirtual 64, 3) := by decide +kernel
theorem d_Mo_doClash_19 : decode prog_6_method_39_code 19 = .ok (.ifCond .eq 5, 3) := by decide +kernel
theorem d_Mo_doClash_22 : decode prog_6_method_39_code 22 = .ok (.iconst 0, 1) := by decide +kernel
theorem d_Mo_doClash_23 : decode prog_6_method_39_code 23 = .ok (.ireturn, 1) := by decide +kernel
theorem d_Mo_doClash_24 : decode prog_6_method_39_code 24 = .ok (.iconst 0, 1) := by decide +kernel
theorem d_Mo_doClash_25 : decode prog_6_method_39_code 25 = .ok (.istore 5, 2) := by decide +kernel
theorem d_Mo_doClash_27 : decode prog_6_method_39_code 27 = .ok (.iconst 0, 1) := by decide +kernel
theorem d_Mo_doClash_28 : decode prog_6_method_39_code 28 = .ok (.istore 6, 2) := by decide +kernel
theorem d_Mo_doClash_30 : decode prog_6_method_39_code 30 = .ok (.iload 6, 2) := by decide +kernel
theorem d_Mo_doClash_32 : decode prog_6_method_39_code 32 = .ok (.aload_n 0, 1) := by decide +kernel
theorem d_Mo_doClash_33 : decode prog_6_method_39_code 33 = .ok (.getfield 13, 3) := by decide +kernel
theorem d_Mo_doClash_36 : decode prog_6_method_39_code 36 = .ok (.iload_n 3, 1) := by decide +kernel
theorem d_Mo_doClash_37 : decode prog_6_method_39_code 37 = .ok (.iaload, 1) := by decide +kernel
theorem d_Mo_doClash_38 : decode prog_6_method_39_code 38 = .ok (.if_icmp .ge 60, 3) := by decide +kernel
theorem d_Mo_doClash_41 : decode prog_6_method_39_code 41 = .ok (.aload_n 0, 1) := by decide +kernel
theorem d_Mo_doClash_42 : decode prog_6_method_39_code 42 = .ok (.iload_n 3, 1) := by decide +kernel
theorem d_Mo_doClash_43 : decode prog_6_method_39_code 43 = .ok (.iload 6, 2) := by decide +kernel
theorem d_Mo_doClash_45 : decode prog_6_method_39_code 45 = .ok (.invokevirtual 50, 3) := by decide +kernel
theorem d_Mo_doClash_48 : decode prog_6_method_39_code 48 = .ok (.istore 7, 2) := by decide +kernel
theorem d_Mo_doClash_50 : decode prog_6_method_39_code 50 = .ok (.iload 5, 2) := by decide +kernel
theorem d_Mo_doClash_52 : decode prog_6_method_39_code 52 = .ok (.ifCond .ne 33, 3) := by decide +kernel
theorem d_Mo_doClash_55 : decode prog_6_method_39_code 55 = .ok (.aload_n 0, 1) := by decide +kernel
theorem d_Mo_doClash_56 : decode prog_6_method_39_code 56 = .ok (.iload_n 1, 1) := by decide +kernel
theorem d_Mo_doClash_57 : decode prog_6_method_39_code 57 = .ok (.iload 7, 2) := by decide +kernel
theorem d_Mo_doClash_59 : decode prog_6_method_39_code 59 = .ok (.invokevirtual 80, 3) := by decide +kernel
theorem d_Mo_doClash_62 : decode prog_6_method_39_code 62 = .ok (.ifCond .ne 27, 3) := by decide +kernel
theorem d_Mo_doClash_65 : decode prog_6_method_39_code 65 = .ok (.iload 7, 2) := by decide +kernel
theorem d_Mo_doClash_67 : decode prog_6_method_39_code 67 = .ok (.invokestatic 57, 3) := by decide +kernel
theorem d_Mo_doClash_70 : decode prog_6_method_39_code 70 = .ok (.iload 4, 2) := by decide +kernel
theorem d_Mo_doClash_72 : decode prog_6_method_39_code 72 = .ok (.if_icmp .eq 13, 3) := by decide +kernel
theorem d_Mo_doClash_75 : decode prog_6_method_39_code 75 = .ok (.iload 7, 2) := by decide +kernel
theorem d_Mo_doClash_77 : decode prog_6_method_39_code 77 = .ok (.invokestatic 61, 3) := by decide +kernel
theorem d_Mo_doClash_80 : decode prog_6_method_39_code 80 = .ok (.iload 4, 2) := by decide +kernel
theorem d_Mo_doClash_82 : decode prog_6_method_39_code 82 = .ok (.if_icmp .ne 7, 3) := by decide +kernel
theorem d_Mo_doClash_85 : decode prog_6_method_39_code 85 = .ok (.iconst 1, 1) := by decide +kernel
theorem d_Mo_doClash_86 : decode prog_6_method_39_code 86 = .ok (.goto 4, 3) := by decide +kernel
theorem d_Mo_doClash_89 : decode prog_6_method_39_code 89 = .ok (.iconst 0, 1) := by decide +kernel
theorem d_Mo_doClash_90 : decode prog_6_method_39_code 90 = .ok (.istore 5, 2) := by decide +kernel
theorem d_Mo_doClash_92 : decode prog_6_method_39_code 92 = .ok (.iinc 6 1, 3) := by decide +kernel
theorem d_Mo_doClash_95 : decode prog_6_method_39_code 95 = .ok (.goto (-65), 3) := by decide +kernel
theorem d_Mo_doClash_98 : decode prog_6_method_39_code 98 = .ok (.iload 5, 2) := by decide +kernel
theorem d_Mo_doClash_100 : decode prog_6_method_39_code 100 = .ok (.ireturn, 1) := by decide +kernel
def y_Mo_note : MethodName := ⟨"MergeGraphsModel", "note", "(II)V"⟩
abbrev M_Mo_note : zM := (nR4, prog_6_method_40_code, 3, none, 0)
set_option maxRecDepth 100000 in
theorem zk_Mo_note : Cond.code y_Mo_note (M_Mo_note).2.1 (M_Mo_note).2.2.1 (M_Mo_note).2.2.2.1 ∈ zTg := zmem 893 rfl rfl
theorem zy_Mo_note : (y_Mo_note).cls ≠ "java/lang/invoke/MethodHandle" ∧ (y_Mo_note).cls ≠ "java/lang/invoke/VarHandle" ∧ (parseMethodDescriptor (y_Mo_note).desc).map (fun d => d.parameters.length) = some 2 := by decide +kernel
theorem d_Mo_note_0 : decode prog_6_method_40_code 0 = .ok (.aload_n 0, 1) := by decide +kernel
theorem d_Mo_note_1 : decode prog_6_method_40_code 1 = .ok (.getfield 34, 3) := by decide +kernel
theorem d_Mo_note_4 : decode prog_6_method_40_code 4 = .ok (.aload_n 0, 1) := by decide +kernel
theorem d_Mo_note_5 : decode prog_6_method_40_code 5 = .ok (.getfield 139, 3) := by decide +kernel
theorem d_Mo_note_8 : decode prog_6_method_40_code 8 = .ok (.iload_n 1, 1) := by decide +kernel
theorem d_Mo_note_9 : decode prog_6_method_40_code 9 = .ok (.iastore, 1) := by decide +kernel
theorem d_Mo_note_10 : decode prog_6_method_40_code 10 = .ok (.aload_n 0, 1) := by decide +kernel
theorem d_Mo_note_11 : decode prog_6_method_40_code 11 = .ok (.getfield 37, 3) := by decide +kernel
theorem d_Mo_note_14 : decode prog_6_method_40_code 14 = .ok (.aload_n 0, 1) := by decide +kernel
theorem d_Mo_note_15 : decode prog_6_method_40_code 15 = .ok (.getfield 139, 3) := by decide +kernel
theorem d_Mo_note_18 : decode prog_6_method_40_code 18 = .ok (.iload_n 2, 1) := by decide +kernel
theorem d_Mo_note_19 : decode prog_6_method_40_code 19 = .ok (.iastore, 1) := by decide +kernel
theorem d_Mo_note_20 : decode prog_6_method_40_code 20 = .ok (.aload_n 0, 1) := by decide +kernel
theorem d_Mo_note_21 : decode prog_6_method_40_code 21 = .ok (.dup, 1) := by decide +kernel
theorem d_Mo_note_22 : decode prog_6_method_40_code 22 = .ok (.getfield 139, 3) := by decide +kernel
theorem d_Mo_note_25 : decode prog_6_method_40_code 25 = .ok (.iconst 1, 1) := by decide +kernel
theorem d_Mo_note_26 : decode prog_6_method_40_code 26 = .ok (.iadd, 1) := by decide +kernel
theorem d_Mo_note_27 : decode prog_6_method_40_code 27 = .ok (.putfield 139, 3) := by decide +kernel
theorem d_Mo_note_30 : decode prog_6_method_40_code 30 = .ok (.return_, 1) := by decide +kernel
theorem zf_Mo_34 : Cond.fieldLink nR4 34 (nT4 13).1 (nT4 13).2.1 (nT4 13).2.2.1 ∈ zTg := zmem 693 (by decide +kernel) (by decide +kernel)
theorem zf_Mo_37 : Cond.fieldLink nR4 37 (nT4 14).1 (nT4 14).2.1 (nT4 14).2.2.1 ∈ zTg := zmem 694 (by decide +kernel) (by decide +kernel)
theorem zf_Mo_139 : Cond.fieldLink nR4 139 (nT4 12).1 (nT4 12).2.1 (nT4 12).2.2.1 ∈ zTg := zmem 692 (by decide +kernel) (by decide +kernel)
def y_Mo_merge : MethodName := ⟨"MergeGraphsModel", "merge", "(IIII)I"⟩
abbrev M_Mo_merge : zM := (nR4, prog_6_method_41_code, 7, (some .int), 3)
set_option maxRecDepth 100000 in
theorem zk_Mo_merge : Cond.code y_Mo_merge (M_Mo_merge).2.1 (M_Mo_merge).2.2.1 (M_Mo_merge).2.2.2.1 ∈ zTg := zmem 885 rfl rfl
theorem zy_Mo_merge : (y_Mo_merge).cls ≠ "java/lang/invoke/MethodHandle" ∧ (y_Mo_merge).cls ≠ "java/lang/invoke/VarHandle" ∧ (parseMethodDescriptor (y_Mo_merge).desc).map (fun d => d.parameters.length) = some 4 := by decide +kernel
theorem d_Mo_merge_0 : decode prog_6_method_41_code 0 = .ok (.aload_n 0, 1) := by decide +kernel
theorem d_Mo_merge_1 : decode prog_6_method_41_code 1 = .ok (.iload_n 1, 1) := by decide +kernel
theorem d_Mo_merge_2 : decode prog_6_method_41_code 2 = .ok (.invokestatic 68, 3) := by decide +kernel
theorem d_Mo_merge_5 : decode prog_6_method_41_code 5 = .ok (.ifCond .eq 29, 3) := by decide +kernel
theorem d_Mo_merge_8 : decode prog_6_method_41_code 8 = .ok (.iload_n 2, 1) := by decide +kernel
theorem d_Mo_merge_9 : decode prog_6_method_41_code 9 = .ok (.invokestatic 68, 3) := by decide +kernel
theorem d_Mo_merge_12 : decode prog_6_method_41_code 12 = .ok (.ifCond .eq 22, 3) := by decide +kernel
theorem d_Mo_merge_15 : decode prog_6_method_41_code 15 = .ok (.iload_n 3, 1) := by decide +kernel
theorem d_Mo_merge_16 : decode prog_6_method_41_code 16 = .ok (.invokestatic 68, 3) := by decide +kernel
theorem d_Mo_merge_19 : decode prog_6_method_41_code 19 = .ok (.ifCond .eq 15, 3) := by decide +kernel
theorem d_Mo_merge_22 : decode prog_6_method_41_code 22 = .ok (.iload 4, 2) := by decide +kernel
theorem d_Mo_merge_24 : decode prog_6_method_41_code 24 = .ok (.invokestatic 68, 3) := by decide +kernel
theorem d_Mo_merge_27 : decode prog_6_method_41_code 27 = .ok (.ifCond .eq 7, 3) := by decide +kernel
theorem d_Mo_merge_30 : decode prog_6_method_41_code 30 = .ok (.iconst 1, 1) := by decide +kernel
theorem d_Mo_merge_31 : decode prog_6_method_41_code 31 = .ok (.goto 4, 3) := by decide +kernel
theorem d_Mo_merge_34 : decode prog_6_method_41_code 34 = .ok (.iconst 0, 1) := by decide +kernel
theorem d_Mo_merge_35 : decode prog_6_method_41_code 35 = .ok (.invokevirtual 91, 3) := by decide +kernel
theorem d_Mo_merge_38 : decode prog_6_method_41_code 38 = .ok (.ifCond .ne 5, 3) := by decide +kernel
theorem d_Mo_merge_41 : decode prog_6_method_41_code 41 = .ok (.iconst 0, 1) := by decide +kernel
theorem d_Mo_merge_42 : decode prog_6_method_41_code 42 = .ok (.ireturn, 1) := by decide +kernel
theorem d_Mo_merge_43 : decode prog_6_method_41_code 43 = .ok (.aload_n 0, 1) := by decide +kernel
theorem d_Mo_merge_44 : decode prog_6_method_41_code 44 = .ok (.iconst 0, 1) := by decide +kernel
theorem d_Mo_merge_45 : decode prog_6_method_41_code 45 = .ok (.putfield 54, 3) := by decide +kernel
theorem d_Mo_merge_48 : decode prog_6_method_41_code 48 = .ok (.iconst 0, 1) := by decide +kernel
theorem d_Mo_merge_49 : decode prog_6_method_41_code 49 = .ok (.istore 5, 2) := by decide +kernel
theorem d_Mo_merge_51 : decode prog_6_method_41_code 51 = .ok (.iload 5, 2) := by decide +kernel
theorem d_Mo_merge_53 : decode prog_6_method_41_code 53 = .ok (.aload_n 0, 1) := by decide +kernel
theorem d_Mo_merge_54 : decode prog_6_method_41_code 54 = .ok (.getfield 13, 3) := by decide +kernel
theorem d_Mo_merge_57 : decode prog_6_method_41_code 57 = .ok (.iload_n 1, 1) := by decide +kernel
theorem d_Mo_merge_58 : decode prog_6_method_41_code 58 = .ok (.iaload, 1) := by decide +kernel
theorem d_Mo_merge_59 : decode prog_6_method_41_code 59 = .ok (.if_icmp .ge 44, 3) := by decide +kernel
theorem d_Mo_merge_62 : decode prog_6_method_41_code 62 = .ok (.aload_n 0, 1) := by decide +kernel
theorem d_Mo_merge_63 : decode prog_6_method_41_code 63 = .ok (.iload_n 1, 1) := by decide +kernel
theorem d_Mo_merge_64 : decode prog_6_method_41_code 64 = .ok (.iload 5, 2) := by decide +kernel
theorem d_Mo_merge_66 : decode prog_6_method_41_code 66 = .ok (.invokevirtual 50, 3) := by decide +kernel
theorem d_Mo_merge_69 : decode prog_6_method_41_code 69 = .ok (.istore 6, 2) := by decide +kernel
theorem d_Mo_merge_71 : decode prog_6_method_41_code 71 = .ok (.aload_n 0, 1) := by decide +kernel
theorem d_Mo_merge_72 : decode prog_6_method_41_code 72 = .ok (.iload_n 2, 1) := by decide +kernel
theorem d_Mo_merge_73 : decode prog_6_method_41_code 73 = .ok (.iload 6, 2) := by decide +kernel
theorem d_Mo_merge_75 : decode prog_6_method_41_code 75 = .ok (.invokevirtual 80, 3) := by decide +kernel
theorem d_Mo_merge_78 : decode prog_6_method_41_code 78 = .ok (.ifCond .eq 19, 3) := by decide +kernel
theorem d_Mo_merge_81 : decode prog_6_method_41_code 81 = .ok (.aload_n 0, 1) := by decide +kernel
theorem d_Mo_merge_82 : decode prog_6_method_41_code 82 = .ok (.iload_n 3, 1) := by decide +kernel
theorem d_Mo_merge_83 : decode prog_6_method_41_code 83 = .ok (.iload 6, 2) := by decide +kernel
theorem d_Mo_merge_85 : decode prog_6_method_41_code 85 = .ok (.invokevirtual 80, 3) := by decide +kernel
theorem d_Mo_merge_88 : decode prog_6_method_41_code 88 = .ok (.ifCond .eq 9, 3) := by decide +kernel
theorem d_Mo_merge_91 : decode prog_6_method_41_code 91 = .ok (.aload_n 0, 1) := by decide +kernel
theorem d_Mo_merge_92 : decode prog_6_method_41_code 92 = .ok (.iload 6, 2) := by decide +kernel
theorem d_Mo_merge_94 : decode prog_6_method_41_code 94 = .ok (.invokevirtual 84, 3) := by decide +kernel
theorem d_Mo_merge_97 : decode prog_6_method_41_code 97 = .ok (.iinc 5 1, 3) := by decide +kernel
theorem d_Mo_merge_100 : decode prog_6_method_41_code 100 = .ok (.goto (-49), 3) := by decide +kernel
theorem d_Mo_merge_103 : decode prog_6_method_41_code 103 = .ok (.iconst 0, 1) := by decide +kernel
theorem d_Mo_merge_104 : decode prog_6_method_41_code 104 = .ok (.istore 5, 2) := by decide +kernel
theorem d_Mo_merge_106 : decode prog_6_method_41_code 106 = .ok (.iload 5, 2) := by decide +kernel
theorem d_Mo_merge_108 : decode prog_6_method_41_code 108 = .ok (.aload_n 0, 1) := by decide +kernel
theorem d_Mo_merge_109 : decode prog_6_method_41_code 109 = .ok (.getfield 13, 3) := by decide +kernel
theorem d_Mo_merge_112 : decode prog_6_method_41_code 112 = .ok (.iload_n 2, 1) := by decide +kernel
theorem d_Mo_merge_113 : decode prog_6_method_41_code 113 = .ok (.iaload, 1) := by decide +kernel
theorem d_Mo_merge_114 : decode prog_6_method_41_code 114 = .ok (.if_icmp .ge 35, 3) := by decide +kernel
theorem d_Mo_merge_117 : decode prog_6_method_41_code 117 = .ok (.aload_n 0, 1) := by decide +kernel
theorem d_Mo_merge_118 : decode prog_6_method_41_code 118 = .ok (.iload_n 1, 1) := by decide +kernel
theorem d_Mo_merge_119 : decode prog_6_method_41_code 119 = .ok (.aload_n 0, 1) := by decide +kernel
theorem d_Mo_merge_120 : decode prog_6_method_41_code 120 = .ok (.iload_n 2, 1) := by decide +kernel
theorem d_Mo_merge_121 : decode prog_6_method_41_code 121 = .ok (.iload 5, 2) := by decide +kernel
theorem d_Mo_merge_123 : decode prog_6_method_41_code 123 = .ok (.invokevirtual 50, 3) := by decide +kernel
theorem d_Mo_merge_126 : decode prog_6_method_41_code 126 = .ok (.invokevirtual 80, 3) := by decide +kernel
theorem d_Mo_merge_129 : decode prog_6_method_41_code 129 = .ok (.ifCond .ne 14, 3) := by decide +kernel
theorem d_Mo_merge_132 : decode prog_6_method_41_code 132 = .ok (.aload_n 0, 1) := by decide +kernel
theorem d_Mo_merge_133 : decode prog_6_method_41_code 133 = .ok (.aload_n 0, 1) := by decide +kernel
theorem d_Mo_merge_134 : decode prog_6_method_41_code 134 = .ok (.iload_n 2, 1) := by decide +kernel
theorem d_Mo_merge_135 : decode prog_6_method_41_code 135 = .ok (.iload 5, 2) := by decide +kernel
theorem d_Mo_merge_137 : decode prog_6_method_41_code 137 = .ok (.invokevirtual 50, 3) := by decide +kernel
theorem d_Mo_merge_140 : decode prog_6_method_41_code 140 = .ok (.invokevirtual 84, 3) := by decide +kernel
theorem d_Mo_merge_143 : decode prog_6_method_41_code 143 = .ok (.iinc 5 1, 3) := by decide +kernel
theorem d_Mo_merge_146 : decode prog_6_method_41_code 146 = .ok (.goto (-40), 3) := by decide +kernel
theorem d_Mo_merge_149 : decode prog_6_method_41_code 149 = .ok (.iconst 0, 1) := by decide +kernel
theorem d_Mo_merge_150 : decode prog_6_method_41_code 150 = .ok (.istore 5, 2) := by decide +kernel
theorem d_Mo_merge_152 : decode prog_6_method_41_code 152 = .ok (.iload 5, 2) := by decide +kernel
theorem d_Mo_merge_154 : decode prog_6_method_41_code 154 = .ok (.aload_n 0, 1) := by decide +kernel
theorem d_Mo_merge_155 : decode prog_6_method_41_code 155 = .ok (.getfield 13, 3) := by decide +kernel
theorem d_Mo_merge_158 : decode prog_6_method_41_code 158 = .ok (.iload_n 3, 1) := by decide +kernel
theorem d_Mo_merge_159 : decode prog_6_method_41_code 159 = .ok (.iaload, 1) := by decide +kernel
theorem d_Mo_merge_160 : decode prog_6_method_41_code 160 = .ok (.if_icmp .ge 35, 3) := by decide +kernel
theorem d_Mo_merge_163 : decode prog_6_method_41_code 163 = .ok (.aload_n 0, 1) := by decide +kernel
theorem d_Mo_merge_164 : decode prog_6_method_41_code 164 = .ok (.iload_n 1, 1) := by decide +kernel
theorem d_Mo_merge_165 : decode prog_6_method_41_code 165 = .ok (.aload_n 0, 1) := by decide +kernel
theorem d_Mo_merge_166 : decode prog_6_method_41_code 166 = .ok (.iload_n 3, 1) := by decide +kernel
theorem d_Mo_merge_167 : decode prog_6_method_41_code 167 = .ok (.iload 5, 2) := by decide +kernel
theorem d_Mo_merge_169 : decode prog_6_method_41_code 169 = .ok (.invokevirtual 50, 3) := by decide +kernel
theorem d_Mo_merge_172 : decode prog_6_method_41_code 172 = .ok (.invokevirtual 80, 3) := by decide +kernel
theorem d_Mo_merge_175 : decode prog_6_method_41_code 175 = .ok (.ifCond .ne 14, 3) := by decide +kernel
theorem d_Mo_merge_178 : decode prog_6_method_41_code 178 = .ok (.aload_n 0, 1) := by decide +kernel
theorem d_Mo_merge_179 : decode prog_6_method_41_code 179 = .ok (.aload_n 0, 1) := by decide +kernel
theorem d_Mo_merge_180 : decode prog_6_method_41_code 180 = .ok (.iload_n 3, 1) := by decide +kernel
theorem d_Mo_merge_181 : decode prog_6_method_41_code 181 = .ok (.iload 5, 2) := by decide +kernel
theorem d_Mo_merge_183 : decode prog_6_method_41_code 183 = .ok (.invokevirtual 50, 3) := by decide +kernel
theorem d_Mo_merge_186 : decode prog_6_method_41_code 186 = .ok (.invokevirtual 84, 3) := by decide +kernel
theorem d_Mo_merge_189 : decode prog_6_method_41_code 189 = .ok (.iinc 5 1, 3) := by decide +kernel
theorem d_Mo_merge_192 : decode prog_6_method_41_code 192 = .ok (.goto (-40), 3) := by decide +kernel
theorem d_Mo_merge_195 : decode prog_6_method_41_code 195 = .ok (.aload_n 0, 1) := by decide +kernel
theorem d_Mo_merge_196 : decode prog_6_method_41_code 196 = .ok (.getfield 54, 3) := by decide +kernel
theorem d_Mo_merge_199 : decode prog_6_method_41_code 199 = .ok (.bipush 30, 2) := by decide +kernel
theorem d_Mo_merge_201 : decode prog_6_method_41_code 201 = .ok (.if_icmp .le 5, 3) := by decide +kernel
theorem d_Mo_merge_204 : decode prog_6_method_41_code 204 = .ok (.iconst (-1), 1) := by decide +kernel
theorem d_Mo_merge_205 : decode prog_6_method_41_code 205 = .ok (.ireturn, 1) := by decide +kernel
theorem d_Mo_merge_206 : decode prog_6_method_41_code 206 = .ok (.aload_n 0, 1) := by decide +kernel
theorem d_Mo_merge_207 : decode prog_6_method_41_code 207 = .ok (.iconst 0, 1) := by decide +kernel
theorem d_Mo_merge_208 : decode prog_6_method_41_code 208 = .ok (.putfield 139, 3) := by decide +kernel
theorem d_Mo_merge_211 : decode prog_6_method_41_code 211 = .ok (.iconst 0, 1) := by decide +kernel
theorem d_Mo_merge_212 : decode prog_6_method_41_code 212 = .ok (.istore 5, 2) := by decide +kernel
theorem d_Mo_merge_214 : decode prog_6_method_41_code 214 = .ok (.iload 5, 2) := by decide +kernel
theorem d_Mo_merge_216 : decode prog_6_method_41_code 216 = .ok (.bipush 46, 2) := by decide +kernel
theorem d_Mo_merge_218 : decode prog_6_method_41_code 218 = .ok (.if_icmp .ge 47, 3) := by decide +kernel
theorem d_Mo_merge_221 : decode prog_6_method_41_code 221 = .ok (.aload_n 0, 1) := by decide +kernel
theorem d_Mo_merge_222 : decode prog_6_method_41_code 222 = .ok (.iload_n 1, 1) := by decide +kernel
theorem d_Mo_merge_223 : decode prog_6_method_41_code 223 = .ok (.iload_n 2, 1) := by decide +kernel
theorem d_Mo_merge_224 : decode prog_6_method_41_code 224 = .ok (.iload_n 3, 1) := by decide +kernel
theorem d_Mo_merge_225 : decode prog_6_method_41_code 225 = .ok (.iload 5, 2) := by decide +kernel
theorem d_Mo_merge_227 : decode prog_6_method_41_code 227 = .ok (.invokevirtual 142, 3) := by decide +kernel
theorem d_Mo_merge_230 : decode prog_6_method_41_code 230 = .ok (.ifCond .eq 10, 3) := by decide +kernel
theorem d_Mo_merge_233 : decode prog_6_method_41_code 233 = .ok (.aload_n 0, 1) := by decide +kernel
theorem d_Mo_merge_234 : decode prog_6_method_41_code 234 = .ok (.iload 5, 2) := by decide +kernel
theorem d_Mo_merge_236 : decode prog_6_method_41_code 236 = .ok (.iconst 0, 1) := by decide +kernel
theorem d_Mo_merge_237 : decode prog_6_method_41_code 237 = .ok (.invokevirtual 146, 3) := by decide +kernel
theorem d_Mo_merge_240 : decode prog_6_method_41_code 240 = .ok (.aload_n 0, 1) := by decide +kernel
theorem d_Mo_merge_241 : decode prog_6_method_41_code 241 = .ok (.iload_n 1, 1) := by decide +kernel
theorem d_Mo_merge_242 : decode prog_6_method_41_code 242 = .ok (.iload_n 3, 1) := by decide +kernel
theorem d_Mo_merge_243 : decode prog_6_method_41_code 243 = .ok (.iload_n 2, 1) := by decide +kernel
theorem d_Mo_merge_244 : decode prog_6_method_41_code 244 = .ok (.iload 5, 2) := by decide +kernel
theorem d_Mo_merge_246 : decode prog_6_method_41_code 246 = .ok (.invokevirtual 142, 3) := by decide +kernel
theorem d_Mo_merge_249 : decode prog_6_method_41_code 249 = .ok (.ifCond .eq 10, 3) := by decide +kernel
theorem d_Mo_merge_252 : decode prog_6_method_41_code 252 = .ok (.aload_n 0, 1) := by decide +kernel
theorem d_Mo_merge_253 : decode prog_6_method_41_code 253 = .ok (.iload 5, 2) := by decide +kernel
theorem d_Mo_merge_255 : decode prog_6_method_41_code 255 = .ok (.iconst 1, 1) := by decide +kernel
theorem d_Mo_merge_256 : decode prog_6_method_41_code 256 = .ok (.invokevirtual 146, 3) := by decide +kernel
theorem d_Mo_merge_259 : decode prog_6_method_41_code 259 = .ok (.iinc 5 1, 3) := by decide +kernel
theorem d_Mo_merge_262 : decode prog_6_method_41_code 262 = .ok (.goto (-48), 3) := by decide +kernel
theorem d_Mo_merge_265 : decode prog_6_method_41_code 265 = .ok (.aload_n 0, 1) := by decide +kernel
theorem d_Mo_merge_266 : decode prog_6_method_41_code 266 = .ok (.iload 4, 2) := by decide +kernel
theorem d_Mo_merge_268 : decode prog_6_method_41_code 268 = .ok (.invokevirtual 88, 3) := by decide +kernel
theorem d_Mo_merge_271 : decode prog_6_method_41_code 271 = .ok (.aload_n 0, 1) := by decide +kernel
theorem d_Mo_merge_272 : decode prog_6_method_41_code 272 = .ok (.getfield 139, 3) := by decide +kernel
theorem d_Mo_merge_275 : decode prog_6_method_41_code 275 = .ok (.ireturn, 1) := by decide +kernel
theorem zt_44 : (Cond.selects "MergeGraphsModel" (⟨"MergeGraphsModel", "doClash", "(IIII)Z"⟩ : MethodName) (⟨"MergeGraphsModel", "doClash", "(IIII)Z"⟩ : MethodName)) ∈ zTg := zmem 44 (by decide +kernel) (by decide +kernel)
theorem zt_45 : (Cond.selects "MergeGraphsModel" (⟨"MergeGraphsModel", "note", "(II)V"⟩ : MethodName) (⟨"MergeGraphsModel", "note", "(II)V"⟩ : MethodName)) ∈ zTg := zmem 45 (by decide +kernel) (by decide +kernel)
theorem zt_886 : (Cond.methodLink "MergeGraphsModel" (142 : Nat) (⟨"MergeGraphsModel", "doClash", "(IIII)Z"⟩ : MethodName)) ∈ zTg := zmem 886 (by decide +kernel) (by decide +kernel)
theorem zt_888 : (Cond.instanceMethod (⟨"MergeGraphsModel", "doClash", "(IIII)Z"⟩ : MethodName)) ∈ zTg := zmem 888 (by decide +kernel) (by decide +kernel)
theorem zt_890 : (Cond.methodLink "MergeGraphsModel" (146 : Nat) (⟨"MergeGraphsModel", "note", "(II)V"⟩ : MethodName)) ∈ zTg := zmem 890 (by decide +kernel) (by decide +kernel)
theorem zt_892 : (Cond.instanceMethod (⟨"MergeGraphsModel", "note", "(II)V"⟩ : MethodName)) ∈ zTg := zmem 892 (by decide +kernel) (by decide +kernel)
def y_Mo_clash : MethodName := ⟨"MergeGraphsModel", "clash", "(II)I"⟩
abbrev M_Mo_clash : zM := (nR4, prog_6_method_42_code, 3, (some .int), 1)
set_option maxRecDepth 100000 in
theorem zk_Mo_clash : Cond.code y_Mo_clash (M_Mo_clash).2.1 (M_Mo_clash).2.2.1 (M_Mo_clash).2.2.2.1 ∈ zTg := zmem 897 rfl rfl
theorem zy_Mo_clash : (y_Mo_clash).cls ≠ "java/lang/invoke/MethodHandle" ∧ (y_Mo_clash).cls ≠ "java/lang/invoke/VarHandle" ∧ (parseMethodDescriptor (y_Mo_clash).desc).map (fun d => d.parameters.length) = some 2 := by decide +kernel
theorem d_Mo_clash_0 : decode prog_6_method_42_code 0 = .ok (.aload_n 0, 1) := by decide +kernel
theorem d_Mo_clash_1 : decode prog_6_method_42_code 1 = .ok (.iload_n 1, 1) := by decide +kernel
theorem d_Mo_clash_2 : decode prog_6_method_42_code 2 = .ok (.ifCond .lt 24, 3) := by decide +kernel
theorem d_Mo_clash_5 : decode prog_6_method_42_code 5 = .ok (.iload_n 1, 1) := by decide +kernel
theorem d_Mo_clash_6 : decode prog_6_method_42_code 6 = .ok (.aload_n 0, 1) := by decide +kernel
theorem d_Mo_clash_7 : decode prog_6_method_42_code 7 = .ok (.getfield 139, 3) := by decide +kernel
theorem d_Mo_clash_10 : decode prog_6_method_42_code 10 = .ok (.if_icmp .ge 16, 3) := by decide +kernel
theorem d_Mo_clash_13 : decode prog_6_method_42_code 13 = .ok (.iload_n 2, 1) := by decide +kernel
theorem d_Mo_clash_14 : decode prog_6_method_42_code 14 = .ok (.ifCond .lt 12, 3) := by decide +kernel
theorem d_Mo_clash_17 : decode prog_6_method_42_code 17 = .ok (.iload_n 2, 1) := by decide +kernel
theorem d_Mo_clash_18 : decode prog_6_method_42_code 18 = .ok (.iconst 1, 1) := by decide +kernel
theorem d_Mo_clash_19 : decode prog_6_method_42_code 19 = .ok (.if_icmp .gt 7, 3) := by decide +kernel
theorem d_Mo_clash_22 : decode prog_6_method_42_code 22 = .ok (.iconst 1, 1) := by decide +kernel
theorem d_Mo_clash_23 : decode prog_6_method_42_code 23 = .ok (.goto 4, 3) := by decide +kernel
theorem d_Mo_clash_26 : decode prog_6_method_42_code 26 = .ok (.iconst 0, 1) := by decide +kernel
theorem d_Mo_clash_27 : decode prog_6_method_42_code 27 = .ok (.invokevirtual 91, 3) := by decide +kernel
theorem d_Mo_clash_30 : decode prog_6_method_42_code 30 = .ok (.ifCond .ne 5, 3) := by decide +kernel
theorem d_Mo_clash_33 : decode prog_6_method_42_code 33 = .ok (.iconst 0, 1) := by decide +kernel
theorem d_Mo_clash_34 : decode prog_6_method_42_code 34 = .ok (.ireturn, 1) := by decide +kernel
theorem d_Mo_clash_35 : decode prog_6_method_42_code 35 = .ok (.iload_n 2, 1) := by decide +kernel
theorem d_Mo_clash_36 : decode prog_6_method_42_code 36 = .ok (.ifCond .ne 12, 3) := by decide +kernel
theorem d_Mo_clash_39 : decode prog_6_method_42_code 39 = .ok (.aload_n 0, 1) := by decide +kernel
theorem d_Mo_clash_40 : decode prog_6_method_42_code 40 = .ok (.getfield 34, 3) := by decide +kernel
theorem d_Mo_clash_43 : decode prog_6_method_42_code 43 = .ok (.iload_n 1, 1) := by decide +kernel
theorem d_Mo_clash_44 : decode prog_6_method_42_code 44 = .ok (.iaload, 1) := by decide +kernel
theorem d_Mo_clash_45 : decode prog_6_method_42_code 45 = .ok (.goto 9, 3) := by decide +kernel
theorem d_Mo_clash_48 : decode prog_6_method_42_code 48 = .ok (.aload_n 0, 1) := by decide +kernel
theorem d_Mo_clash_49 : decode prog_6_method_42_code 49 = .ok (.getfield 37, 3) := by decide +kernel
theorem d_Mo_clash_52 : decode prog_6_method_42_code 52 = .ok (.iload_n 1, 1) := by decide +kernel
theorem d_Mo_clash_53 : decode prog_6_method_42_code 53 = .ok (.iaload, 1) := by decide +kernel
theorem d_Mo_clash_54 : decode prog_6_method_42_code 54 = .ok (.ireturn, 1) := by decide +kernel
def y_Mo_change : MethodName := ⟨"MergeGraphsModel", "change", "(II)I"⟩
abbrev M_Mo_change : zM := (nR4, prog_6_method_43_code, 4, (some .int), 2)
set_option maxRecDepth 100000 in
theorem zk_Mo_change : Cond.code y_Mo_change (M_Mo_change).2.1 (M_Mo_change).2.2.1 (M_Mo_change).2.2.2.1 ∈ zTg := zmem 901 rfl rfl
theorem zy_Mo_change : (y_Mo_change).cls ≠ "java/lang/invoke/MethodHandle" ∧ (y_Mo_change).cls ≠ "java/lang/invoke/VarHandle" ∧ (parseMethodDescriptor (y_Mo_change).desc).map (fun d => d.parameters.length) = some 2 := by decide +kernel
theorem d_Mo_change_0 : decode prog_6_method_43_code 0 = .ok (.aload_n 0, 1) := by decide +kernel
theorem d_Mo_change_1 : decode prog_6_method_43_code 1 = .ok (.iload_n 1, 1) := by decide +kernel
theorem d_Mo_change_2 : decode prog_6_method_43_code 2 = .ok (.invokestatic 68, 3) := by decide +kernel
theorem d_Mo_change_5 : decode prog_6_method_43_code 5 = .ok (.ifCond .eq 14, 3) := by decide +kernel
theorem d_Mo_change_8 : decode prog_6_method_43_code 8 = .ok (.iload_n 2, 1) := by decide +kernel
theorem d_Mo_change_9 : decode prog_6_method_43_code 9 = .ok (.invokestatic 68, 3) := by decide +kernel
theorem d_Mo_change_12 : decode prog_6_method_43_code 12 = .ok (.ifCond .eq 7, 3) := by decide +kernel
theorem d_Mo_change_15 : decode prog_6_method_43_code 15 = .ok (.iconst 1, 1) := by decide +kernel
theorem d_Mo_change_16 : decode prog_6_method_43_code 16 = .ok (.goto 4, 3) := by decide +kernel
theorem d_Mo_change_19 : decode prog_6_method_43_code 19 = .ok (.iconst 0, 1) := by decide +kernel
theorem d_Mo_change_20 : decode prog_6_method_43_code 20 = .ok (.invokevirtual 91, 3) := by decide +kernel
theorem d_Mo_change_23 : decode prog_6_method_43_code 23 = .ok (.ifCond .ne 5, 3) := by decide +kernel
theorem d_Mo_change_26 : decode prog_6_method_43_code 26 = .ok (.iconst 0, 1) := by decide +kernel
theorem d_Mo_change_27 : decode prog_6_method_43_code 27 = .ok (.ireturn, 1) := by decide +kernel
theorem d_Mo_change_28 : decode prog_6_method_43_code 28 = .ok (.aload_n 0, 1) := by decide +kernel
theorem d_Mo_change_29 : decode prog_6_method_43_code 29 = .ok (.iconst 0, 1) := by decide +kernel
theorem d_Mo_change_30 : decode prog_6_method_43_code 30 = .ok (.putfield 150, 3) := by decide +kernel
theorem d_Mo_change_33 : decode prog_6_method_43_code 33 = .ok (.aload_n 0, 1) := by decide +kernel
theorem d_Mo_change_34 : decode prog_6_method_43_code 34 = .ok (.iconst 0, 1) := by decide +kernel
theorem d_Mo_change_35 : decode prog_6_method_43_code 35 = .ok (.putfield 153, 3) := by decide +kernel
theorem d_Mo_change_38 : decode prog_6_method_43_code 38 = .ok (.iconst 0, 1) := by decide +kernel
theorem d_Mo_change_39 : decode prog_6_method_43_code 39 = .ok (.istore_n 3, 1) := by decide +kernel
theorem d_Mo_change_40 : decode prog_6_method_43_code 40 = .ok (.iload_n 3, 1) := by decide +kernel
theorem d_Mo_change_41 : decode prog_6_method_43_code 41 = .ok (.aload_n 0, 1) := by decide +kernel
theorem d_Mo_change_42 : decode prog_6_method_43_code 42 = .ok (.getfield 13, 3) := by decide +kernel
theorem d_Mo_change_45 : decode prog_6_method_43_code 45 = .ok (.iload_n 1, 1) := by decide +kernel
theorem d_Mo_change_46 : decode prog_6_method_43_code 46 = .ok (.iaload, 1) := by decide +kernel
theorem d_Mo_change_47 : decode prog_6_method_43_code 47 = .ok (.if_icmp .ge 48, 3) := by decide +kernel
theorem d_Mo_change_50 : decode prog_6_method_43_code 50 = .ok (.aload_n 0, 1) := by decide +kernel
theorem d_Mo_change_51 : decode prog_6_method_43_code 51 = .ok (.iload_n 2, 1) := by decide +kernel
theorem d_Mo_change_52 : decode prog_6_method_43_code 52 = .ok (.aload_n 0, 1) := by decide +kernel
theorem d_Mo_change_53 : decode prog_6_method_43_code 53 = .ok (.iload_n 1, 1) := by decide +kernel
theorem d_Mo_change_54 : decode prog_6_method_43_code 54 = .ok (.iload_n 3, 1) := by decide +kernel
theorem d_Mo_change_55 : decode prog_6_method_43_code 55 = .ok (.invokevirtual 50, 3) := by decide +kernel
theorem d_Mo_change_58 : decode prog_6_method_43_code 58 = .ok (.invokevirtual 80, 3) := by decide +kernel
theorem d_Mo_change_61 : decode prog_6_method_43_code 61 = .ok (.ifCond .ne 28, 3) := by decide +kernel
theorem d_Mo_change_64 : decode prog_6_method_43_code 64 = .ok (.aload_n 0, 1) := by decide +kernel
theorem d_Mo_change_65 : decode prog_6_method_43_code 65 = .ok (.getfield 40, 3) := by decide +kernel
theorem d_Mo_change_68 : decode prog_6_method_43_code 68 = .ok (.aload_n 0, 1) := by decide +kernel
theorem d_Mo_change_69 : decode prog_6_method_43_code 69 = .ok (.getfield 150, 3) := by decide +kernel
theorem d_Mo_change_72 : decode prog_6_method_43_code 72 = .ok (.aload_n 0, 1) := by decide +kernel
theorem d_Mo_change_73 : decode prog_6_method_43_code 73 = .ok (.iload_n 1, 1) := by decide +kernel
theorem d_Mo_change_74 : decode prog_6_method_43_code 74 = .ok (.iload_n 3, 1) := by decide +kernel
theorem d_Mo_change_75 : decode prog_6_method_43_code 75 = .ok (.invokevirtual 50, 3) := by decide +kernel
theorem d_Mo_change_78 : decode prog_6_method_43_code 78 = .ok (.iastore, 1) := by decide +kernel
theorem d_Mo_change_79 : decode prog_6_method_43_code 79 = .ok (.aload_n 0, 1) := by decide +kernel
theorem d_Mo_change_80 : decode prog_6_method_43_code 80 = .ok (.dup, 1) := by decide +kernel
theorem d_Mo_change_81 : decode prog_6_method_43_code 81 = .ok (.getfield 150, 3) := by decide +kernel
theorem d_Mo_change_84 : decode prog_6_method_43_code 84 = .ok (.iconst 1, 1) := by decide +kernel
theorem d_Mo_change_85 : decode prog_6_method_43_code 85 = .ok (.iadd, 1) := by decide +kernel
theorem d_Mo_change_86 : decode prog_6_method_43_code 86 = .ok (.putfield 150, 3) := by decide +kernel
theorem d_Mo_change_89 : decode prog_6_method_43_code 89 = .ok (.iinc 3 1, 3) := by decide +kernel
theorem d_Mo_change_92 : decode prog_6_method_43_code 92 = .ok (.goto (-52), 3) := by decide +kernel
theorem d_Mo_change_95 : decode prog_6_method_43_code 95 = .ok (.iconst 0, 1) := by decide +kernel
theorem d_Mo_change_96 : decode prog_6_method_43_code 96 = .ok (.istore_n 3, 1) := by decide +kernel
theorem d_Mo_change_97 : decode prog_6_method_43_code 97 = .ok (.iload_n 3, 1) := by decide +kernel
theorem d_Mo_change_98 : decode prog_6_method_43_code 98 = .ok (.aload_n 0, 1) := by decide +kernel
theorem d_Mo_change_99 : decode prog_6_method_43_code 99 = .ok (.getfield 13, 3) := by decide +kernel
theorem d_Mo_change_102 : decode prog_6_method_43_code 102 = .ok (.iload_n 2, 1) := by decide +kernel
theorem d_Mo_change_103 : decode prog_6_method_43_code 103 = .ok (.iaload, 1) := by decide +kernel
theorem d_Mo_change_104 : decode prog_6_method_43_code 104 = .ok (.if_icmp .ge 48, 3) := by decide +kernel
theorem d_Mo_change_107 : decode prog_6_method_43_code 107 = .ok (.aload_n 0, 1) := by decide +kernel
theorem d_Mo_change_108 : decode prog_6_method_43_code 108 = .ok (.iload_n 1, 1) := by decide +kernel
theorem d_Mo_change_109 : decode prog_6_method_43_code 109 = .ok (.aload_n 0, 1) := by decide +kernel
theorem d_Mo_change_110 : decode prog_6_method_43_code 110 = .ok (.iload_n 2, 1) := by decide +kernel
theorem d_Mo_change_111 : decode prog_6_method_43_code 111 = .ok (.iload_n 3, 1) := by decide +kernel
theorem d_Mo_change_112 : decode prog_6_method_43_code 112 = .ok (.invokevirtual 50, 3) := by decide +kernel
theorem d_Mo_change_115 : decode prog_6_method_43_code 115 = .ok (.invokevirtual 80, 3) := by decide +kernel
theorem d_Mo_change_118 : decode prog_6_method_43_code 118 = .ok (.ifCond .ne 28, 3) := by decide +kernel
theorem d_Mo_change_121 : decode prog_6_method_43_code 121 = .ok (.aload_n 0, 1) := by decide +kernel
theorem d_Mo_change_122 : decode prog_6_method_43_code 122 = .ok (.getfield 43, 3) := by decide +kernel
theorem d_Mo_change_125 : decode prog_6_method_43_code 125 = .ok (.aload_n 0, 1) := by decide +kernel
theorem d_Mo_change_126 : decode prog_6_method_43_code 126 = .ok (.getfield 153, 3) := by decide +kernel
theorem d_Mo_change_129 : decode prog_6_method_43_code 129 = .ok (.aload_n 0, 1) := by decide +kernel
theorem d_Mo_change_130 : decode prog_6_method_43_code 130 = .ok (.iload_n 2, 1) := by decide +kernel
theorem d_Mo_change_131 : decode prog_6_method_43_code 131 = .ok (.iload_n 3, 1) := by decide +kernel
theorem d_Mo_change_132 : decode prog_6_method_43_code 132 = .ok (.invokevirtual 50, 3) := by decide +kernel
theorem d_Mo_change_135 : decode prog_6_method_43_code 135 = .ok (.iastore, 1) := by decide +kernel
theorem d_Mo_change_136 : decode prog_6_method_43_code 136 = .ok (.aload_n 0, 1) := by decide +kernel
theorem d_Mo_change_137 : decode prog_6_method_43_code 137 = .ok (.dup, 1) := by decide +kernel
theorem d_Mo_change_138 : decode prog_6_method_43_code 138 = .ok (.getfield 153, 3) := by decide +kernel
theorem d_Mo_change_141 : decode prog_6_method_43_code 141 = .ok (.iconst 1, 1) := by decide +kernel
theorem d_Mo_change_142 : decode prog_6_method_43_code 142 = .ok (.iadd, 1) := by decide +kernel
theorem d_Mo_change_143 : decode prog_6_method_43_code 143 = .ok (.putfield 153, 3) := by decide +kernel
theorem d_Mo_change_146 : decode prog_6_method_43_code 146 = .ok (.iinc 3 1, 3) := by decide +kernel
theorem d_Mo_change_149 : decode prog_6_method_43_code 149 = .ok (.goto (-52), 3) := by decide +kernel
theorem d_Mo_change_152 : decode prog_6_method_43_code 152 = .ok (.aload_n 0, 1) := by decide +kernel
theorem d_Mo_change_153 : decode prog_6_method_43_code 153 = .ok (.getfield 150, 3) := by decide +kernel
theorem d_Mo_change_156 : decode prog_6_method_43_code 156 = .ok (.aload_n 0, 1) := by decide +kernel
theorem d_Mo_change_157 : decode prog_6_method_43_code 157 = .ok (.getfield 153, 3) := by decide +kernel
theorem d_Mo_change_160 : decode prog_6_method_43_code 160 = .ok (.iadd, 1) := by decide +kernel
theorem d_Mo_change_161 : decode prog_6_method_43_code 161 = .ok (.ireturn, 1) := by decide +kernel
theorem zf_Mo_40 : Cond.fieldLink nR4 40 (nT4 17).1 (nT4 17).2.1 (nT4 17).2.2.1 ∈ zTg := zmem 697 (by decide +kernel) (by decide +kernel)
theorem zf_Mo_43 : Cond.fieldLink nR4 43 (nT4 18).1 (nT4 18).2.1 (nT4 18).2.2.1 ∈ zTg := zmem 698 (by decide +kernel) (by decide +kernel)
theorem zf_Mo_150 : Cond.fieldLink nR4 150 (nT4 15).1 (nT4 15).2.1 (nT4 15).2.2.1 ∈ zTg := zmem 695 (by decide +kernel) (by decide +kernel)
theorem zf_Mo_153 : Cond.fieldLink nR4 153 (nT4 16).1 (nT4 16).2.1 (nT4 16).2.2.1 ∈ zTg := zmem 696 (by decide +kernel) (by decide +kernel)
def y_Mo_part : MethodName := ⟨"MergeGraphsModel", "part", "(II)I"⟩
abbrev M_Mo_part : zM := (nR4, prog_6_method_44_code, 3, (some .int), 1)
set_option maxRecDepth 100000 in
theorem zk_Mo_part : Cond.code y_Mo_part (M_Mo_part).2.1 (M_Mo_part).2.2.1 (M_Mo_part).2.2.2.1 ∈ zTg := zmem 905 rfl rfl
theorem zy_Mo_part : (y_Mo_part).cls ≠ "java/lang/invoke/MethodHandle" ∧ (y_Mo_part).cls ≠ "java/lang/invoke/VarHandle" ∧ (parseMethodDescriptor (y_Mo_part).desc).map (fun d => d.parameters.length) = some 2 := by decide +kernel
theorem d_Mo_part_0 : decode prog_6_method_44_code 0 = .ok (.aload_n 0, 1) := by decide +kernel
theorem d_Mo_part_1 : decode prog_6_method_44_code 1 = .ok (.iload_n 1, 1) := by decide +kernel
theorem d_Mo_part_2 : decode prog_6_method_44_code 2 = .ok (.ifCond .lt 16, 3) := by decide +kernel
theorem d_Mo_part_5 : decode prog_6_method_44_code 5 = .ok (.iload_n 1, 1) := by decide +kernel
theorem d_Mo_part_6 : decode prog_6_method_44_code 6 = .ok (.iconst 1, 1) := by decide +kernel
theorem d_Mo_part_7 : decode prog_6_method_44_code 7 = .ok (.if_icmp .gt 11, 3) := by decide +kernel
theorem d_Mo_part_10 : decode prog_6_method_44_code 10 = .ok (.iload_n 2, 1) := by decide +kernel
theorem d_Mo_part_11 : decode prog_6_method_44_code 11 = .ok (.ifCond .lt 7, 3) := by decide +kernel
theorem d_Mo_part_14 : decode prog_6_method_44_code 14 = .ok (.iconst 1, 1) := by decide +kernel
theorem d_Mo_part_15 : decode prog_6_method_44_code 15 = .ok (.goto 4, 3) := by decide +kernel
theorem d_Mo_part_18 : decode prog_6_method_44_code 18 = .ok (.iconst 0, 1) := by decide +kernel
theorem d_Mo_part_19 : decode prog_6_method_44_code 19 = .ok (.invokevirtual 91, 3) := by decide +kernel
theorem d_Mo_part_22 : decode prog_6_method_44_code 22 = .ok (.ifCond .ne 5, 3) := by decide +kernel
theorem d_Mo_part_25 : decode prog_6_method_44_code 25 = .ok (.iconst 0, 1) := by decide +kernel
theorem d_Mo_part_26 : decode prog_6_method_44_code 26 = .ok (.ireturn, 1) := by decide +kernel
theorem d_Mo_part_27 : decode prog_6_method_44_code 27 = .ok (.iload_n 2, 1) := by decide +kernel
theorem d_Mo_part_28 : decode prog_6_method_44_code 28 = .ok (.iload_n 1, 1) := by decide +kernel
theorem d_Mo_part_29 : decode prog_6_method_44_code 29 = .ok (.ifCond .ne 10, 3) := by decide +kernel
theorem d_Mo_part_32 : decode prog_6_method_44_code 32 = .ok (.aload_n 0, 1) := by decide +kernel
theorem d_Mo_part_33 : decode prog_6_method_44_code 33 = .ok (.getfield 150, 3) := by decide +kernel
theorem d_Mo_part_36 : decode prog_6_method_44_code 36 = .ok (.goto 7, 3) := by decide +kernel
theorem d_Mo_part_39 : decode prog_6_method_44_code 39 = .ok (.aload_n 0, 1) := by decide +kernel
theorem d_Mo_part_40 : decode prog_6_method_44_code 40 = .ok (.getfield 153, 3) := by decide +kernel
theorem d_Mo_part_43 : decode prog_6_method_44_code 43 = .ok (.if_icmp .lt 7, 3) := by decide +kernel
theorem d_Mo_part_46 : decode prog_6_method_44_code 46 = .ok (.iconst (-1), 1) := by decide +kernel
theorem d_Mo_part_47 : decode prog_6_method_44_code 47 = .ok (.goto 22, 3) := by decide +kernel
theorem d_Mo_part_50 : decode prog_6_method_44_code 50 = .ok (.iload_n 1, 1) := by decide +kernel
theorem d_Mo_part_51 : decode prog_6_method_44_code 51 = .ok (.ifCond .ne 12, 3) := by decide +kernel
theorem d_Mo_part_54 : decode prog_6_method_44_code 54 = .ok (.aload_n 0, 1) := by decide +kernel
theorem d_Mo_part_55 : decode prog_6_method_44_code 55 = .ok (.getfield 40, 3) := by decide +kernel
theorem d_Mo_part_58 : decode prog_6_method_44_code 58 = .ok (.iload_n 2, 1) := by decide +kernel
theorem d_Mo_part_59 : decode prog_6_method_44_code 59 = .ok (.iaload, 1) := by decide +kernel
theorem d_Mo_part_60 : decode prog_6_method_44_code 60 = .ok (.goto 9, 3) := by decide +kernel
theorem d_Mo_part_63 : decode prog_6_method_44_code 63 = .ok (.aload_n 0, 1) := by decide +kernel
theorem d_Mo_part_64 : decode prog_6_method_44_code 64 = .ok (.getfield 43, 3) := by decide +kernel
theorem d_Mo_part_67 : decode prog_6_method_44_code 67 = .ok (.iload_n 2, 1) := by decide +kernel
theorem d_Mo_part_68 : decode prog_6_method_44_code 68 = .ok (.iaload, 1) := by decide +kernel
theorem d_Mo_part_69 : decode prog_6_method_44_code 69 = .ok (.ireturn, 1) := by decide +kernel
def y_Mo_mayGo : MethodName := ⟨"MergeGraphsModel", "mayGo", "(IZ)Z"⟩
abbrev M_Mo_mayGo : zM := (nR4, prog_6_method_45_code, 5, (some .boolean), 2)
set_option maxRecDepth 100000 in
theorem zk_Mo_mayGo : Cond.code y_Mo_mayGo (M_Mo_mayGo).2.1 (M_Mo_mayGo).2.2.1 (M_Mo_mayGo).2.2.2.1 ∈ zTg := zmem 913 rfl rfl
theorem zy_Mo_mayGo : (y_Mo_mayGo).cls ≠ "java/lang/invoke/MethodHandle" ∧ (y_Mo_mayGo).cls ≠ "java/lang/invoke/VarHandle" ∧ (parseMethodDescriptor (y_Mo_mayGo).desc).map (fun d => d.parameters.length) = some 2 := by decide +kernel
theorem d_Mo_mayGo_0 : decode prog_6_method_45_code 0 = .ok (.iconst 1, 1) := by decide +kernel
theorem d_Mo_mayGo_1 : decode prog_6_method_45_code 1 = .ok (.istore_n 3, 1) := by decide +kernel
theorem d_Mo_mayGo_2 : decode prog_6_method_45_code 2 = .ok (.iconst 0, 1) := by decide +kernel
theorem d_Mo_mayGo_3 : decode prog_6_method_45_code 3 = .ok (.istore 4, 2) := by decide +kernel
theorem d_Mo_mayGo_5 : decode prog_6_method_45_code 5 = .ok (.iload 4, 2) := by decide +kernel
theorem d_Mo_mayGo_7 : decode prog_6_method_45_code 7 = .ok (.aload_n 0, 1) := by decide +kernel
theorem d_Mo_mayGo_8 : decode prog_6_method_45_code 8 = .ok (.getfield 150, 3) := by decide +kernel
theorem d_Mo_mayGo_11 : decode prog_6_method_45_code 11 = .ok (.if_icmp .ge 43, 3) := by decide +kernel
theorem d_Mo_mayGo_14 : decode prog_6_method_45_code 14 = .ok (.iload_n 3, 1) := by decide +kernel
theorem d_Mo_mayGo_15 : decode prog_6_method_45_code 15 = .ok (.ifCond .eq 31, 3) := by decide +kernel
theorem d_Mo_mayGo_18 : decode prog_6_method_45_code 18 = .ok (.aload_n 0, 1) := by decide +kernel
theorem d_Mo_mayGo_19 : decode prog_6_method_45_code 19 = .ok (.iload_n 1, 1) := by decide +kernel
theorem d_Mo_mayGo_20 : decode prog_6_method_45_code 20 = .ok (.aload_n 0, 1) := by decide +kernel
theorem d_Mo_mayGo_21 : decode prog_6_method_45_code 21 = .ok (.getfield 40, 3) := by decide +kernel
theorem d_Mo_mayGo_24 : decode prog_6_method_45_code 24 = .ok (.iload 4, 2) := by decide +kernel
theorem d_Mo_mayGo_26 : decode prog_6_method_45_code 26 = .ok (.iaload, 1) := by decide +kernel
theorem d_Mo_mayGo_27 : decode prog_6_method_45_code 27 = .ok (.invokevirtual 80, 3) := by decide +kernel
theorem d_Mo_mayGo_30 : decode prog_6_method_45_code 30 = .ok (.iload_n 2, 1) := by decide +kernel
theorem d_Mo_mayGo_31 : decode prog_6_method_45_code 31 = .ok (.ifCond .ne 7, 3) := by decide +kernel
theorem d_Mo_mayGo_34 : decode prog_6_method_45_code 34 = .ok (.iconst 1, 1) := by decide +kernel
theorem d_Mo_mayGo_35 : decode prog_6_method_45_code 35 = .ok (.goto 4, 3) := by decide +kernel
theorem d_Mo_mayGo_38 : decode prog_6_method_45_code 38 = .ok (.iconst 0, 1) := by decide +kernel
theorem d_Mo_mayGo_39 : decode prog_6_method_45_code 39 = .ok (.if_icmp .ne 7, 3) := by decide +kernel
theorem d_Mo_mayGo_42 : decode prog_6_method_45_code 42 = .ok (.iconst 1, 1) := by decide +kernel
theorem d_Mo_mayGo_43 : decode prog_6_method_45_code 43 = .ok (.goto 4, 3) := by decide +kernel
theorem d_Mo_mayGo_46 : decode prog_6_method_45_code 46 = .ok (.iconst 0, 1) := by decide +kernel
theorem d_Mo_mayGo_47 : decode prog_6_method_45_code 47 = .ok (.istore_n 3, 1) := by decide +kernel
theorem d_Mo_mayGo_48 : decode prog_6_method_45_code 48 = .ok (.iinc 4 1, 3) := by decide +kernel
theorem d_Mo_mayGo_51 : decode prog_6_method_45_code 51 = .ok (.goto (-46), 3) := by decide +kernel
theorem d_Mo_mayGo_54 : decode prog_6_method_45_code 54 = .ok (.iconst 0, 1) := by decide +kernel
theorem d_Mo_mayGo_55 : decode prog_6_method_45_code 55 = .ok (.istore 4, 2) := by decide +kernel
theorem d_Mo_mayGo_57 : decode prog_6_method_45_code 57 = .ok (.iload 4, 2) := by decide +kernel
theorem d_Mo_mayGo_59 : decode prog_6_method_45_code 59 = .ok (.aload_n 0, 1) := by decide +kernel
theorem d_Mo_mayGo_60 : decode prog_6_method_45_code 60 = .ok (.getfield 153, 3) := by decide +kernel
theorem d_Mo_mayGo_63 : decode prog_6_method_45_code 63 = .ok (.if_icmp .ge 35, 3) := by decide +kernel
theorem d_Mo_mayGo_66 : decode prog_6_method_45_code 66 = .ok (.iload_n 3, 1) := by decide +kernel
theorem d_Mo_mayGo_67 : decode prog_6_method_45_code 67 = .ok (.ifCond .eq 23, 3) := by decide +kernel
theorem d_Mo_mayGo_70 : decode prog_6_method_45_code 70 = .ok (.aload_n 0, 1) := by decide +kernel
theorem d_Mo_mayGo_71 : decode prog_6_method_45_code 71 = .ok (.iload_n 1, 1) := by decide +kernel
theorem d_Mo_mayGo_72 : decode prog_6_method_45_code 72 = .ok (.aload_n 0, 1) := by decide +kernel
theorem d_Mo_mayGo_73 : decode prog_6_method_45_code 73 = .ok (.getfield 43, 3) := by decide +kernel
theorem d_Mo_mayGo_76 : decode prog_6_method_45_code 76 = .ok (.iload 4, 2) := by decide +kernel
theorem d_Mo_mayGo_78 : decode prog_6_method_45_code 78 = .ok (.iaload, 1) := by decide +kernel
theorem d_Mo_mayGo_79 : decode prog_6_method_45_code 79 = .ok (.invokevirtual 80, 3) := by decide +kernel
theorem d_Mo_mayGo_82 : decode prog_6_method_45_code 82 = .ok (.iload_n 2, 1) := by decide +kernel
theorem d_Mo_mayGo_83 : decode prog_6_method_45_code 83 = .ok (.if_icmp .ne 7, 3) := by decide +kernel
theorem d_Mo_mayGo_86 : decode prog_6_method_45_code 86 = .ok (.iconst 1, 1) := by decide +kernel
theorem d_Mo_mayGo_87 : decode prog_6_method_45_code 87 = .ok (.goto 4, 3) := by decide +kernel
theorem d_Mo_mayGo_90 : decode prog_6_method_45_code 90 = .ok (.iconst 0, 1) := by decide +kernel
theorem d_Mo_mayGo_91 : decode prog_6_method_45_code 91 = .ok (.istore_n 3, 1) := by decide +kernel
theorem d_Mo_mayGo_92 : decode prog_6_method_45_code 92 = .ok (.iinc 4 1, 3) := by decide +kernel
theorem d_Mo_mayGo_95 : decode prog_6_method_45_code 95 = .ok (.goto (-38), 3) := by decide +kernel
theorem d_Mo_mayGo_98 : decode prog_6_method_45_code 98 = .ok (.iload_n 3, 1) := by decide +kernel
theorem d_Mo_mayGo_99 : decode prog_6_method_45_code 99 = .ok (.ifCond .eq 44, 3) := by decide +kernel
theorem d_Mo_mayGo_102 : decode prog_6_method_45_code 102 = .ok (.aload_n 0, 1) := by decide +kernel
theorem d_Mo_mayGo_103 : decode prog_6_method_45_code 103 = .ok (.getfield 13, 3) := by decide +kernel
theorem d_Mo_mayGo_106 : decode prog_6_method_45_code 106 = .ok (.iload_n 1, 1) := by decide +kernel
theorem d_Mo_mayGo_107 : decode prog_6_method_45_code 107 = .ok (.iaload, 1) := by decide +kernel
theorem d_Mo_mayGo_108 : decode prog_6_method_45_code 108 = .ok (.iload_n 2, 1) := by decide +kernel
theorem d_Mo_mayGo_109 : decode prog_6_method_45_code 109 = .ok (.ifCond .eq 15, 3) := by decide +kernel
theorem d_Mo_mayGo_112 : decode prog_6_method_45_code 112 = .ok (.aload_n 0, 1) := by decide +kernel
theorem d_Mo_mayGo_113 : decode prog_6_method_45_code 113 = .ok (.getfield 150, 3) := by decide +kernel
theorem d_Mo_mayGo_116 : decode prog_6_method_45_code 116 = .ok (.aload_n 0, 1) := by decide +kernel
theorem d_Mo_mayGo_117 : decode prog_6_method_45_code 117 = .ok (.getfield 153, 3) := by decide +kernel
theorem d_Mo_mayGo_120 : decode prog_6_method_45_code 120 = .ok (.isub, 1) := by decide +kernel
theorem d_Mo_mayGo_121 : decode prog_6_method_45_code 121 = .ok (.goto 12, 3) := by decide +kernel
theorem d_Mo_mayGo_124 : decode prog_6_method_45_code 124 = .ok (.aload_n 0, 1) := by decide +kernel
theorem d_Mo_mayGo_125 : decode prog_6_method_45_code 125 = .ok (.getfield 153, 3) := by decide +kernel
theorem d_Mo_mayGo_128 : decode prog_6_method_45_code 128 = .ok (.aload_n 0, 1) := by decide +kernel
theorem d_Mo_mayGo_129 : decode prog_6_method_45_code 129 = .ok (.getfield 150, 3) := by decide +kernel
theorem d_Mo_mayGo_132 : decode prog_6_method_45_code 132 = .ok (.isub, 1) := by decide +kernel
theorem d_Mo_mayGo_133 : decode prog_6_method_45_code 133 = .ok (.iadd, 1) := by decide +kernel
theorem d_Mo_mayGo_134 : decode prog_6_method_45_code 134 = .ok (.bipush 30, 2) := by decide +kernel
theorem d_Mo_mayGo_136 : decode prog_6_method_45_code 136 = .ok (.if_icmp .gt 7, 3) := by decide +kernel
theorem d_Mo_mayGo_139 : decode prog_6_method_45_code 139 = .ok (.iconst 1, 1) := by decide +kernel
theorem d_Mo_mayGo_140 : decode prog_6_method_45_code 140 = .ok (.goto 4, 3) := by decide +kernel
theorem d_Mo_mayGo_143 : decode prog_6_method_45_code 143 = .ok (.iconst 0, 1) := by decide +kernel
theorem d_Mo_mayGo_144 : decode prog_6_method_45_code 144 = .ok (.ireturn, 1) := by decide +kernel
def y_Mo_apply : MethodName := ⟨"MergeGraphsModel", "apply", "(IZ)I"⟩
abbrev M_Mo_apply : zM := (nR4, prog_6_method_46_code, 7, (some .int), 3)
set_option maxRecDepth 100000 in
theorem zk_Mo_apply : Cond.code y_Mo_apply (M_Mo_apply).2.1 (M_Mo_apply).2.2.1 (M_Mo_apply).2.2.2.1 ∈ zTg := zmem 909 rfl rfl
theorem zy_Mo_apply : (y_Mo_apply).cls ≠ "java/lang/invoke/MethodHandle" ∧ (y_Mo_apply).cls ≠ "java/lang/invoke/VarHandle" ∧ (parseMethodDescriptor (y_Mo_apply).desc).map (fun d => d.parameters.length) = some 2 := by decide +kernel
theorem d_Mo_apply_0 : decode prog_6_method_46_code 0 = .ok (.aload_n 0, 1) := by decide +kernel
theorem d_Mo_apply_1 : decode prog_6_method_46_code 1 = .ok (.iload_n 1, 1) := by decide +kernel
theorem d_Mo_apply_2 : decode prog_6_method_46_code 2 = .ok (.invokestatic 68, 3) := by decide +kernel
theorem d_Mo_apply_5 : decode prog_6_method_46_code 5 = .ok (.invokevirtual 91, 3) := by decide +kernel
theorem d_Mo_apply_8 : decode prog_6_method_46_code 8 = .ok (.ifCond .eq 12, 3) := by decide +kernel
theorem d_Mo_apply_11 : decode prog_6_method_46_code 11 = .ok (.aload_n 0, 1) := by decide +kernel
theorem d_Mo_apply_12 : decode prog_6_method_46_code 12 = .ok (.iload_n 1, 1) := by decide +kernel
theorem d_Mo_apply_13 : decode prog_6_method_46_code 13 = .ok (.iload_n 2, 1) := by decide +kernel
theorem d_Mo_apply_14 : decode prog_6_method_46_code 14 = .ok (.invokevirtual 156, 3) := by decide +kernel
theorem d_Mo_apply_17 : decode prog_6_method_46_code 17 = .ok (.ifCond .ne 5, 3) := by decide +kernel
theorem d_Mo_apply_20 : decode prog_6_method_46_code 20 = .ok (.iconst 0, 1) := by decide +kernel
theorem d_Mo_apply_21 : decode prog_6_method_46_code 21 = .ok (.ireturn, 1) := by decide +kernel
theorem d_Mo_apply_22 : decode prog_6_method_46_code 22 = .ok (.aload_n 0, 1) := by decide +kernel
theorem d_Mo_apply_23 : decode prog_6_method_46_code 23 = .ok (.iconst 0, 1) := by decide +kernel
theorem d_Mo_apply_24 : decode prog_6_method_46_code 24 = .ok (.putfield 54, 3) := by decide +kernel
theorem d_Mo_apply_27 : decode prog_6_method_46_code 27 = .ok (.iconst 0, 1) := by decide +kernel
theorem d_Mo_apply_28 : decode prog_6_method_46_code 28 = .ok (.istore_n 3, 1) := by decide +kernel
theorem d_Mo_apply_29 : decode prog_6_method_46_code 29 = .ok (.iload_n 3, 1) := by decide +kernel
theorem d_Mo_apply_30 : decode prog_6_method_46_code 30 = .ok (.iload_n 2, 1) := by decide +kernel
theorem d_Mo_apply_31 : decode prog_6_method_46_code 31 = .ok (.ifCond .eq 10, 3) := by decide +kernel
theorem d_Mo_apply_34 : decode prog_6_method_46_code 34 = .ok (.aload_n 0, 1) := by decide +kernel
theorem d_Mo_apply_35 : decode prog_6_method_46_code 35 = .ok (.getfield 150, 3) := by decide +kernel
theorem d_Mo_apply_38 : decode prog_6_method_46_code 38 = .ok (.goto 7, 3) := by decide +kernel
theorem d_Mo_apply_41 : decode prog_6_method_46_code 41 = .ok (.aload_n 0, 1) := by decide +kernel
theorem d_Mo_apply_42 : decode prog_6_method_46_code 42 = .ok (.getfield 153, 3) := by decide +kernel
theorem d_Mo_apply_45 : decode prog_6_method_46_code 45 = .ok (.if_icmp .ge 32, 3) := by decide +kernel
theorem d_Mo_apply_48 : decode prog_6_method_46_code 48 = .ok (.aload_n 0, 1) := by decide +kernel
theorem d_Mo_apply_49 : decode prog_6_method_46_code 49 = .ok (.iload_n 2, 1) := by decide +kernel
theorem d_Mo_apply_50 : decode prog_6_method_46_code 50 = .ok (.ifCond .eq 12, 3) := by decide +kernel
theorem d_Mo_apply_53 : decode prog_6_method_46_code 53 = .ok (.aload_n 0, 1) := by decide +kernel
theorem d_Mo_apply_54 : decode prog_6_method_46_code 54 = .ok (.getfield 40, 3) := by decide +kernel
theorem d_Mo_apply_57 : decode prog_6_method_46_code 57 = .ok (.iload_n 3, 1) := by decide +kernel
theorem d_Mo_apply_58 : decode prog_6_method_46_code 58 = .ok (.iaload, 1) := by decide +kernel
theorem d_Mo_apply_59 : decode prog_6_method_46_code 59 = .ok (.goto 9, 3) := by decide +kernel
theorem d_Mo_apply_62 : decode prog_6_method_46_code 62 = .ok (.aload_n 0, 1) := by decide +kernel
theorem d_Mo_apply_63 : decode prog_6_method_46_code 63 = .ok (.getfield 43, 3) := by decide +kernel
theorem d_Mo_apply_66 : decode prog_6_method_46_code 66 = .ok (.iload_n 3, 1) := by decide +kernel
theorem d_Mo_apply_67 : decode prog_6_method_46_code 67 = .ok (.iaload, 1) := by decide +kernel
theorem d_Mo_apply_68 : decode prog_6_method_46_code 68 = .ok (.invokevirtual 84, 3) := by decide +kernel
theorem d_Mo_apply_71 : decode prog_6_method_46_code 71 = .ok (.iinc 3 1, 3) := by decide +kernel
theorem d_Mo_apply_74 : decode prog_6_method_46_code 74 = .ok (.goto (-45), 3) := by decide +kernel
theorem d_Mo_apply_77 : decode prog_6_method_46_code 77 = .ok (.iconst 0, 1) := by decide +kernel
theorem d_Mo_apply_78 : decode prog_6_method_46_code 78 = .ok (.istore_n 3, 1) := by decide +kernel
theorem d_Mo_apply_79 : decode prog_6_method_46_code 79 = .ok (.iload_n 3, 1) := by decide +kernel
theorem d_Mo_apply_80 : decode prog_6_method_46_code 80 = .ok (.aload_n 0, 1) := by decide +kernel
theorem d_Mo_apply_81 : decode prog_6_method_46_code 81 = .ok (.getfield 13, 3) := by decide +kernel
theorem d_Mo_apply_84 : decode prog_6_method_46_code 84 = .ok (.iload_n 1, 1) := by decide +kernel
theorem d_Mo_apply_85 : decode prog_6_method_46_code 85 = .ok (.iaload, 1) := by decide +kernel
theorem d_Mo_apply_86 : decode prog_6_method_46_code 86 = .ok (.if_icmp .ge 98, 3) := by decide +kernel
theorem d_Mo_apply_89 : decode prog_6_method_46_code 89 = .ok (.aload_n 0, 1) := by decide +kernel
theorem d_Mo_apply_90 : decode prog_6_method_46_code 90 = .ok (.iload_n 1, 1) := by decide +kernel
theorem d_Mo_apply_91 : decode prog_6_method_46_code 91 = .ok (.iload_n 3, 1) := by decide +kernel
theorem d_Mo_apply_92 : decode prog_6_method_46_code 92 = .ok (.invokevirtual 50, 3) := by decide +kernel
theorem d_Mo_apply_95 : decode prog_6_method_46_code 95 = .ok (.istore 4, 2) := by decide +kernel
theorem d_Mo_apply_97 : decode prog_6_method_46_code 97 = .ok (.iconst 0, 1) := by decide +kernel
theorem d_Mo_apply_98 : decode prog_6_method_46_code 98 = .ok (.istore 5, 2) := by decide +kernel
theorem d_Mo_apply_100 : decode prog_6_method_46_code 100 = .ok (.iconst 0, 1) := by decide +kernel
theorem d_Mo_apply_101 : decode prog_6_method_46_code 101 = .ok (.istore 6, 2) := by decide +kernel
theorem d_Mo_apply_103 : decode prog_6_method_46_code 103 = .ok (.iload 6, 2) := by decide +kernel
theorem d_Mo_apply_105 : decode prog_6_method_46_code 105 = .ok (.iload_n 2, 1) := by decide +kernel
theorem d_Mo_apply_106 : decode prog_6_method_46_code 106 = .ok (.ifCond .eq 10, 3) := by decide +kernel
theorem d_Mo_apply_109 : decode prog_6_method_46_code 109 = .ok (.aload_n 0, 1) := by decide +kernel
theorem d_Mo_apply_110 : decode prog_6_method_46_code 110 = .ok (.getfield 153, 3) := by decide +kernel
theorem d_Mo_apply_113 : decode prog_6_method_46_code 113 = .ok (.goto 7, 3) := by decide +kernel
theorem d_Mo_apply_116 : decode prog_6_method_46_code 116 = .ok (.aload_n 0, 1) := by decide +kernel
theorem d_Mo_apply_117 : decode prog_6_method_46_code 117 = .ok (.getfield 150, 3) := by decide +kernel
theorem d_Mo_apply_120 : decode prog_6_method_46_code 120 = .ok (.if_icmp .ge 47, 3) := by decide +kernel
theorem d_Mo_apply_123 : decode prog_6_method_46_code 123 = .ok (.iload 5, 2) := by decide +kernel
theorem d_Mo_apply_125 : decode prog_6_method_46_code 125 = .ok (.ifCond .ne 29, 3) := by decide +kernel
theorem d_Mo_apply_128 : decode prog_6_method_46_code 128 = .ok (.iload 4, 2) := by decide +kernel
theorem d_Mo_apply_130 : decode prog_6_method_46_code 130 = .ok (.iload_n 2, 1) := by decide +kernel
theorem d_Mo_apply_131 : decode prog_6_method_46_code 131 = .ok (.ifCond .eq 13, 3) := by decide +kernel
theorem d_Mo_apply_134 : decode prog_6_method_46_code 134 = .ok (.aload_n 0, 1) := by decide +kernel
theorem d_Mo_apply_135 : decode prog_6_method_46_code 135 = .ok (.getfield 43, 3) := by decide +kernel
theorem d_Mo_apply_138 : decode prog_6_method_46_code 138 = .ok (.iload 6, 2) := by decide +kernel
theorem d_Mo_apply_140 : decode prog_6_method_46_code 140 = .ok (.iaload, 1) := by decide +kernel
theorem d_Mo_apply_141 : decode prog_6_method_46_code 141 = .ok (.goto 10, 3) := by decide +kernel
theorem d_Mo_apply_144 : decode prog_6_method_46_code 144 = .ok (.aload_n 0, 1) := by decide +kernel
theorem d_Mo_apply_145 : decode prog_6_method_46_code 145 = .ok (.getfield 40, 3) := by decide +kernel
theorem d_Mo_apply_148 : decode prog_6_method_46_code 148 = .ok (.iload 6, 2) := by decide +kernel
theorem d_Mo_apply_150 : decode prog_6_method_46_code 150 = .ok (.iaload, 1) := by decide +kernel
theorem d_Mo_apply_151 : decode prog_6_method_46_code 151 = .ok (.if_icmp .ne 7, 3) := by decide +kernel
theorem d_Mo_apply_154 : decode prog_6_method_46_code 154 = .ok (.iconst 1, 1) := by decide +kernel
theorem d_Mo_apply_155 : decode prog_6_method_46_code 155 = .ok (.goto 4, 3) := by decide +kernel
theorem d_Mo_apply_158 : decode prog_6_method_46_code 158 = .ok (.iconst 0, 1) := by decide +kernel
theorem d_Mo_apply_159 : decode prog_6_method_46_code 159 = .ok (.istore 5, 2) := by decide +kernel
theorem d_Mo_apply_161 : decode prog_6_method_46_code 161 = .ok (.iinc 6 1, 3) := by decide +kernel
theorem d_Mo_apply_164 : decode prog_6_method_46_code 164 = .ok (.goto (-61), 3) := by decide +kernel
theorem d_Mo_apply_167 : decode prog_6_method_46_code 167 = .ok (.iload 5, 2) := by decide +kernel
theorem d_Mo_apply_169 : decode prog_6_method_46_code 169 = .ok (.ifCond .ne 9, 3) := by decide +kernel
theorem d_Mo_apply_172 : decode prog_6_method_46_code 172 = .ok (.aload_n 0, 1) := by decide +kernel
theorem d_Mo_apply_173 : decode prog_6_method_46_code 173 = .ok (.iload 4, 2) := by decide +kernel
theorem d_Mo_apply_175 : decode prog_6_method_46_code 175 = .ok (.invokevirtual 84, 3) := by decide +kernel
theorem d_Mo_apply_178 : decode prog_6_method_46_code 178 = .ok (.iinc 3 1, 3) := by decide +kernel
theorem d_Mo_apply_181 : decode prog_6_method_46_code 181 = .ok (.goto (-102), 3) := by decide +kernel
theorem d_Mo_apply_184 : decode prog_6_method_46_code 184 = .ok (.aload_n 0, 1) := by decide +kernel
theorem d_Mo_apply_185 : decode prog_6_method_46_code 185 = .ok (.iload_n 1, 1) := by decide +kernel
theorem d_Mo_apply_186 : decode prog_6_method_46_code 186 = .ok (.invokevirtual 88, 3) := by decide +kernel
theorem d_Mo_apply_189 : decode prog_6_method_46_code 189 = .ok (.iconst 1, 1) := by decide +kernel
theorem d_Mo_apply_190 : decode prog_6_method_46_code 190 = .ok (.ireturn, 1) := by decide +kernel
theorem zt_46 : (Cond.selects "MergeGraphsModel" (⟨"MergeGraphsModel", "mayGo", "(IZ)Z"⟩ : MethodName) (⟨"MergeGraphsModel", "mayGo", "(IZ)Z"⟩ : MethodName)) ∈ zTg := zmem 46 (by decide +kernel) (by decide +kernel)
theorem zt_910 : (Cond.methodLink "MergeGraphsModel" (156 : Nat) (⟨"MergeGraphsModel", "mayGo", "(IZ)Z"⟩ : MethodName)) ∈ zTg := zmem 910 (by decide +kernel) (by decide +kernel)
theorem zt_912 : (Cond.instanceMethod (⟨"MergeGraphsModel", "mayGo", "(IZ)Z"⟩ : MethodName)) ∈ zTg := zmem 912 (by decide +kernel) (by decide +kernel)
def f_Mo_search_b217 (G : Nat) (h : pH) : Option pR := (if isZ (1 : Int32) = true then some (some (.int (1 : Int32)), h) else none)
theorem f_Mo_search_b217_eq (G : Nat) (h : pH) : f_Mo_search_b217 G h = ((if isZ (1 : Int32) = true then some (some (.int (1 : Int32)), h) else none)) := rfl
def f_Mo_search_b193 (G : Nat) (k219 : Nat → Int32 → Int32 → Int32 → Int32 → pH → Option pR) (x0 : Nat) (x1 : Int32) (x2 : Int32) (x3 : Int32) (x4 : Int32) (x5 : Int32) (h : pH) : Option pR := if x5 = 0 then (k219 x0 x1 x2 x3 x4 h) else (if x3 = (2 : Int32) then (cI (oC h x0 4) (f_Mo_imageSize G x0 x1 h) fun v43 h40 => (gR h40 x0 4 2).bind fun v44 => (aI h40 v44 x1).bind fun v45 => if v45 ≤ v43 then (k219 x0 x1 x2 x3 x4 h40) else ((f_Mo_search_b217 G) h40)) else ((f_Mo_search_b217 G) h))
theorem f_Mo_search_b193_eq (G : Nat) (k219 : Nat → Int32 → Int32 → Int32 → Int32 → pH → Option pR) (x0 : Nat) (x1 : Int32) (x2 : Int32) (x3 : Int32) (x4 : Int32) (x5 : Int32) (h : pH) : f_Mo_search_b193 G k219 x0 x1 x2 x3 x4 x5 h = (if x5 = 0 then (k219 x0 x1 x2 x3 x4 h) else (if x3 = (2 : Int32) then (cI (oC h x0 4) (f_Mo_imageSize G x0 x1 h) fun v43 h40 => (gR h40 x0 4 2).bind fun v44 => (aI h40 v44 x1).bind fun v45 => if v45 ≤ v43 then (k219 x0 x1 x2 x3 x4 h40) else ((f_Mo_search_b217 G) h40)) else ((f_Mo_search_b217 G) h))) := rfl
def f_Mo_search_b219 (G : Nat) (k77 : Nat → Int32 → Int32 → Int32 → Int32 → pH → Option pR) (x0 : Nat) (x1 : Int32) (x2 : Int32) (x3 : Int32) (x4 : Int32) (h : pH) : Option pR := k77 x0 x1 x2 x3 x4 h
theorem f_Mo_search_b219_eq (G : Nat) (k77 : Nat → Int32 → Int32 → Int32 → Int32 → pH → Option pR) (x0 : Nat) (x1 : Int32) (x2 : Int32) (x3 : Int32) (x4 : Int32) (h : pH) : f_Mo_search_b219 G k77 x0 x1 x2 x3 x4 h = (k77 x0 x1 x2 x3 x4 h) := rfl
def f_Mo_search_b145 (G : Nat) (k160 : Nat → Int32 → Int32 → Int32 → Int32 → pH → Option pR) (k161 : Nat → Int32 → Int32 → Int32 → Int32 → Int32 → pH → Option pR) (x0 : Nat) (x1 : Int32) (x2 : Int32) (x3 : Int32) (x4 : Int32) (h : pH) : Option pR := cI (oC h x0 4) (f_Mo_areThere G x0 x1 x4 x2 h) fun v39 h36 => if v39 = 0 then (k160 x0 x1 x2 x3 x4 h36) else (k161 x0 x1 x2 x3 x4 (1 : Int32) h36)
theorem f_Mo_search_b145_eq (G : Nat) (k160 : Nat → Int32 → Int32 → Int32 → Int32 → pH → Option pR) (k161 : Nat → Int32 → Int32 → Int32 → Int32 → Int32 → pH → Option pR) (x0 : Nat) (x1 : Int32) (x2 : Int32) (x3 : Int32) (x4 : Int32) (h : pH) : f_Mo_search_b145 G k160 k161 x0 x1 x2 x3 x4 h = (cI (oC h x0 4) (f_Mo_areThere G x0 x1 x4 x2 h) fun v39 h36 => if v39 = 0 then (k160 x0 x1 x2 x3 x4 h36) else (k161 x0 x1 x2 x3 x4 (1 : Int32) h36)) := rfl
def f_Mo_search_b160 (G : Nat) (k161 : Nat → Int32 → Int32 → Int32 → Int32 → Int32 → pH → Option pR) (x0 : Nat) (x1 : Int32) (x2 : Int32) (x3 : Int32) (x4 : Int32) (h : pH) : Option pR := k161 x0 x1 x2 x3 x4 (0 : Int32) h
theorem f_Mo_search_b160_eq (G : Nat) (k161 : Nat → Int32 → Int32 → Int32 → Int32 → Int32 → pH → Option pR) (x0 : Nat) (x1 : Int32) (x2 : Int32) (x3 : Int32) (x4 : Int32) (h : pH) : f_Mo_search_b160 G k161 x0 x1 x2 x3 x4 h = (k161 x0 x1 x2 x3 x4 (0 : Int32) h) := rfl
def f_Mo_search_b161 (G : Nat) (k77 : Nat → Int32 → Int32 → Int32 → Int32 → pH → Option pR) (x0 : Nat) (x1 : Int32) (x2 : Int32) (x3 : Int32) (x4 : Int32) (s0 : Int32) (h : pH) : Option pR := if s0 = 0 then ((f_Mo_search_b193 G (f_Mo_search_b219 G k77)) x0 x1 x2 x3 x4 s0 h) else ((gI h x0 4 7).bind fun v33 => if v33 ≤ (x4 + (1 : Int32)) then ((f_Mo_search_b193 G (f_Mo_search_b219 G k77)) x0 x1 x2 x3 x4 s0 h) else ((gR h x0 4 10).bind fun v34 => (sI h v34 (x4 + 1) (-1 : Int32)).bind fun h35 => (f_Mo_search_b219 G k77) x0 x1 x2 x3 (x4 + 1) h35))
theorem f_Mo_search_b161_eq (G : Nat) (k77 : Nat → Int32 → Int32 → Int32 → Int32 → pH → Option pR) (x0 : Nat) (x1 : Int32) (x2 : Int32) (x3 : Int32) (x4 : Int32) (s0 : Int32) (h : pH) : f_Mo_search_b161 G k77 x0 x1 x2 x3 x4 s0 h = (if s0 = 0 then ((f_Mo_search_b193 G (f_Mo_search_b219 G k77)) x0 x1 x2 x3 x4 s0 h) else ((gI h x0 4 7).bind fun v33 => if v33 ≤ (x4 + (1 : Int32)) then ((f_Mo_search_b193 G (f_Mo_search_b219 G k77)) x0 x1 x2 x3 x4 s0 h) else ((gR h x0 4 10).bind fun v34 => (sI h v34 (x4 + 1) (-1 : Int32)).bind fun h35 => (f_Mo_search_b219 G k77) x0 x1 x2 x3 (x4 + 1) h35))) := rfl
def f_Mo_search_b66 (G : Nat) (s0 : Int32) (h : pH) : Option pR := (if isZ s0 = true then some (some (.int s0), h) else none)
theorem f_Mo_search_b66_eq (G : Nat) (s0 : Int32) (h : pH) : f_Mo_search_b66 G s0 h = ((if isZ s0 = true then some (some (.int s0), h) else none)) := rfl
def f_Mo_search_b77 (G : Nat) : Nat → Nat → Int32 → Int32 → Int32 → Int32 → pH → Option pR
  | 0 => fun _ _ _ _ _ _ => none
  | F + 1 => fun x0 x1 x2 x3 x4 h => if x4 < 0 then ((if isZ (0 : Int32) = true then some (some (.int (0 : Int32)), h) else none)) else ((gR h x0 4 10).bind fun v17 => (aI h v17 x4).bind fun v18 => (sI h v17 x4 (v18 + (1 : Int32))).bind fun h19 => (gR h19 x0 4 10).bind fun v20 => (aI h19 v20 x4).bind fun v21 => (gI h19 x0 4 9).bind fun v22 => if v21 = v22 then ((f_Mo_search_b77 G F) x0 x1 x2 x3 (x4 + (-1)) h19) else ((gR h19 x0 4 11).bind fun v23 => (gR h19 x0 4 8).bind fun v24 => (gR h19 x0 4 10).bind fun v25 => (aI h19 v25 x4).bind fun v26 => (aI h19 v24 v26).bind fun v27 => (sI h19 v23 x4 v27).bind fun h28 => if x3 = 0 then (cI (oC h28 x0 4) (f_Mo_isNew G x0 x4 h28) fun v32 h29 => if v32 = 0 then ((f_Mo_search_b160 G (f_Mo_search_b161 G (f_Mo_search_b77 G F))) x0 x1 x2 x3 x4 h29) else ((f_Mo_search_b145 G (f_Mo_search_b160 G (f_Mo_search_b161 G (f_Mo_search_b77 G F))) (f_Mo_search_b161 G (f_Mo_search_b77 G F))) x0 x1 x2 x3 x4 h29)) else ((f_Mo_search_b145 G (f_Mo_search_b160 G (f_Mo_search_b161 G (f_Mo_search_b77 G F))) (f_Mo_search_b161 G (f_Mo_search_b77 G F))) x0 x1 x2 x3 x4 h28)))
theorem f_Mo_search_b77_eq (G : Nat) (F : Nat) (x0 : Nat) (x1 : Int32) (x2 : Int32) (x3 : Int32) (x4 : Int32) (h : pH) : f_Mo_search_b77 G (F + 1) x0 x1 x2 x3 x4 h = (if x4 < 0 then ((if isZ (0 : Int32) = true then some (some (.int (0 : Int32)), h) else none)) else ((gR h x0 4 10).bind fun v17 => (aI h v17 x4).bind fun v18 => (sI h v17 x4 (v18 + (1 : Int32))).bind fun h19 => (gR h19 x0 4 10).bind fun v20 => (aI h19 v20 x4).bind fun v21 => (gI h19 x0 4 9).bind fun v22 => if v21 = v22 then ((f_Mo_search_b77 G F) x0 x1 x2 x3 (x4 + (-1)) h19) else ((gR h19 x0 4 11).bind fun v23 => (gR h19 x0 4 8).bind fun v24 => (gR h19 x0 4 10).bind fun v25 => (aI h19 v25 x4).bind fun v26 => (aI h19 v24 v26).bind fun v27 => (sI h19 v23 x4 v27).bind fun h28 => if x3 = 0 then (cI (oC h28 x0 4) (f_Mo_isNew G x0 x4 h28) fun v32 h29 => if v32 = 0 then ((f_Mo_search_b160 G (f_Mo_search_b161 G (f_Mo_search_b77 G F))) x0 x1 x2 x3 x4 h29) else ((f_Mo_search_b145 G (f_Mo_search_b160 G (f_Mo_search_b161 G (f_Mo_search_b77 G F))) (f_Mo_search_b161 G (f_Mo_search_b77 G F))) x0 x1 x2 x3 x4 h29)) else ((f_Mo_search_b145 G (f_Mo_search_b160 G (f_Mo_search_b161 G (f_Mo_search_b77 G F))) (f_Mo_search_b161 G (f_Mo_search_b77 G F))) x0 x1 x2 x3 x4 h28)))) := rfl
def f_Mo_search_b37 (G : Nat) (k47 : pH → Option pR) (x0 : Nat) (x1 : Int32) (x2 : Int32) (x3 : Int32) (h : pH) : Option pR := cI (oC h x0 4) (f_Mo_areThere G x0 x1 (-1 : Int32) x2 h) fun v13 h10 => if v13 = 0 then (k47 h10) else ((gI h10 x0 4 7).bind fun v14 => if v14 = 0 then (if x3 = (2 : Int32) then ((f_Mo_search_b66 G) (0 : Int32) h10) else ((f_Mo_search_b66 G) (1 : Int32) h10)) else ((gR h10 x0 4 10).bind fun v15 => (sI h10 v15 (0 : Int32) (-1 : Int32)).bind fun h16 => (f_Mo_search_b77 G G) x0 x1 x2 x3 (0 : Int32) h16))
theorem f_Mo_search_b37_eq (G : Nat) (k47 : pH → Option pR) (x0 : Nat) (x1 : Int32) (x2 : Int32) (x3 : Int32) (h : pH) : f_Mo_search_b37 G k47 x0 x1 x2 x3 h = (cI (oC h x0 4) (f_Mo_areThere G x0 x1 (-1 : Int32) x2 h) fun v13 h10 => if v13 = 0 then (k47 h10) else ((gI h10 x0 4 7).bind fun v14 => if v14 = 0 then (if x3 = (2 : Int32) then ((f_Mo_search_b66 G) (0 : Int32) h10) else ((f_Mo_search_b66 G) (1 : Int32) h10)) else ((gR h10 x0 4 10).bind fun v15 => (sI h10 v15 (0 : Int32) (-1 : Int32)).bind fun h16 => (f_Mo_search_b77 G G) x0 x1 x2 x3 (0 : Int32) h16))) := rfl
def f_Mo_search_b47 (G : Nat) (h : pH) : Option pR := (if isZ (0 : Int32) = true then some (some (.int (0 : Int32)), h) else none)
theorem f_Mo_search_b47_eq (G : Nat) (h : pH) : f_Mo_search_b47 G h = ((if isZ (0 : Int32) = true then some (some (.int (0 : Int32)), h) else none)) := rfl
def f_Mo_search (G : Nat) (x0 : Nat) (x1 : Int32) (x2 : Int32) (x3 : Int32) (h : pH) : Option pR := cV (oC h x0 4) (f_Mo_prepare G x0 x1 x2 x3 h) fun h1 => if x3 = 0 then ((gI h1 x0 4 7).bind fun v4 => (gI h1 x0 4 9).bind fun v5 => if v4 = v5 then ((gR h1 x0 4 2).bind fun v6 => (aI h1 v6 x1).bind fun v7 => (gR h1 x0 4 2).bind fun v8 => (aI h1 v8 x2).bind fun v9 => if v7 = v9 then ((f_Mo_search_b37 G (f_Mo_search_b47 G)) x0 x1 x2 x3 h1) else ((f_Mo_search_b47 G) h1)) else ((f_Mo_search_b47 G) h1)) else ((f_Mo_search_b37 G (f_Mo_search_b47 G)) x0 x1 x2 x3 h1)
theorem f_Mo_search_eq (G : Nat) (x0 : Nat) (x1 : Int32) (x2 : Int32) (x3 : Int32) (h : pH) : f_Mo_search G x0 x1 x2 x3 h = (cV (oC h x0 4) (f_Mo_prepare G x0 x1 x2 x3 h) fun h1 => if x3 = 0 then ((gI h1 x0 4 7).bind fun v4 => (gI h1 x0 4 9).bind fun v5 => if v4 = v5 then ((gR h1 x0 4 2).bind fun v6 => (aI h1 v6 x1).bind fun v7 => (gR h1 x0 4 2).bind fun v8 => (aI h1 v8 x2).bind fun v9 => if v7 = v9 then ((f_Mo_search_b37 G (f_Mo_search_b47 G)) x0 x1 x2 x3 h1) else ((f_Mo_search_b47 G) h1)) else ((f_Mo_search_b47 G) h1)) else ((f_Mo_search_b37 G (f_Mo_search_b47 G)) x0 x1 x2 x3 h1)) := rfl
set_option maxRecDepth 100000 in
set_option maxHeartbeats 4000000 in
theorem w_Mo_search_b217 {X : zX} {r : pR} {G : Nat} (hQ : zQ X r) : ∀ (h : pH), f_Mo_search_b217 G h = some r → Z X M_Mo_search 0 0 h 217 [] [] := by
  intro h E
  rw [f_Mo_search_b217_eq] at E
  refine z_iconst (v := (1 : Int32)) d_Mo_search_217 (by decide) ?_
  exact z_zreturn hQ rfl z00 d_Mo_search_218 E
set_option maxRecDepth 100000 in
set_option maxHeartbeats 4000000 in
theorem w_Mo_search_b193 {X : zX} {r : pR} {G : Nat} {k219 : Nat → Int32 → Int32 → Int32 → Int32 → pH → Option pR} (hQ : zQ X r) (hk219 : ∀ (x0 : Nat) (x1 : Int32) (x2 : Int32) (x3 : Int32) (x4 : Int32) (h : pH), k219 x0 x1 x2 x3 x4 h = some r → Z X M_Mo_search 0 0 h 219 [(0, .ref x0), (1, .int x1), (2, .int x2), (3, .int x3), (4, .int x4)] []) : ∀ (x0 : Nat) (x1 : Int32) (x2 : Int32) (x3 : Int32) (x4 : Int32) (x5 : Int32) (h : pH), f_Mo_search_b193 G k219 x0 x1 x2 x3 x4 x5 h = some r → Z X M_Mo_search 0 0 h 193 [(0, .ref x0), (1, .int x1), (2, .int x2), (3, .int x3), (4, .int x4), (5, .int x5)] [] := by
  intro x0 x1 x2 x3 x4 x5 h E
  rw [f_Mo_search_b193_eq] at E
  refine z_iload 5 d_Mo_search_193 rfl ?_
  refine z_if_eq (y := 0) (tgt := 219) d_Mo_search_195 (by decide) E (fun E => ?_) (fun E => ?_)
  · refine z_lv [0, 1, 2, 3, 4] rfl ?_
    exact hk219 x0 x1 x2 x3 x4 h E
  · refine z_iload_n 3 d_Mo_search_198 rfl rfl ?_
    refine z_iconst (v := (2 : Int32)) d_Mo_search_199 (by decide) ?_
    refine z_ic_ne (tgt := 217) d_Mo_search_200 (by decide) E (fun E => ?_) (fun E => ?_)
    · refine z_lv [] rfl ?_
      exact (w_Mo_search_b217 hQ) h E
    · refine z_aload_n 0 d_Mo_search_203 rfl rfl ?_
      refine z_iload_n 1 d_Mo_search_204 rfl rfl ?_
      obtain ⟨g41, v43, h40, e42, E⟩ := cI_some E
      refine z_invV (ci := 4) (y := y_Mo_imageSize) (Mc := M_Mo_imageSize) (av := [.int x1]) (rest := []) rfl rfl ⟨zt_842, zt_844, zt_41, zt_52⟩ zk_Mo_imageSize zy_Mo_imageSize (by decide) (Nat.le_of_ble_eq_true rfl) z00 rfl (Nat.le_of_ble_eq_true rfl) d_Mo_search_205 g41 (m_Mo_imageSize e42) ?_
      show Z X M_Mo_search 0 0 h40 208 [(0, .ref x0), (1, .int x1), (2, .int x2), (3, .int x3), (4, .int x4), (5, .int x5)] [.int v43]
      refine z_aload_n 0 d_Mo_search_208 rfl rfl ?_
      refine z_getR (ci := 4) (j := 2) rfl (by decide) zf_Mo_13 d_Mo_search_209 E (fun v44 _ E => ?_)
      refine z_iload_n 1 d_Mo_search_212 rfl rfl ?_
      refine z_iaload d_Mo_search_213 E (fun v45 _ E => ?_)
      refine z_ic_ge (tgt := 219) d_Mo_search_214 (by decide) E (fun E => ?_) (fun E => ?_)
      · refine z_lv [0, 1, 2, 3, 4] rfl ?_
        exact hk219 x0 x1 x2 x3 x4 h40 E
      · refine z_lv [] rfl ?_
        exact (w_Mo_search_b217 hQ) h40 E
set_option maxRecDepth 100000 in
set_option maxHeartbeats 4000000 in
theorem w_Mo_search_b219 {X : zX} {r : pR} {G : Nat} {k77 : Nat → Int32 → Int32 → Int32 → Int32 → pH → Option pR} (hQ : zQ X r) (hk77 : ∀ (x0 : Nat) (x1 : Int32) (x2 : Int32) (x3 : Int32) (x4 : Int32) (h : pH), k77 x0 x1 x2 x3 x4 h = some r → Z X M_Mo_search 0 0 h 77 [(0, .ref x0), (1, .int x1), (2, .int x2), (3, .int x3), (4, .int x4)] []) : ∀ (x0 : Nat) (x1 : Int32) (x2 : Int32) (x3 : Int32) (x4 : Int32) (h : pH), f_Mo_search_b219 G k77 x0 x1 x2 x3 x4 h = some r → Z X M_Mo_search 0 0 h 219 [(0, .ref x0), (1, .int x1), (2, .int x2), (3, .int x3), (4, .int x4)] [] := by
  intro x0 x1 x2 x3 x4 h E
  rw [f_Mo_search_b219_eq] at E
  refine z_goto (tgt := 77) d_Mo_search_219 (by decide) ?_
  exact hk77 x0 x1 x2 x3 x4 h E
set_option maxRecDepth 100000 in
set_option maxHeartbeats 4000000 in
theorem w_Mo_search_b145 {X : zX} {r : pR} {G : Nat} {k160 : Nat → Int32 → Int32 → Int32 → Int32 → pH → Option pR} {k161 : Nat → Int32 → Int32 → Int32 → Int32 → Int32 → pH → Option pR} (hQ : zQ X r) (hk160 : ∀ (x0 : Nat) (x1 : Int32) (x2 : Int32) (x3 : Int32) (x4 : Int32) (h : pH), k160 x0 x1 x2 x3 x4 h = some r → Z X M_Mo_search 0 0 h 160 [(0, .ref x0), (1, .int x1), (2, .int x2), (3, .int x3), (4, .int x4)] []) (hk161 : ∀ (x0 : Nat) (x1 : Int32) (x2 : Int32) (x3 : Int32) (x4 : Int32) (s0 : Int32) (h : pH), k161 x0 x1 x2 x3 x4 s0 h = some r → Z X M_Mo_search 0 0 h 161 [(0, .ref x0), (1, .int x1), (2, .int x2), (3, .int x3), (4, .int x4)] [.int s0]) : ∀ (x0 : Nat) (x1 : Int32) (x2 : Int32) (x3 : Int32) (x4 : Int32) (h : pH), f_Mo_search_b145 G k160 k161 x0 x1 x2 x3 x4 h = some r → Z X M_Mo_search 0 0 h 145 [(0, .ref x0), (1, .int x1), (2, .int x2), (3, .int x3), (4, .int x4)] [] := by
  intro x0 x1 x2 x3 x4 h E
  rw [f_Mo_search_b145_eq] at E
  refine z_aload_n 0 d_Mo_search_145 rfl rfl ?_
  refine z_iload_n 1 d_Mo_search_146 rfl rfl ?_
  refine z_iload 4 d_Mo_search_147 rfl ?_
  refine z_iload_n 2 d_Mo_search_149 rfl rfl ?_
  obtain ⟨g37, v39, h36, e38, E⟩ := cI_some E
  refine z_invV (ci := 4) (y := y_Mo_areThere) (Mc := M_Mo_areThere) (av := [.int x1, .int x4, .int x2]) (rest := []) rfl rfl ⟨zt_818, zt_820, zt_35, zt_52⟩ zk_Mo_areThere zy_Mo_areThere (by decide) (Nat.le_of_ble_eq_true rfl) z00 rfl (Nat.le_of_ble_eq_true rfl) d_Mo_search_150 g37 (m_Mo_areThere e38) ?_
  show Z X M_Mo_search 0 0 h36 153 [(0, .ref x0), (1, .int x1), (2, .int x2), (3, .int x3), (4, .int x4)] [.int v39]
  refine z_if_eq (y := 0) (tgt := 160) d_Mo_search_153 (by decide) E (fun E => ?_) (fun E => ?_)
  · exact hk160 x0 x1 x2 x3 x4 h36 E
  · refine z_iconst (v := (1 : Int32)) d_Mo_search_156 (by decide) ?_
    refine z_goto (tgt := 161) d_Mo_search_157 (by decide) ?_
    exact hk161 x0 x1 x2 x3 x4 (1 : Int32) h36 E
set_option maxRecDepth 100000 in
set_option maxHeartbeats 4000000 in
theorem w_Mo_search_b160 {X : zX} {r : pR} {G : Nat} {k161 : Nat → Int32 → Int32 → Int32 → Int32 → Int32 → pH → Option pR} (hQ : zQ X r) (hk161 : ∀ (x0 : Nat) (x1 : Int32) (x2 : Int32) (x3 : Int32) (x4 : Int32) (s0 : Int32) (h : pH), k161 x0 x1 x2 x3 x4 s0 h = some r → Z X M_Mo_search 0 0 h 161 [(0, .ref x0), (1, .int x1), (2, .int x2), (3, .int x3), (4, .int x4)] [.int s0]) : ∀ (x0 : Nat) (x1 : Int32) (x2 : Int32) (x3 : Int32) (x4 : Int32) (h : pH), f_Mo_search_b160 G k161 x0 x1 x2 x3 x4 h = some r → Z X M_Mo_search 0 0 h 160 [(0, .ref x0), (1, .int x1), (2, .int x2), (3, .int x3), (4, .int x4)] [] := by
  intro x0 x1 x2 x3 x4 h E
  rw [f_Mo_search_b160_eq] at E
  refine z_iconst (v := (0 : Int32)) d_Mo_search_160 (by decide) ?_
  exact hk161 x0 x1 x2 x3 x4 (0 : Int32) h E
set_option maxRecDepth 100000 in
set_option maxHeartbeats 4000000 in
theorem w_Mo_search_b161 {X : zX} {r : pR} {G : Nat} {k77 : Nat → Int32 → Int32 → Int32 → Int32 → pH → Option pR} (hQ : zQ X r) (hk77 : ∀ (x0 : Nat) (x1 : Int32) (x2 : Int32) (x3 : Int32) (x4 : Int32) (h : pH), k77 x0 x1 x2 x3 x4 h = some r → Z X M_Mo_search 0 0 h 77 [(0, .ref x0), (1, .int x1), (2, .int x2), (3, .int x3), (4, .int x4)] []) : ∀ (x0 : Nat) (x1 : Int32) (x2 : Int32) (x3 : Int32) (x4 : Int32) (s0 : Int32) (h : pH), f_Mo_search_b161 G k77 x0 x1 x2 x3 x4 s0 h = some r → Z X M_Mo_search 0 0 h 161 [(0, .ref x0), (1, .int x1), (2, .int x2), (3, .int x3), (4, .int x4)] [.int s0] := by
  intro x0 x1 x2 x3 x4 s0 h E
  rw [f_Mo_search_b161_eq] at E
  refine z_istore (lv2 := [(5, .int s0), (0, .ref x0), (1, .int x1), (2, .int x2), (3, .int x3), (4, .int x4)]) d_Mo_search_161 (Nat.le_of_ble_eq_true rfl) rfl ?_
  refine z_iload 0 d_Mo_search_163 rfl ?_
  refine z_if_eq (y := 0) (tgt := 193) d_Mo_search_165 (by decide) E (fun E => ?_) (fun E => ?_)
  · refine z_lv [1, 2, 3, 4, 5, 0] rfl ?_
    exact (w_Mo_search_b193 hQ (w_Mo_search_b219 hQ hk77)) x0 x1 x2 x3 x4 s0 h E
  · refine z_iload 5 d_Mo_search_168 rfl ?_
    refine z_iconst (v := (1 : Int32)) d_Mo_search_170 (by decide) ?_
    refine z_iadd d_Mo_search_171 ?_
    refine z_aload_n 1 d_Mo_search_172 rfl rfl ?_
    refine z_getI (ci := 4) (j := 7) rfl (by decide) zf_Mo_98 d_Mo_search_173 E (fun v33 _ E => ?_)
    refine z_ic_ge (tgt := 193) d_Mo_search_176 (by decide) E (fun E => ?_) (fun E => ?_)
    · refine z_lv [1, 2, 3, 4, 5, 0] rfl ?_
      exact (w_Mo_search_b193 hQ (w_Mo_search_b219 hQ hk77)) x0 x1 x2 x3 x4 s0 h E
    · refine z_iinc (v := (x4 + 1)) (lv2 := [(4, .int (x4 + 1)), (5, .int s0), (0, .ref x0), (1, .int x1), (2, .int x2), (3, .int x3)]) 5 d_Mo_search_179 rfl rfl (Nat.le_of_ble_eq_true rfl) rfl ?_
      refine z_aload_n 2 d_Mo_search_182 rfl rfl ?_
      refine z_getR (ci := 4) (j := 10) rfl (by decide) zf_Mo_28 d_Mo_search_183 E (fun v34 _ E => ?_)
      refine z_iload 0 d_Mo_search_186 rfl ?_
      refine z_iconst (v := (-1 : Int32)) d_Mo_search_188 (by decide) ?_
      refine z_iastore d_Mo_search_189 E (fun h35 _ E => ?_)
      refine z_goto (tgt := 219) d_Mo_search_190 (by decide) ?_
      refine z_lv [2, 3, 4, 5, 0] rfl ?_
      exact (w_Mo_search_b219 hQ hk77) x0 x1 x2 x3 (x4 + 1) h35 E
set_option maxRecDepth 100000 in
set_option maxHeartbeats 4000000 in
theorem w_Mo_search_b66 {X : zX} {r : pR} {G : Nat} (hQ : zQ X r) : ∀ (s0 : Int32) (h : pH), f_Mo_search_b66 G s0 h = some r → Z X M_Mo_search 0 0 h 66 [] [.int s0] := by
  intro s0 h E
  rw [f_Mo_search_b66_eq] at E
  exact z_zreturn hQ rfl z00 d_Mo_search_66 E
set_option maxRecDepth 100000 in
set_option maxHeartbeats 4000000 in
theorem w_Mo_search_b77 {X : zX} {r : pR} {G : Nat} (hQ : zQ X r) : ∀ (F : Nat) (x0 : Nat) (x1 : Int32) (x2 : Int32) (x3 : Int32) (x4 : Int32) (h : pH), f_Mo_search_b77 G F x0 x1 x2 x3 x4 h = some r → Z X M_Mo_search 0 0 h 77 [(0, .ref x0), (1, .int x1), (2, .int x2), (3, .int x3), (4, .int x4)] [] := by
  intro F
  induction F with
  | zero => intro x0 x1 x2 x3 x4 h E; exact nomatch (show (none : Option pR) = some _ from E)
  | succ F ih =>
    intro x0 x1 x2 x3 x4 h E
    rw [f_Mo_search_b77_eq] at E
    refine z_iload 4 d_Mo_search_77 rfl ?_
    refine z_if_lt (y := 0) (tgt := 222) d_Mo_search_79 (by decide) E (fun E => ?_) (fun E => ?_)
    · refine z_iconst (v := (0 : Int32)) d_Mo_search_222 (by decide) ?_
      exact z_zreturn hQ rfl z00 d_Mo_search_223 E
    · refine z_aload_n 0 d_Mo_search_82 rfl rfl ?_
      refine z_getR (ci := 4) (j := 10) rfl (by decide) zf_Mo_28 d_Mo_search_83 E (fun v17 _ E => ?_)
      refine z_iload 4 d_Mo_search_86 rfl ?_
      refine z_dup2 d_Mo_search_88 rfl rfl ?_
      refine z_iaload d_Mo_search_89 E (fun v18 _ E => ?_)
      refine z_iconst (v := (1 : Int32)) d_Mo_search_90 (by decide) ?_
      refine z_iadd d_Mo_search_91 ?_
      refine z_iastore d_Mo_search_92 E (fun h19 _ E => ?_)
      refine z_aload_n 0 d_Mo_search_93 rfl rfl ?_
      refine z_getR (ci := 4) (j := 10) rfl (by decide) zf_Mo_28 d_Mo_search_94 E (fun v20 _ E => ?_)
      refine z_iload 4 d_Mo_search_97 rfl ?_
      refine z_iaload d_Mo_search_99 E (fun v21 _ E => ?_)
      refine z_aload_n 0 d_Mo_search_100 rfl rfl ?_
      refine z_getI (ci := 4) (j := 9) rfl (by decide) zf_Mo_113 d_Mo_search_101 E (fun v22 _ E => ?_)
      refine z_ic_ne (tgt := 113) d_Mo_search_104 (by decide) E (fun E => ?_) (fun E => ?_)
      · refine z_aload_n 0 d_Mo_search_113 rfl rfl ?_
        refine z_getR (ci := 4) (j := 11) rfl (by decide) zf_Mo_31 d_Mo_search_114 E (fun v23 _ E => ?_)
        refine z_iload 4 d_Mo_search_117 rfl ?_
        refine z_aload_n 0 d_Mo_search_119 rfl rfl ?_
        refine z_getR (ci := 4) (j := 8) rfl (by decide) zf_Mo_25 d_Mo_search_120 E (fun v24 _ E => ?_)
        refine z_aload_n 0 d_Mo_search_123 rfl rfl ?_
        refine z_getR (ci := 4) (j := 10) rfl (by decide) zf_Mo_28 d_Mo_search_124 E (fun v25 _ E => ?_)
        refine z_iload 4 d_Mo_search_127 rfl ?_
        refine z_iaload d_Mo_search_129 E (fun v26 _ E => ?_)
        refine z_iaload d_Mo_search_130 E (fun v27 _ E => ?_)
        refine z_iastore d_Mo_search_131 E (fun h28 _ E => ?_)
        refine z_iload_n 3 d_Mo_search_132 rfl rfl ?_
        refine z_if_ne (y := 0) (tgt := 145) d_Mo_search_133 (by decide) E (fun E => ?_) (fun E => ?_)
        · exact (w_Mo_search_b145 hQ (w_Mo_search_b160 hQ (w_Mo_search_b161 hQ ih)) (w_Mo_search_b161 hQ ih)) x0 x1 x2 x3 x4 h28 E
        · refine z_aload_n 0 d_Mo_search_136 rfl rfl ?_
          refine z_iload 4 d_Mo_search_137 rfl ?_
          obtain ⟨g30, v32, h29, e31, E⟩ := cI_some E
          refine z_invV (ci := 4) (y := y_Mo_isNew) (Mc := M_Mo_isNew) (av := [.int x4]) (rest := []) rfl rfl ⟨zt_838, zt_840, zt_40, zt_52⟩ zk_Mo_isNew zy_Mo_isNew (by decide) (Nat.le_of_ble_eq_true rfl) z00 rfl (Nat.le_of_ble_eq_true rfl) d_Mo_search_139 g30 (m_Mo_isNew e31) ?_
          show Z X M_Mo_search 0 0 h29 142 [(0, .ref x0), (1, .int x1), (2, .int x2), (3, .int x3), (4, .int x4)] [.int v32]
          refine z_if_eq (y := 0) (tgt := 160) d_Mo_search_142 (by decide) E (fun E => ?_) (fun E => ?_)
          · exact (w_Mo_search_b160 hQ (w_Mo_search_b161 hQ ih)) x0 x1 x2 x3 x4 h29 E
          · exact (w_Mo_search_b145 hQ (w_Mo_search_b160 hQ (w_Mo_search_b161 hQ ih)) (w_Mo_search_b161 hQ ih)) x0 x1 x2 x3 x4 h29 E
      · refine z_iinc (v := (x4 + (-1))) (lv2 := [(4, .int (x4 + (-1))), (0, .ref x0), (1, .int x1), (2, .int x2), (3, .int x3)]) 4 d_Mo_search_107 rfl rfl (Nat.le_of_ble_eq_true rfl) rfl ?_
        refine z_goto (tgt := 77) d_Mo_search_110 (by decide) ?_
        refine z_lv [1, 2, 3, 4, 0] rfl ?_
        exact ih x0 x1 x2 x3 (x4 + (-1)) h19 E
set_option maxRecDepth 100000 in
set_option maxHeartbeats 4000000 in
theorem w_Mo_search_b37 {X : zX} {r : pR} {G : Nat} {k47 : pH → Option pR} (hQ : zQ X r) (hk47 : ∀ (h : pH), k47 h = some r → Z X M_Mo_search 0 0 h 47 [] []) : ∀ (x0 : Nat) (x1 : Int32) (x2 : Int32) (x3 : Int32) (h : pH), f_Mo_search_b37 G k47 x0 x1 x2 x3 h = some r → Z X M_Mo_search 0 0 h 37 [(0, .ref x0), (1, .int x1), (2, .int x2), (3, .int x3)] [] := by
  intro x0 x1 x2 x3 h E
  rw [f_Mo_search_b37_eq] at E
  refine z_aload_n 0 d_Mo_search_37 rfl rfl ?_
  refine z_iload_n 1 d_Mo_search_38 rfl rfl ?_
  refine z_iconst (v := (-1 : Int32)) d_Mo_search_39 (by decide) ?_
  refine z_iload_n 2 d_Mo_search_40 rfl rfl ?_
  obtain ⟨g11, v13, h10, e12, E⟩ := cI_some E
  refine z_invV (ci := 4) (y := y_Mo_areThere) (Mc := M_Mo_areThere) (av := [.int x1, .int (-1 : Int32), .int x2]) (rest := []) rfl rfl ⟨zt_818, zt_820, zt_35, zt_52⟩ zk_Mo_areThere zy_Mo_areThere (by decide) (Nat.le_of_ble_eq_true rfl) z00 rfl (Nat.le_of_ble_eq_true rfl) d_Mo_search_41 g11 (m_Mo_areThere e12) ?_
  show Z X M_Mo_search 0 0 h10 44 [(0, .ref x0), (1, .int x1), (2, .int x2), (3, .int x3)] [.int v13]
  refine z_if_ne (y := 0) (tgt := 49) d_Mo_search_44 (by decide) E (fun E => ?_) (fun E => ?_)
  · refine z_aload_n 0 d_Mo_search_49 rfl rfl ?_
    refine z_getI (ci := 4) (j := 7) rfl (by decide) zf_Mo_98 d_Mo_search_50 E (fun v14 _ E => ?_)
    refine z_if_ne (y := 0) (tgt := 67) d_Mo_search_53 (by decide) E (fun E => ?_) (fun E => ?_)
    · refine z_iconst (v := (0 : Int32)) d_Mo_search_67 (by decide) ?_
      refine z_istore (lv2 := [(4, .int (0 : Int32)), (0, .ref x0), (1, .int x1), (2, .int x2), (3, .int x3)]) d_Mo_search_68 (Nat.le_of_ble_eq_true rfl) rfl ?_
      refine z_aload_n 1 d_Mo_search_70 rfl rfl ?_
      refine z_getR (ci := 4) (j := 10) rfl (by decide) zf_Mo_28 d_Mo_search_71 E (fun v15 _ E => ?_)
      refine z_iconst (v := (0 : Int32)) d_Mo_search_74 (by decide) ?_
      refine z_iconst (v := (-1 : Int32)) d_Mo_search_75 (by decide) ?_
      refine z_iastore d_Mo_search_76 E (fun h16 _ E => ?_)
      refine z_lv [1, 2, 3, 4, 0] rfl ?_
      exact (w_Mo_search_b77 hQ G) x0 x1 x2 x3 (0 : Int32) h16 E
    · refine z_iload_n 3 d_Mo_search_56 rfl rfl ?_
      refine z_iconst (v := (2 : Int32)) d_Mo_search_57 (by decide) ?_
      refine z_ic_eq (tgt := 65) d_Mo_search_58 (by decide) E (fun E => ?_) (fun E => ?_)
      · refine z_iconst (v := (0 : Int32)) d_Mo_search_65 (by decide) ?_
        refine z_lv [] rfl ?_
        exact (w_Mo_search_b66 hQ) (0 : Int32) h10 E
      · refine z_iconst (v := (1 : Int32)) d_Mo_search_61 (by decide) ?_
        refine z_goto (tgt := 66) d_Mo_search_62 (by decide) ?_
        refine z_lv [] rfl ?_
        exact (w_Mo_search_b66 hQ) (1 : Int32) h10 E
  · refine z_lv [] rfl ?_
    exact hk47 h10 E
set_option maxRecDepth 100000 in
set_option maxHeartbeats 4000000 in
theorem w_Mo_search_b47 {X : zX} {r : pR} {G : Nat} (hQ : zQ X r) : ∀ (h : pH), f_Mo_search_b47 G h = some r → Z X M_Mo_search 0 0 h 47 [] [] := by
  intro h E
  rw [f_Mo_search_b47_eq] at E
  refine z_iconst (v := (0 : Int32)) d_Mo_search_47 (by decide) ?_
  exact z_zreturn hQ rfl z00 d_Mo_search_48 E
set_option maxRecDepth 100000 in
set_option maxHeartbeats 4000000 in
theorem w_Mo_search_b0 {X : zX} {r : pR} {G : Nat} (hQ : zQ X r) : ∀ (x0 : Nat) (x1 : Int32) (x2 : Int32) (x3 : Int32) (h : pH), f_Mo_search G x0 x1 x2 x3 h = some r → Z X M_Mo_search 0 0 h 0 [(0, .ref x0), (1, .int x1), (2, .int x2), (3, .int x3)] [] := by
  intro x0 x1 x2 x3 h E
  rw [f_Mo_search_eq] at E
  refine z_aload_n 0 d_Mo_search_0 rfl rfl ?_
  refine z_iload_n 1 d_Mo_search_1 rfl rfl ?_
  refine z_iload_n 2 d_Mo_search_2 rfl rfl ?_
  refine z_iload_n 3 d_Mo_search_3 rfl rfl ?_
  obtain ⟨g2, h1, e3, E⟩ := cV_some E
  refine z_invV (ci := 4) (y := y_Mo_prepare) (Mc := M_Mo_prepare) (av := [.int x1, .int x2, .int x3]) (rest := []) rfl rfl ⟨zt_814, zt_816, zt_34, zt_52⟩ zk_Mo_prepare zy_Mo_prepare (by decide) (Nat.le_of_ble_eq_true rfl) z00 rfl (Nat.le_of_ble_eq_true rfl) d_Mo_search_4 g2 (m_Mo_prepare e3) ?_
  show Z X M_Mo_search 0 0 h1 7 [(0, .ref x0), (1, .int x1), (2, .int x2), (3, .int x3)] []
  refine z_iload_n 3 d_Mo_search_7 rfl rfl ?_
  refine z_if_ne (y := 0) (tgt := 37) d_Mo_search_8 (by decide) E (fun E => ?_) (fun E => ?_)
  · exact (w_Mo_search_b37 hQ (w_Mo_search_b47 hQ)) x0 x1 x2 x3 h1 E
  · refine z_aload_n 0 d_Mo_search_11 rfl rfl ?_
    refine z_getI (ci := 4) (j := 7) rfl (by decide) zf_Mo_98 d_Mo_search_12 E (fun v4 _ E => ?_)
    refine z_aload_n 0 d_Mo_search_15 rfl rfl ?_
    refine z_getI (ci := 4) (j := 9) rfl (by decide) zf_Mo_113 d_Mo_search_16 E (fun v5 _ E => ?_)
    refine z_ic_ne (tgt := 47) d_Mo_search_19 (by decide) E (fun E => ?_) (fun E => ?_)
    · refine z_lv [] rfl ?_
      exact (w_Mo_search_b47 hQ) h1 E
    · refine z_aload_n 0 d_Mo_search_22 rfl rfl ?_
      refine z_getR (ci := 4) (j := 2) rfl (by decide) zf_Mo_13 d_Mo_search_23 E (fun v6 _ E => ?_)
      refine z_iload_n 1 d_Mo_search_26 rfl rfl ?_
      refine z_iaload d_Mo_search_27 E (fun v7 _ E => ?_)
      refine z_aload_n 0 d_Mo_search_28 rfl rfl ?_
      refine z_getR (ci := 4) (j := 2) rfl (by decide) zf_Mo_13 d_Mo_search_29 E (fun v8 _ E => ?_)
      refine z_iload_n 2 d_Mo_search_32 rfl rfl ?_
      refine z_iaload d_Mo_search_33 E (fun v9 _ E => ?_)
      refine z_ic_ne (tgt := 47) d_Mo_search_34 (by decide) E (fun E => ?_) (fun E => ?_)
      · refine z_lv [] rfl ?_
        exact (w_Mo_search_b47 hQ) h1 E
      · exact (w_Mo_search_b37 hQ (w_Mo_search_b47 hQ)) x0 x1 x2 x3 h1 E
theorem m_Mo_search {l : Launch} {G : Nat} {x0 : Nat} {x1 : Int32} {x2 : Int32} {x3 : Int32} {h : pH} {r : pR} (E : f_Mo_search G x0 x1 x2 x3 h = some r) : zMet l y_Mo_search M_Mo_search 0 0 [.ref x0, .int x1, .int x2, .int x3] h r :=
  zMet_of (by decide) rfl (Nat.le_of_ble_eq_true rfl) (fun p e s m args below meth c D0 cT => w_Mo_search_b0 (X := (p, l, e, s, m, args, below, meth, c, D0, cT, h, _, 0, 0)) rfl x0 x1 x2 x3 h E)
def f_Mo_alike_b40 (G : Nat) (k41 : Int32 → pH → Option pR) (h : pH) : Option pR := k41 (0 : Int32) h
theorem f_Mo_alike_b40_eq (G : Nat) (k41 : Int32 → pH → Option pR) (h : pH) : f_Mo_alike_b40 G k41 h = (k41 (0 : Int32) h) := rfl
def f_Mo_alike_b41 (G : Nat) (s0 : Int32) (h : pH) : Option pR := (if isZ s0 = true then some (some (.int s0), h) else none)
theorem f_Mo_alike_b41_eq (G : Nat) (s0 : Int32) (h : pH) : f_Mo_alike_b41 G s0 h = ((if isZ s0 = true then some (some (.int s0), h) else none)) := rfl
def f_Mo_alike_b19 (G : Nat) (k20 : Nat → Int32 → Int32 → Nat → Int32 → pH → Option pR) (x0 : Nat) (x1 : Int32) (x2 : Int32) (s0 : Nat) (h : pH) : Option pR := k20 x0 x1 x2 s0 (0 : Int32) h
theorem f_Mo_alike_b19_eq (G : Nat) (k20 : Nat → Int32 → Int32 → Nat → Int32 → pH → Option pR) (x0 : Nat) (x1 : Int32) (x2 : Int32) (s0 : Nat) (h : pH) : f_Mo_alike_b19 G k20 x0 x1 x2 s0 h = (k20 x0 x1 x2 s0 (0 : Int32) h) := rfl
def f_Mo_alike_b20 (G : Nat) (x0 : Nat) (x1 : Int32) (x2 : Int32) (s0 : Nat) (s1 : Int32) (h : pH) : Option pR := cI (oC h s0 4) (f_Mo_there G s0 s1 h) fun v12 h9 => if v12 = 0 then ((f_Mo_alike_b40 G (f_Mo_alike_b41 G)) h9) else (cI (oC h9 x0 4) (f_Mo_search G x0 x1 x2 (0 : Int32) h9) fun v16 h13 => if v16 = 0 then ((f_Mo_alike_b40 G (f_Mo_alike_b41 G)) h13) else ((f_Mo_alike_b41 G) (1 : Int32) h13))
theorem f_Mo_alike_b20_eq (G : Nat) (x0 : Nat) (x1 : Int32) (x2 : Int32) (s0 : Nat) (s1 : Int32) (h : pH) : f_Mo_alike_b20 G x0 x1 x2 s0 s1 h = (cI (oC h s0 4) (f_Mo_there G s0 s1 h) fun v12 h9 => if v12 = 0 then ((f_Mo_alike_b40 G (f_Mo_alike_b41 G)) h9) else (cI (oC h9 x0 4) (f_Mo_search G x0 x1 x2 (0 : Int32) h9) fun v16 h13 => if v16 = 0 then ((f_Mo_alike_b40 G (f_Mo_alike_b41 G)) h13) else ((f_Mo_alike_b41 G) (1 : Int32) h13))) := rfl
def f_Mo_alike (G : Nat) (x0 : Nat) (x1 : Int32) (x2 : Int32) (h : pH) : Option pR := cI true (f_Mo_isGraph G x1 h) fun v4 h1 => if v4 = 0 then ((f_Mo_alike_b19 G (f_Mo_alike_b20 G)) x0 x1 x2 x0 h1) else (cI true (f_Mo_isGraph G x2 h1) fun v8 h5 => if v8 = 0 then ((f_Mo_alike_b19 G (f_Mo_alike_b20 G)) x0 x1 x2 x0 h5) else ((f_Mo_alike_b20 G) x0 x1 x2 x0 (1 : Int32) h5))
theorem f_Mo_alike_eq (G : Nat) (x0 : Nat) (x1 : Int32) (x2 : Int32) (h : pH) : f_Mo_alike G x0 x1 x2 h = (cI true (f_Mo_isGraph G x1 h) fun v4 h1 => if v4 = 0 then ((f_Mo_alike_b19 G (f_Mo_alike_b20 G)) x0 x1 x2 x0 h1) else (cI true (f_Mo_isGraph G x2 h1) fun v8 h5 => if v8 = 0 then ((f_Mo_alike_b19 G (f_Mo_alike_b20 G)) x0 x1 x2 x0 h5) else ((f_Mo_alike_b20 G) x0 x1 x2 x0 (1 : Int32) h5))) := rfl
set_option maxRecDepth 100000 in
set_option maxHeartbeats 4000000 in
theorem w_Mo_alike_b40 {X : zX} {r : pR} {G : Nat} {k41 : Int32 → pH → Option pR} (hQ : zQ X r) (hk41 : ∀ (s0 : Int32) (h : pH), k41 s0 h = some r → Z X M_Mo_alike 0 0 h 41 [] [.int s0]) : ∀ (h : pH), f_Mo_alike_b40 G k41 h = some r → Z X M_Mo_alike 0 0 h 40 [] [] := by
  intro h E
  rw [f_Mo_alike_b40_eq] at E
  refine z_iconst (v := (0 : Int32)) d_Mo_alike_40 (by decide) ?_
  exact hk41 (0 : Int32) h E
set_option maxRecDepth 100000 in
set_option maxHeartbeats 4000000 in
theorem w_Mo_alike_b41 {X : zX} {r : pR} {G : Nat} (hQ : zQ X r) : ∀ (s0 : Int32) (h : pH), f_Mo_alike_b41 G s0 h = some r → Z X M_Mo_alike 0 0 h 41 [] [.int s0] := by
  intro s0 h E
  rw [f_Mo_alike_b41_eq] at E
  exact z_zreturn hQ rfl z00 d_Mo_alike_41 E
set_option maxRecDepth 100000 in
set_option maxHeartbeats 4000000 in
theorem w_Mo_alike_b19 {X : zX} {r : pR} {G : Nat} {k20 : Nat → Int32 → Int32 → Nat → Int32 → pH → Option pR} (hQ : zQ X r) (hk20 : ∀ (x0 : Nat) (x1 : Int32) (x2 : Int32) (s0 : Nat) (s1 : Int32) (h : pH), k20 x0 x1 x2 s0 s1 h = some r → Z X M_Mo_alike 0 0 h 20 [(0, .ref x0), (1, .int x1), (2, .int x2)] [.int s1, .ref s0]) : ∀ (x0 : Nat) (x1 : Int32) (x2 : Int32) (s0 : Nat) (h : pH), f_Mo_alike_b19 G k20 x0 x1 x2 s0 h = some r → Z X M_Mo_alike 0 0 h 19 [(0, .ref x0), (1, .int x1), (2, .int x2)] [.ref s0] := by
  intro x0 x1 x2 s0 h E
  rw [f_Mo_alike_b19_eq] at E
  refine z_iconst (v := (0 : Int32)) d_Mo_alike_19 (by decide) ?_
  exact hk20 x0 x1 x2 s0 (0 : Int32) h E
set_option maxRecDepth 100000 in
set_option maxHeartbeats 4000000 in
theorem w_Mo_alike_b20 {X : zX} {r : pR} {G : Nat} (hQ : zQ X r) : ∀ (x0 : Nat) (x1 : Int32) (x2 : Int32) (s0 : Nat) (s1 : Int32) (h : pH), f_Mo_alike_b20 G x0 x1 x2 s0 s1 h = some r → Z X M_Mo_alike 0 0 h 20 [(0, .ref x0), (1, .int x1), (2, .int x2)] [.int s1, .ref s0] := by
  intro x0 x1 x2 s0 s1 h E
  rw [f_Mo_alike_b20_eq] at E
  obtain ⟨g10, v12, h9, e11, E⟩ := cI_some E
  refine z_invV (ci := 4) (y := y_Mo_there) (Mc := M_Mo_there) (av := [.int s1]) (rest := []) rfl rfl ⟨zt_780, zt_782, zt_30, zt_52⟩ zk_Mo_there zy_Mo_there (by decide) (Nat.le_of_ble_eq_true rfl) z00 rfl (Nat.le_of_ble_eq_true rfl) d_Mo_alike_20 g10 (m_Mo_there e11) ?_
  show Z X M_Mo_alike 0 0 h9 23 [(0, .ref x0), (1, .int x1), (2, .int x2)] [.int v12]
  refine z_if_eq (y := 0) (tgt := 40) d_Mo_alike_23 (by decide) E (fun E => ?_) (fun E => ?_)
  · refine z_lv [] rfl ?_
    exact (w_Mo_alike_b40 hQ (w_Mo_alike_b41 hQ)) h9 E
  · refine z_aload_n 0 d_Mo_alike_26 rfl rfl ?_
    refine z_iload_n 1 d_Mo_alike_27 rfl rfl ?_
    refine z_iload_n 2 d_Mo_alike_28 rfl rfl ?_
    refine z_iconst (v := (0 : Int32)) d_Mo_alike_29 (by decide) ?_
    obtain ⟨g14, v16, h13, e15, E⟩ := cI_some E
    refine z_invV (ci := 4) (y := y_Mo_search) (Mc := M_Mo_search) (av := [.int x1, .int x2, .int (0 : Int32)]) (rest := []) rfl rfl ⟨zt_810, zt_812, zt_33, zt_52⟩ zk_Mo_search zy_Mo_search (by decide) (Nat.le_of_ble_eq_true rfl) z00 rfl (Nat.le_of_ble_eq_true rfl) d_Mo_alike_30 g14 (m_Mo_search e15) ?_
    show Z X M_Mo_alike 0 0 h13 33 [(0, .ref x0), (1, .int x1), (2, .int x2)] [.int v16]
    refine z_if_eq (y := 0) (tgt := 40) d_Mo_alike_33 (by decide) E (fun E => ?_) (fun E => ?_)
    · refine z_lv [] rfl ?_
      exact (w_Mo_alike_b40 hQ (w_Mo_alike_b41 hQ)) h13 E
    · refine z_iconst (v := (1 : Int32)) d_Mo_alike_36 (by decide) ?_
      refine z_goto (tgt := 41) d_Mo_alike_37 (by decide) ?_
      refine z_lv [] rfl ?_
      exact (w_Mo_alike_b41 hQ) (1 : Int32) h13 E
set_option maxRecDepth 100000 in
set_option maxHeartbeats 4000000 in
theorem w_Mo_alike_b0 {X : zX} {r : pR} {G : Nat} (hQ : zQ X r) : ∀ (x0 : Nat) (x1 : Int32) (x2 : Int32) (h : pH), f_Mo_alike G x0 x1 x2 h = some r → Z X M_Mo_alike 0 0 h 0 [(0, .ref x0), (1, .int x1), (2, .int x2)] [] := by
  intro x0 x1 x2 h E
  rw [f_Mo_alike_eq] at E
  refine z_aload_n 0 d_Mo_alike_0 rfl rfl ?_
  refine z_iload_n 1 d_Mo_alike_1 rfl rfl ?_
  obtain ⟨g2, v4, h1, e3, E⟩ := cI_some E
  refine z_invS (y := y_Mo_isGraph) (Mc := M_Mo_isGraph) (av := [.int x1]) (rest := [.ref x0]) ⟨zt_750, zt_751, zt_52⟩ zk_Mo_isGraph zy_Mo_isGraph (by decide) (Nat.le_of_ble_eq_true rfl) z00 rfl (Nat.le_of_ble_eq_true rfl) d_Mo_alike_2 (m_Mo_isGraph e3) ?_
  show Z X M_Mo_alike 0 0 h1 5 [(0, .ref x0), (1, .int x1), (2, .int x2)] [.int v4, .ref x0]
  refine z_if_eq (y := 0) (tgt := 19) d_Mo_alike_5 (by decide) E (fun E => ?_) (fun E => ?_)
  · exact (w_Mo_alike_b19 hQ (w_Mo_alike_b20 hQ)) x0 x1 x2 x0 h1 E
  · refine z_iload_n 2 d_Mo_alike_8 rfl rfl ?_
    obtain ⟨g6, v8, h5, e7, E⟩ := cI_some E
    refine z_invS (y := y_Mo_isGraph) (Mc := M_Mo_isGraph) (av := [.int x2]) (rest := [.ref x0]) ⟨zt_750, zt_751, zt_52⟩ zk_Mo_isGraph zy_Mo_isGraph (by decide) (Nat.le_of_ble_eq_true rfl) z00 rfl (Nat.le_of_ble_eq_true rfl) d_Mo_alike_9 (m_Mo_isGraph e7) ?_
    show Z X M_Mo_alike 0 0 h5 12 [(0, .ref x0), (1, .int x1), (2, .int x2)] [.int v8, .ref x0]
    refine z_if_eq (y := 0) (tgt := 19) d_Mo_alike_12 (by decide) E (fun E => ?_) (fun E => ?_)
    · exact (w_Mo_alike_b19 hQ (w_Mo_alike_b20 hQ)) x0 x1 x2 x0 h5 E
    · refine z_iconst (v := (1 : Int32)) d_Mo_alike_15 (by decide) ?_
      refine z_goto (tgt := 20) d_Mo_alike_16 (by decide) ?_
      exact (w_Mo_alike_b20 hQ) x0 x1 x2 x0 (1 : Int32) h5 E
theorem m_Mo_alike {l : Launch} {G : Nat} {x0 : Nat} {x1 : Int32} {x2 : Int32} {h : pH} {r : pR} (E : f_Mo_alike G x0 x1 x2 h = some r) : zMet l y_Mo_alike M_Mo_alike 0 0 [.ref x0, .int x1, .int x2] h r :=
  zMet_of (by decide) rfl (Nat.le_of_ble_eq_true rfl) (fun p e s m args below meth c D0 cT => w_Mo_alike_b0 (X := (p, l, e, s, m, args, below, meth, c, D0, cT, h, _, 0, 0)) rfl x0 x1 x2 h E)
def f_Mo_image_b56 (G : Nat) (s0 : Int32) (h : pH) : Option pR := some (some (.int s0), h)
theorem f_Mo_image_b56_eq (G : Nat) (s0 : Int32) (h : pH) : f_Mo_image_b56 G s0 h = (some (some (.int s0), h)) := rfl
def f_Mo_image_b44 (G : Nat) (x0 : Nat) (h : pH) : Option pR := (gI h x0 4 0).bind fun v27 => if v27 ≤ 0 then ((f_Mo_image_b56 G) (-1 : Int32) h) else ((f_Mo_image_b56 G) (0 : Int32) h)
theorem f_Mo_image_b44_eq (G : Nat) (x0 : Nat) (h : pH) : f_Mo_image_b44 G x0 h = ((gI h x0 4 0).bind fun v27 => if v27 ≤ 0 then ((f_Mo_image_b56 G) (-1 : Int32) h) else ((f_Mo_image_b56 G) (0 : Int32) h)) := rfl
def f_Mo_image_b19 (G : Nat) (k20 : Nat → Int32 → Int32 → Int32 → Nat → Int32 → pH → Option pR) (x0 : Nat) (x1 : Int32) (x2 : Int32) (x3 : Int32) (s0 : Nat) (h : pH) : Option pR := k20 x0 x1 x2 x3 s0 (0 : Int32) h
theorem f_Mo_image_b19_eq (G : Nat) (k20 : Nat → Int32 → Int32 → Int32 → Nat → Int32 → pH → Option pR) (x0 : Nat) (x1 : Int32) (x2 : Int32) (x3 : Int32) (s0 : Nat) (h : pH) : f_Mo_image_b19 G k20 x0 x1 x2 x3 s0 h = (k20 x0 x1 x2 x3 s0 (0 : Int32) h) := rfl
def f_Mo_image_b20 (G : Nat) (x0 : Nat) (x1 : Int32) (x2 : Int32) (x3 : Int32) (s0 : Nat) (s1 : Int32) (h : pH) : Option pR := cI (oC h s0 4) (f_Mo_there G s0 s1 h) fun v12 h9 => if v12 = 0 then ((f_Mo_image_b44 G) x0 h9) else (cI (oC h9 x0 4) (f_Mo_search G x0 x1 x2 (0 : Int32) h9) fun v16 h13 => if v16 = 0 then ((f_Mo_image_b44 G) x0 h13) else (cI (oC h13 x0 4) (f_Mo_indexOf G x0 x3 h13) fun v20 h17 => if 0 ≤ v20 then ((gR h17 x0 4 11).bind fun v21 => cI (oC h17 x0 4) (f_Mo_indexOf G x0 x3 h17) fun v25 h22 => (aI h22 v21 v25).bind fun v26 => some (some (.int v26), h22)) else ((f_Mo_image_b44 G) x0 h17)))
theorem f_Mo_image_b20_eq (G : Nat) (x0 : Nat) (x1 : Int32) (x2 : Int32) (x3 : Int32) (s0 : Nat) (s1 : Int32) (h : pH) : f_Mo_image_b20 G x0 x1 x2 x3 s0 s1 h = (cI (oC h s0 4) (f_Mo_there G s0 s1 h) fun v12 h9 => if v12 = 0 then ((f_Mo_image_b44 G) x0 h9) else (cI (oC h9 x0 4) (f_Mo_search G x0 x1 x2 (0 : Int32) h9) fun v16 h13 => if v16 = 0 then ((f_Mo_image_b44 G) x0 h13) else (cI (oC h13 x0 4) (f_Mo_indexOf G x0 x3 h13) fun v20 h17 => if 0 ≤ v20 then ((gR h17 x0 4 11).bind fun v21 => cI (oC h17 x0 4) (f_Mo_indexOf G x0 x3 h17) fun v25 h22 => (aI h22 v21 v25).bind fun v26 => some (some (.int v26), h22)) else ((f_Mo_image_b44 G) x0 h17)))) := rfl
def f_Mo_image (G : Nat) (x0 : Nat) (x1 : Int32) (x2 : Int32) (x3 : Int32) (h : pH) : Option pR := cI true (f_Mo_isGraph G x1 h) fun v4 h1 => if v4 = 0 then ((f_Mo_image_b19 G (f_Mo_image_b20 G)) x0 x1 x2 x3 x0 h1) else (cI true (f_Mo_isGraph G x2 h1) fun v8 h5 => if v8 = 0 then ((f_Mo_image_b19 G (f_Mo_image_b20 G)) x0 x1 x2 x3 x0 h5) else ((f_Mo_image_b20 G) x0 x1 x2 x3 x0 (1 : Int32) h5))
theorem f_Mo_image_eq (G : Nat) (x0 : Nat) (x1 : Int32) (x2 : Int32) (x3 : Int32) (h : pH) : f_Mo_image G x0 x1 x2 x3 h = (cI true (f_Mo_isGraph G x1 h) fun v4 h1 => if v4 = 0 then ((f_Mo_image_b19 G (f_Mo_image_b20 G)) x0 x1 x2 x3 x0 h1) else (cI true (f_Mo_isGraph G x2 h1) fun v8 h5 => if v8 = 0 then ((f_Mo_image_b19 G (f_Mo_image_b20 G)) x0 x1 x2 x3 x0 h5) else ((f_Mo_image_b20 G) x0 x1 x2 x3 x0 (1 : Int32) h5))) := rfl
set_option maxRecDepth 100000 in
set_option maxHeartbeats 4000000 in
theorem w_Mo_image_b56 {X : zX} {r : pR} {G : Nat} (hQ : zQ X r) : ∀ (s0 : Int32) (h : pH), f_Mo_image_b56 G s0 h = some r → Z X M_Mo_image 0 0 h 56 [] [.int s0] := by
  intro s0 h E
  rw [f_Mo_image_b56_eq] at E
  exact z_ireturn hQ rfl z00 d_Mo_image_56 E
set_option maxRecDepth 100000 in
set_option maxHeartbeats 4000000 in
theorem w_Mo_image_b44 {X : zX} {r : pR} {G : Nat} (hQ : zQ X r) : ∀ (x0 : Nat) (h : pH), f_Mo_image_b44 G x0 h = some r → Z X M_Mo_image 0 0 h 44 [(0, .ref x0)] [] := by
  intro x0 h E
  rw [f_Mo_image_b44_eq] at E
  refine z_aload_n 0 d_Mo_image_44 rfl rfl ?_
  refine z_getI (ci := 4) (j := 0) rfl (by decide) zf_Mo_46 d_Mo_image_45 E (fun v27 _ E => ?_)
  refine z_if_le (y := 0) (tgt := 55) d_Mo_image_48 (by decide) E (fun E => ?_) (fun E => ?_)
  · refine z_iconst (v := (-1 : Int32)) d_Mo_image_55 (by decide) ?_
    refine z_lv [] rfl ?_
    exact (w_Mo_image_b56 hQ) (-1 : Int32) h E
  · refine z_iconst (v := (0 : Int32)) d_Mo_image_51 (by decide) ?_
    refine z_goto (tgt := 56) d_Mo_image_52 (by decide) ?_
    refine z_lv [] rfl ?_
    exact (w_Mo_image_b56 hQ) (0 : Int32) h E
set_option maxRecDepth 100000 in
set_option maxHeartbeats 4000000 in
theorem w_Mo_image_b19 {X : zX} {r : pR} {G : Nat} {k20 : Nat → Int32 → Int32 → Int32 → Nat → Int32 → pH → Option pR} (hQ : zQ X r) (hk20 : ∀ (x0 : Nat) (x1 : Int32) (x2 : Int32) (x3 : Int32) (s0 : Nat) (s1 : Int32) (h : pH), k20 x0 x1 x2 x3 s0 s1 h = some r → Z X M_Mo_image 0 0 h 20 [(0, .ref x0), (1, .int x1), (2, .int x2), (3, .int x3)] [.int s1, .ref s0]) : ∀ (x0 : Nat) (x1 : Int32) (x2 : Int32) (x3 : Int32) (s0 : Nat) (h : pH), f_Mo_image_b19 G k20 x0 x1 x2 x3 s0 h = some r → Z X M_Mo_image 0 0 h 19 [(0, .ref x0), (1, .int x1), (2, .int x2), (3, .int x3)] [.ref s0] := by
  intro x0 x1 x2 x3 s0 h E
  rw [f_Mo_image_b19_eq] at E
  refine z_iconst (v := (0 : Int32)) d_Mo_image_19 (by decide) ?_
  exact hk20 x0 x1 x2 x3 s0 (0 : Int32) h E
set_option maxRecDepth 100000 in
set_option maxHeartbeats 4000000 in
theorem w_Mo_image_b20 {X : zX} {r : pR} {G : Nat} (hQ : zQ X r) : ∀ (x0 : Nat) (x1 : Int32) (x2 : Int32) (x3 : Int32) (s0 : Nat) (s1 : Int32) (h : pH), f_Mo_image_b20 G x0 x1 x2 x3 s0 s1 h = some r → Z X M_Mo_image 0 0 h 20 [(0, .ref x0), (1, .int x1), (2, .int x2), (3, .int x3)] [.int s1, .ref s0] := by
  intro x0 x1 x2 x3 s0 s1 h E
  rw [f_Mo_image_b20_eq] at E
  obtain ⟨g10, v12, h9, e11, E⟩ := cI_some E
  refine z_invV (ci := 4) (y := y_Mo_there) (Mc := M_Mo_there) (av := [.int s1]) (rest := []) rfl rfl ⟨zt_780, zt_782, zt_30, zt_52⟩ zk_Mo_there zy_Mo_there (by decide) (Nat.le_of_ble_eq_true rfl) z00 rfl (Nat.le_of_ble_eq_true rfl) d_Mo_image_20 g10 (m_Mo_there e11) ?_
  show Z X M_Mo_image 0 0 h9 23 [(0, .ref x0), (1, .int x1), (2, .int x2), (3, .int x3)] [.int v12]
  refine z_if_eq (y := 0) (tgt := 44) d_Mo_image_23 (by decide) E (fun E => ?_) (fun E => ?_)
  · refine z_lv [0] rfl ?_
    exact (w_Mo_image_b44 hQ) x0 h9 E
  · refine z_aload_n 0 d_Mo_image_26 rfl rfl ?_
    refine z_iload_n 1 d_Mo_image_27 rfl rfl ?_
    refine z_iload_n 2 d_Mo_image_28 rfl rfl ?_
    refine z_iconst (v := (0 : Int32)) d_Mo_image_29 (by decide) ?_
    obtain ⟨g14, v16, h13, e15, E⟩ := cI_some E
    refine z_invV (ci := 4) (y := y_Mo_search) (Mc := M_Mo_search) (av := [.int x1, .int x2, .int (0 : Int32)]) (rest := []) rfl rfl ⟨zt_810, zt_812, zt_33, zt_52⟩ zk_Mo_search zy_Mo_search (by decide) (Nat.le_of_ble_eq_true rfl) z00 rfl (Nat.le_of_ble_eq_true rfl) d_Mo_image_30 g14 (m_Mo_search e15) ?_
    show Z X M_Mo_image 0 0 h13 33 [(0, .ref x0), (1, .int x1), (2, .int x2), (3, .int x3)] [.int v16]
    refine z_if_eq (y := 0) (tgt := 44) d_Mo_image_33 (by decide) E (fun E => ?_) (fun E => ?_)
    · refine z_lv [0] rfl ?_
      exact (w_Mo_image_b44 hQ) x0 h13 E
    · refine z_aload_n 0 d_Mo_image_36 rfl rfl ?_
      refine z_iload_n 3 d_Mo_image_37 rfl rfl ?_
      obtain ⟨g18, v20, h17, e19, E⟩ := cI_some E
      refine z_invV (ci := 4) (y := y_Mo_indexOf) (Mc := M_Mo_indexOf) (av := [.int x3]) (rest := []) rfl rfl ⟨zt_826, zt_828, zt_37, zt_52⟩ zk_Mo_indexOf zy_Mo_indexOf (by decide) (Nat.le_of_ble_eq_true rfl) z00 rfl (Nat.le_of_ble_eq_true rfl) d_Mo_image_38 g18 (m_Mo_indexOf e19) ?_
      show Z X M_Mo_image 0 0 h17 41 [(0, .ref x0), (1, .int x1), (2, .int x2), (3, .int x3)] [.int v20]
      refine z_if_ge (y := 0) (tgt := 57) d_Mo_image_41 (by decide) E (fun E => ?_) (fun E => ?_)
      · refine z_aload_n 0 d_Mo_image_57 rfl rfl ?_
        refine z_getR (ci := 4) (j := 11) rfl (by decide) zf_Mo_31 d_Mo_image_58 E (fun v21 _ E => ?_)
        refine z_aload_n 0 d_Mo_image_61 rfl rfl ?_
        refine z_iload_n 3 d_Mo_image_62 rfl rfl ?_
        obtain ⟨g23, v25, h22, e24, E⟩ := cI_some E
        refine z_invV (ci := 4) (y := y_Mo_indexOf) (Mc := M_Mo_indexOf) (av := [.int x3]) (rest := [.ref v21]) rfl rfl ⟨zt_826, zt_828, zt_37, zt_52⟩ zk_Mo_indexOf zy_Mo_indexOf (by decide) (Nat.le_of_ble_eq_true rfl) z00 rfl (Nat.le_of_ble_eq_true rfl) d_Mo_image_63 g23 (m_Mo_indexOf e24) ?_
        show Z X M_Mo_image 0 0 h22 66 [(0, .ref x0), (1, .int x1), (2, .int x2), (3, .int x3)] [.int v25, .ref v21]
        refine z_iaload d_Mo_image_66 E (fun v26 _ E => ?_)
        exact z_ireturn hQ rfl z00 d_Mo_image_67 E
      · refine z_lv [0] rfl ?_
        exact (w_Mo_image_b44 hQ) x0 h17 E
set_option maxRecDepth 100000 in
set_option maxHeartbeats 4000000 in
theorem w_Mo_image_b0 {X : zX} {r : pR} {G : Nat} (hQ : zQ X r) : ∀ (x0 : Nat) (x1 : Int32) (x2 : Int32) (x3 : Int32) (h : pH), f_Mo_image G x0 x1 x2 x3 h = some r → Z X M_Mo_image 0 0 h 0 [(0, .ref x0), (1, .int x1), (2, .int x2), (3, .int x3)] [] := by
  intro x0 x1 x2 x3 h E
  rw [f_Mo_image_eq] at E
  refine z_aload_n 0 d_Mo_image_0 rfl rfl ?_
  refine z_iload_n 1 d_Mo_image_1 rfl rfl ?_
  obtain ⟨g2, v4, h1, e3, E⟩ := cI_some E
  refine z_invS (y := y_Mo_isGraph) (Mc := M_Mo_isGraph) (av := [.int x1]) (rest := [.ref x0]) ⟨zt_750, zt_751, zt_52⟩ zk_Mo_isGraph zy_Mo_isGraph (by decide) (Nat.le_of_ble_eq_true rfl) z00 rfl (Nat.le_of_ble_eq_true rfl) d_Mo_image_2 (m_Mo_isGraph e3) ?_
  show Z X M_Mo_image 0 0 h1 5 [(0, .ref x0), (1, .int x1), (2, .int x2), (3, .int x3)] [.int v4, .ref x0]
  refine z_if_eq (y := 0) (tgt := 19) d_Mo_image_5 (by decide) E (fun E => ?_) (fun E => ?_)
  · exact (w_Mo_image_b19 hQ (w_Mo_image_b20 hQ)) x0 x1 x2 x3 x0 h1 E
  · refine z_iload_n 2 d_Mo_image_8 rfl rfl ?_
    obtain ⟨g6, v8, h5, e7, E⟩ := cI_some E
    refine z_invS (y := y_Mo_isGraph) (Mc := M_Mo_isGraph) (av := [.int x2]) (rest := [.ref x0]) ⟨zt_750, zt_751, zt_52⟩ zk_Mo_isGraph zy_Mo_isGraph (by decide) (Nat.le_of_ble_eq_true rfl) z00 rfl (Nat.le_of_ble_eq_true rfl) d_Mo_image_9 (m_Mo_isGraph e7) ?_
    show Z X M_Mo_image 0 0 h5 12 [(0, .ref x0), (1, .int x1), (2, .int x2), (3, .int x3)] [.int v8, .ref x0]
    refine z_if_eq (y := 0) (tgt := 19) d_Mo_image_12 (by decide) E (fun E => ?_) (fun E => ?_)
    · exact (w_Mo_image_b19 hQ (w_Mo_image_b20 hQ)) x0 x1 x2 x3 x0 h5 E
    · refine z_iconst (v := (1 : Int32)) d_Mo_image_15 (by decide) ?_
      refine z_goto (tgt := 20) d_Mo_image_16 (by decide) ?_
      exact (w_Mo_image_b20 hQ) x0 x1 x2 x3 x0 (1 : Int32) h5 E
theorem m_Mo_image {l : Launch} {G : Nat} {x0 : Nat} {x1 : Int32} {x2 : Int32} {x3 : Int32} {h : pH} {r : pR} (E : f_Mo_image G x0 x1 x2 x3 h = some r) : zMet l y_Mo_image M_Mo_image 0 0 [.ref x0, .int x1, .int x2, .int x3] h r :=
  zMet_of (by decide) rfl (Nat.le_of_ble_eq_true rfl) (fun p e s m args below meth c D0 cT => w_Mo_image_b0 (X := (p, l, e, s, m, args, below, meth, c, D0, cT, h, _, 0, 0)) rfl x0 x1 x2 x3 h E)
def f_Mo_follows_b40 (G : Nat) (k41 : Int32 → pH → Option pR) (h : pH) : Option pR := k41 (0 : Int32) h
theorem f_Mo_follows_b40_eq (G : Nat) (k41 : Int32 → pH → Option pR) (h : pH) : f_Mo_follows_b40 G k41 h = (k41 (0 : Int32) h) := rfl
def f_Mo_follows_b41 (G : Nat) (s0 : Int32) (h : pH) : Option pR := (if isZ s0 = true then some (some (.int s0), h) else none)
theorem f_Mo_follows_b41_eq (G : Nat) (s0 : Int32) (h : pH) : f_Mo_follows_b41 G s0 h = ((if isZ s0 = true then some (some (.int s0), h) else none)) := rfl
def f_Mo_follows_b19 (G : Nat) (k20 : Nat → Int32 → Int32 → Nat → Int32 → pH → Option pR) (x0 : Nat) (x1 : Int32) (x2 : Int32) (s0 : Nat) (h : pH) : Option pR := k20 x0 x1 x2 s0 (0 : Int32) h
theorem f_Mo_follows_b19_eq (G : Nat) (k20 : Nat → Int32 → Int32 → Nat → Int32 → pH → Option pR) (x0 : Nat) (x1 : Int32) (x2 : Int32) (s0 : Nat) (h : pH) : f_Mo_follows_b19 G k20 x0 x1 x2 s0 h = (k20 x0 x1 x2 s0 (0 : Int32) h) := rfl
def f_Mo_follows_b20 (G : Nat) (x0 : Nat) (x1 : Int32) (x2 : Int32) (s0 : Nat) (s1 : Int32) (h : pH) : Option pR := cI (oC h s0 4) (f_Mo_there G s0 s1 h) fun v12 h9 => if v12 = 0 then ((f_Mo_follows_b40 G (f_Mo_follows_b41 G)) h9) else (cI (oC h9 x0 4) (f_Mo_search G x0 x2 x1 (1 : Int32) h9) fun v16 h13 => if v16 = 0 then ((f_Mo_follows_b40 G (f_Mo_follows_b41 G)) h13) else ((f_Mo_follows_b41 G) (1 : Int32) h13))
theorem f_Mo_follows_b20_eq (G : Nat) (x0 : Nat) (x1 : Int32) (x2 : Int32) (s0 : Nat) (s1 : Int32) (h : pH) : f_Mo_follows_b20 G x0 x1 x2 s0 s1 h = (cI (oC h s0 4) (f_Mo_there G s0 s1 h) fun v12 h9 => if v12 = 0 then ((f_Mo_follows_b40 G (f_Mo_follows_b41 G)) h9) else (cI (oC h9 x0 4) (f_Mo_search G x0 x2 x1 (1 : Int32) h9) fun v16 h13 => if v16 = 0 then ((f_Mo_follows_b40 G (f_Mo_follows_b41 G)) h13) else ((f_Mo_follows_b41 G) (1 : Int32) h13))) := rfl
def f_Mo_follows (G : Nat) (x0 : Nat) (x1 : Int32) (x2 : Int32) (h : pH) : Option pR := cI true (f_Mo_isGraph G x1 h) fun v4 h1 => if v4 = 0 then ((f_Mo_follows_b19 G (f_Mo_follows_b20 G)) x0 x1 x2 x0 h1) else (cI true (f_Mo_isGraph G x2 h1) fun v8 h5 => if v8 = 0 then ((f_Mo_follows_b19 G (f_Mo_follows_b20 G)) x0 x1 x2 x0 h5) else ((f_Mo_follows_b20 G) x0 x1 x2 x0 (1 : Int32) h5))
theorem f_Mo_follows_eq (G : Nat) (x0 : Nat) (x1 : Int32) (x2 : Int32) (h : pH) : f_Mo_follows G x0 x1 x2 h = (cI true (f_Mo_isGraph G x1 h) fun v4 h1 => if v4 = 0 then ((f_Mo_follows_b19 G (f_Mo_follows_b20 G)) x0 x1 x2 x0 h1) else (cI true (f_Mo_isGraph G x2 h1) fun v8 h5 => if v8 = 0 then ((f_Mo_follows_b19 G (f_Mo_follows_b20 G)) x0 x1 x2 x0 h5) else ((f_Mo_follows_b20 G) x0 x1 x2 x0 (1 : Int32) h5))) := rfl
set_option maxRecDepth 100000 in
set_option maxHeartbeats 4000000 in
theorem w_Mo_follows_b40 {X : zX} {r : pR} {G : Nat} {k41 : Int32 → pH → Option pR} (hQ : zQ X r) (hk41 : ∀ (s0 : Int32) (h : pH), k41 s0 h = some r → Z X M_Mo_follows 0 0 h 41 [] [.int s0]) : ∀ (h : pH), f_Mo_follows_b40 G k41 h = some r → Z X M_Mo_follows 0 0 h 40 [] [] := by
  intro h E
  rw [f_Mo_follows_b40_eq] at E
  refine z_iconst (v := (0 : Int32)) d_Mo_follows_40 (by decide) ?_
  exact hk41 (0 : Int32) h E
set_option maxRecDepth 100000 in
set_option maxHeartbeats 4000000 in
theorem w_Mo_follows_b41 {X : zX} {r : pR} {G : Nat} (hQ : zQ X r) : ∀ (s0 : Int32) (h : pH), f_Mo_follows_b41 G s0 h = some r → Z X M_Mo_follows 0 0 h 41 [] [.int s0] := by
  intro s0 h E
  rw [f_Mo_follows_b41_eq] at E
  exact z_zreturn hQ rfl z00 d_Mo_follows_41 E
set_option maxRecDepth 100000 in
set_option maxHeartbeats 4000000 in
theorem w_Mo_follows_b19 {X : zX} {r : pR} {G : Nat} {k20 : Nat → Int32 → Int32 → Nat → Int32 → pH → Option pR} (hQ : zQ X r) (hk20 : ∀ (x0 : Nat) (x1 : Int32) (x2 : Int32) (s0 : Nat) (s1 : Int32) (h : pH), k20 x0 x1 x2 s0 s1 h = some r → Z X M_Mo_follows 0 0 h 20 [(0, .ref x0), (1, .int x1), (2, .int x2)] [.int s1, .ref s0]) : ∀ (x0 : Nat) (x1 : Int32) (x2 : Int32) (s0 : Nat) (h : pH), f_Mo_follows_b19 G k20 x0 x1 x2 s0 h = some r → Z X M_Mo_follows 0 0 h 19 [(0, .ref x0), (1, .int x1), (2, .int x2)] [.ref s0] := by
  intro x0 x1 x2 s0 h E
  rw [f_Mo_follows_b19_eq] at E
  refine z_iconst (v := (0 : Int32)) d_Mo_follows_19 (by decide) ?_
  exact hk20 x0 x1 x2 s0 (0 : Int32) h E
set_option maxRecDepth 100000 in
set_option maxHeartbeats 4000000 in
theorem w_Mo_follows_b20 {X : zX} {r : pR} {G : Nat} (hQ : zQ X r) : ∀ (x0 : Nat) (x1 : Int32) (x2 : Int32) (s0 : Nat) (s1 : Int32) (h : pH), f_Mo_follows_b20 G x0 x1 x2 s0 s1 h = some r → Z X M_Mo_follows 0 0 h 20 [(0, .ref x0), (1, .int x1), (2, .int x2)] [.int s1, .ref s0] := by
  intro x0 x1 x2 s0 s1 h E
  rw [f_Mo_follows_b20_eq] at E
  obtain ⟨g10, v12, h9, e11, E⟩ := cI_some E
  refine z_invV (ci := 4) (y := y_Mo_there) (Mc := M_Mo_there) (av := [.int s1]) (rest := []) rfl rfl ⟨zt_780, zt_782, zt_30, zt_52⟩ zk_Mo_there zy_Mo_there (by decide) (Nat.le_of_ble_eq_true rfl) z00 rfl (Nat.le_of_ble_eq_true rfl) d_Mo_follows_20 g10 (m_Mo_there e11) ?_
  show Z X M_Mo_follows 0 0 h9 23 [(0, .ref x0), (1, .int x1), (2, .int x2)] [.int v12]
  refine z_if_eq (y := 0) (tgt := 40) d_Mo_follows_23 (by decide) E (fun E => ?_) (fun E => ?_)
  · refine z_lv [] rfl ?_
    exact (w_Mo_follows_b40 hQ (w_Mo_follows_b41 hQ)) h9 E
  · refine z_aload_n 0 d_Mo_follows_26 rfl rfl ?_
    refine z_iload_n 2 d_Mo_follows_27 rfl rfl ?_
    refine z_iload_n 1 d_Mo_follows_28 rfl rfl ?_
    refine z_iconst (v := (1 : Int32)) d_Mo_follows_29 (by decide) ?_
    obtain ⟨g14, v16, h13, e15, E⟩ := cI_some E
    refine z_invV (ci := 4) (y := y_Mo_search) (Mc := M_Mo_search) (av := [.int x2, .int x1, .int (1 : Int32)]) (rest := []) rfl rfl ⟨zt_810, zt_812, zt_33, zt_52⟩ zk_Mo_search zy_Mo_search (by decide) (Nat.le_of_ble_eq_true rfl) z00 rfl (Nat.le_of_ble_eq_true rfl) d_Mo_follows_30 g14 (m_Mo_search e15) ?_
    show Z X M_Mo_follows 0 0 h13 33 [(0, .ref x0), (1, .int x1), (2, .int x2)] [.int v16]
    refine z_if_eq (y := 0) (tgt := 40) d_Mo_follows_33 (by decide) E (fun E => ?_) (fun E => ?_)
    · refine z_lv [] rfl ?_
      exact (w_Mo_follows_b40 hQ (w_Mo_follows_b41 hQ)) h13 E
    · refine z_iconst (v := (1 : Int32)) d_Mo_follows_36 (by decide) ?_
      refine z_goto (tgt := 41) d_Mo_follows_37 (by decide) ?_
      refine z_lv [] rfl ?_
      exact (w_Mo_follows_b41 hQ) (1 : Int32) h13 E
set_option maxRecDepth 100000 in
set_option maxHeartbeats 4000000 in
theorem w_Mo_follows_b0 {X : zX} {r : pR} {G : Nat} (hQ : zQ X r) : ∀ (x0 : Nat) (x1 : Int32) (x2 : Int32) (h : pH), f_Mo_follows G x0 x1 x2 h = some r → Z X M_Mo_follows 0 0 h 0 [(0, .ref x0), (1, .int x1), (2, .int x2)] [] := by
  intro x0 x1 x2 h E
  rw [f_Mo_follows_eq] at E
  refine z_aload_n 0 d_Mo_follows_0 rfl rfl ?_
  refine z_iload_n 1 d_Mo_follows_1 rfl rfl ?_
  obtain ⟨g2, v4, h1, e3, E⟩ := cI_some E
  refine z_invS (y := y_Mo_isGraph) (Mc := M_Mo_isGraph) (av := [.int x1]) (rest := [.ref x0]) ⟨zt_750, zt_751, zt_52⟩ zk_Mo_isGraph zy_Mo_isGraph (by decide) (Nat.le_of_ble_eq_true rfl) z00 rfl (Nat.le_of_ble_eq_true rfl) d_Mo_follows_2 (m_Mo_isGraph e3) ?_
  show Z X M_Mo_follows 0 0 h1 5 [(0, .ref x0), (1, .int x1), (2, .int x2)] [.int v4, .ref x0]
  refine z_if_eq (y := 0) (tgt := 19) d_Mo_follows_5 (by decide) E (fun E => ?_) (fun E => ?_)
  · exact (w_Mo_follows_b19 hQ (w_Mo_follows_b20 hQ)) x0 x1 x2 x0 h1 E
  · refine z_iload_n 2 d_Mo_follows_8 rfl rfl ?_
    obtain ⟨g6, v8, h5, e7, E⟩ := cI_some E
    refine z_invS (y := y_Mo_isGraph) (Mc := M_Mo_isGraph) (av := [.int x2]) (rest := [.ref x0]) ⟨zt_750, zt_751, zt_52⟩ zk_Mo_isGraph zy_Mo_isGraph (by decide) (Nat.le_of_ble_eq_true rfl) z00 rfl (Nat.le_of_ble_eq_true rfl) d_Mo_follows_9 (m_Mo_isGraph e7) ?_
    show Z X M_Mo_follows 0 0 h5 12 [(0, .ref x0), (1, .int x1), (2, .int x2)] [.int v8, .ref x0]
    refine z_if_eq (y := 0) (tgt := 19) d_Mo_follows_12 (by decide) E (fun E => ?_) (fun E => ?_)
    · exact (w_Mo_follows_b19 hQ (w_Mo_follows_b20 hQ)) x0 x1 x2 x0 h5 E
    · refine z_iconst (v := (1 : Int32)) d_Mo_follows_15 (by decide) ?_
      refine z_goto (tgt := 20) d_Mo_follows_16 (by decide) ?_
      exact (w_Mo_follows_b20 hQ) x0 x1 x2 x0 (1 : Int32) h5 E
theorem m_Mo_follows {l : Launch} {G : Nat} {x0 : Nat} {x1 : Int32} {x2 : Int32} {h : pH} {r : pR} (E : f_Mo_follows G x0 x1 x2 h = some r) : zMet l y_Mo_follows M_Mo_follows 0 0 [.ref x0, .int x1, .int x2] h r :=
  zMet_of (by decide) rfl (Nat.le_of_ble_eq_true rfl) (fun p e s m args below meth c D0 cT => w_Mo_follows_b0 (X := (p, l, e, s, m, args, below, meth, c, D0, cT, h, _, 0, 0)) rfl x0 x1 x2 h E)
def f_Mo_putting_b56 (G : Nat) (s0 : Int32) (h : pH) : Option pR := some (some (.int s0), h)
theorem f_Mo_putting_b56_eq (G : Nat) (s0 : Int32) (h : pH) : f_Mo_putting_b56 G s0 h = (some (some (.int s0), h)) := rfl
def f_Mo_putting_b44 (G : Nat) (x0 : Nat) (h : pH) : Option pR := (gI h x0 4 0).bind fun v27 => if v27 ≤ 0 then ((f_Mo_putting_b56 G) (-1 : Int32) h) else ((f_Mo_putting_b56 G) (0 : Int32) h)
theorem f_Mo_putting_b44_eq (G : Nat) (x0 : Nat) (h : pH) : f_Mo_putting_b44 G x0 h = ((gI h x0 4 0).bind fun v27 => if v27 ≤ 0 then ((f_Mo_putting_b56 G) (-1 : Int32) h) else ((f_Mo_putting_b56 G) (0 : Int32) h)) := rfl
def f_Mo_putting_b19 (G : Nat) (k20 : Nat → Int32 → Int32 → Int32 → Nat → Int32 → pH → Option pR) (x0 : Nat) (x1 : Int32) (x2 : Int32) (x3 : Int32) (s0 : Nat) (h : pH) : Option pR := k20 x0 x1 x2 x3 s0 (0 : Int32) h
theorem f_Mo_putting_b19_eq (G : Nat) (k20 : Nat → Int32 → Int32 → Int32 → Nat → Int32 → pH → Option pR) (x0 : Nat) (x1 : Int32) (x2 : Int32) (x3 : Int32) (s0 : Nat) (h : pH) : f_Mo_putting_b19 G k20 x0 x1 x2 x3 s0 h = (k20 x0 x1 x2 x3 s0 (0 : Int32) h) := rfl
def f_Mo_putting_b20 (G : Nat) (x0 : Nat) (x1 : Int32) (x2 : Int32) (x3 : Int32) (s0 : Nat) (s1 : Int32) (h : pH) : Option pR := cI (oC h s0 4) (f_Mo_there G s0 s1 h) fun v12 h9 => if v12 = 0 then ((f_Mo_putting_b44 G) x0 h9) else (cI (oC h9 x0 4) (f_Mo_search G x0 x2 x1 (1 : Int32) h9) fun v16 h13 => if v16 = 0 then ((f_Mo_putting_b44 G) x0 h13) else (cI (oC h13 x0 4) (f_Mo_indexOf G x0 x3 h13) fun v20 h17 => if 0 ≤ v20 then ((gR h17 x0 4 11).bind fun v21 => cI (oC h17 x0 4) (f_Mo_indexOf G x0 x3 h17) fun v25 h22 => (aI h22 v21 v25).bind fun v26 => some (some (.int v26), h22)) else ((f_Mo_putting_b44 G) x0 h17)))
theorem f_Mo_putting_b20_eq (G : Nat) (x0 : Nat) (x1 : Int32) (x2 : Int32) (x3 : Int32) (s0 : Nat) (s1 : Int32) (h : pH) : f_Mo_putting_b20 G x0 x1 x2 x3 s0 s1 h = (cI (oC h s0 4) (f_Mo_there G s0 s1 h) fun v12 h9 => if v12 = 0 then ((f_Mo_putting_b44 G) x0 h9) else (cI (oC h9 x0 4) (f_Mo_search G x0 x2 x1 (1 : Int32) h9) fun v16 h13 => if v16 = 0 then ((f_Mo_putting_b44 G) x0 h13) else (cI (oC h13 x0 4) (f_Mo_indexOf G x0 x3 h13) fun v20 h17 => if 0 ≤ v20 then ((gR h17 x0 4 11).bind fun v21 => cI (oC h17 x0 4) (f_Mo_indexOf G x0 x3 h17) fun v25 h22 => (aI h22 v21 v25).bind fun v26 => some (some (.int v26), h22)) else ((f_Mo_putting_b44 G) x0 h17)))) := rfl
def f_Mo_putting (G : Nat) (x0 : Nat) (x1 : Int32) (x2 : Int32) (x3 : Int32) (h : pH) : Option pR := cI true (f_Mo_isGraph G x1 h) fun v4 h1 => if v4 = 0 then ((f_Mo_putting_b19 G (f_Mo_putting_b20 G)) x0 x1 x2 x3 x0 h1) else (cI true (f_Mo_isGraph G x2 h1) fun v8 h5 => if v8 = 0 then ((f_Mo_putting_b19 G (f_Mo_putting_b20 G)) x0 x1 x2 x3 x0 h5) else ((f_Mo_putting_b20 G) x0 x1 x2 x3 x0 (1 : Int32) h5))
theorem f_Mo_putting_eq (G : Nat) (x0 : Nat) (x1 : Int32) (x2 : Int32) (x3 : Int32) (h : pH) : f_Mo_putting G x0 x1 x2 x3 h = (cI true (f_Mo_isGraph G x1 h) fun v4 h1 => if v4 = 0 then ((f_Mo_putting_b19 G (f_Mo_putting_b20 G)) x0 x1 x2 x3 x0 h1) else (cI true (f_Mo_isGraph G x2 h1) fun v8 h5 => if v8 = 0 then ((f_Mo_putting_b19 G (f_Mo_putting_b20 G)) x0 x1 x2 x3 x0 h5) else ((f_Mo_putting_b20 G) x0 x1 x2 x3 x0 (1 : Int32) h5))) := rfl
set_option maxRecDepth 100000 in
set_option maxHeartbeats 4000000 in
theorem w_Mo_putting_b56 {X : zX} {r : pR} {G : Nat} (hQ : zQ X r) : ∀ (s0 : Int32) (h : pH), f_Mo_putting_b56 G s0 h = some r → Z X M_Mo_putting 0 0 h 56 [] [.int s0] := by
  intro s0 h E
  rw [f_Mo_putting_b56_eq] at E
  exact z_ireturn hQ rfl z00 d_Mo_putting_56 E
set_option maxRecDepth 100000 in
set_option maxHeartbeats 4000000 in
theorem w_Mo_putting_b44 {X : zX} {r : pR} {G : Nat} (hQ : zQ X r) : ∀ (x0 : Nat) (h : pH), f_Mo_putting_b44 G x0 h = some r → Z X M_Mo_putting 0 0 h 44 [(0, .ref x0)] [] := by
  intro x0 h E
  rw [f_Mo_putting_b44_eq] at E
  refine z_aload_n 0 d_Mo_putting_44 rfl rfl ?_
  refine z_getI (ci := 4) (j := 0) rfl (by decide) zf_Mo_46 d_Mo_putting_45 E (fun v27 _ E => ?_)
  refine z_if_le (y := 0) (tgt := 55) d_Mo_putting_48 (by decide) E (fun E => ?_) (fun E => ?_)
  · refine z_iconst (v := (-1 : Int32)) d_Mo_putting_55 (by decide) ?_
    refine z_lv [] rfl ?_
    exact (w_Mo_putting_b56 hQ) (-1 : Int32) h E
  · refine z_iconst (v := (0 : Int32)) d_Mo_putting_51 (by decide) ?_
    refine z_goto (tgt := 56) d_Mo_putting_52 (by decide) ?_
    refine z_lv [] rfl ?_
    exact (w_Mo_putting_b56 hQ) (0 : Int32) h E
set_option maxRecDepth 100000 in
set_option maxHeartbeats 4000000 in
theorem w_Mo_putting_b19 {X : zX} {r : pR} {G : Nat} {k20 : Nat → Int32 → Int32 → Int32 → Nat → Int32 → pH → Option pR} (hQ : zQ X r) (hk20 : ∀ (x0 : Nat) (x1 : Int32) (x2 : Int32) (x3 : Int32) (s0 : Nat) (s1 : Int32) (h : pH), k20 x0 x1 x2 x3 s0 s1 h = some r → Z X M_Mo_putting 0 0 h 20 [(0, .ref x0), (1, .int x1), (2, .int x2), (3, .int x3)] [.int s1, .ref s0]) : ∀ (x0 : Nat) (x1 : Int32) (x2 : Int32) (x3 : Int32) (s0 : Nat) (h : pH), f_Mo_putting_b19 G k20 x0 x1 x2 x3 s0 h = some r → Z X M_Mo_putting 0 0 h 19 [(0, .ref x0), (1, .int x1), (2, .int x2), (3, .int x3)] [.ref s0] := by
  intro x0 x1 x2 x3 s0 h E
  rw [f_Mo_putting_b19_eq] at E
  refine z_iconst (v := (0 : Int32)) d_Mo_putting_19 (by decide) ?_
  exact hk20 x0 x1 x2 x3 s0 (0 : Int32) h E
set_option maxRecDepth 100000 in
set_option maxHeartbeats 4000000 in
theorem w_Mo_putting_b20 {X : zX} {r : pR} {G : Nat} (hQ : zQ X r) : ∀ (x0 : Nat) (x1 : Int32) (x2 : Int32) (x3 : Int32) (s0 : Nat) (s1 : Int32) (h : pH), f_Mo_putting_b20 G x0 x1 x2 x3 s0 s1 h = some r → Z X M_Mo_putting 0 0 h 20 [(0, .ref x0), (1, .int x1), (2, .int x2), (3, .int x3)] [.int s1, .ref s0] := by
  intro x0 x1 x2 x3 s0 s1 h E
  rw [f_Mo_putting_b20_eq] at E
  obtain ⟨g10, v12, h9, e11, E⟩ := cI_some E
  refine z_invV (ci := 4) (y := y_Mo_there) (Mc := M_Mo_there) (av := [.int s1]) (rest := []) rfl rfl ⟨zt_780, zt_782, zt_30, zt_52⟩ zk_Mo_there zy_Mo_there (by decide) (Nat.le_of_ble_eq_true rfl) z00 rfl (Nat.le_of_ble_eq_true rfl) d_Mo_putting_20 g10 (m_Mo_there e11) ?_
  show Z X M_Mo_putting 0 0 h9 23 [(0, .ref x0), (1, .int x1), (2, .int x2), (3, .int x3)] [.int v12]
  refine z_if_eq (y := 0) (tgt := 44) d_Mo_putting_23 (by decide) E (fun E => ?_) (fun E => ?_)
  · refine z_lv [0] rfl ?_
    exact (w_Mo_putting_b44 hQ) x0 h9 E
  · refine z_aload_n 0 d_Mo_putting_26 rfl rfl ?_
    refine z_iload_n 2 d_Mo_putting_27 rfl rfl ?_
    refine z_iload_n 1 d_Mo_putting_28 rfl rfl ?_
    refine z_iconst (v := (1 : Int32)) d_Mo_putting_29 (by decide) ?_
    obtain ⟨g14, v16, h13, e15, E⟩ := cI_some E
    refine z_invV (ci := 4) (y := y_Mo_search) (Mc := M_Mo_search) (av := [.int x2, .int x1, .int (1 : Int32)]) (rest := []) rfl rfl ⟨zt_810, zt_812, zt_33, zt_52⟩ zk_Mo_search zy_Mo_search (by decide) (Nat.le_of_ble_eq_true rfl) z00 rfl (Nat.le_of_ble_eq_true rfl) d_Mo_putting_30 g14 (m_Mo_search e15) ?_
    show Z X M_Mo_putting 0 0 h13 33 [(0, .ref x0), (1, .int x1), (2, .int x2), (3, .int x3)] [.int v16]
    refine z_if_eq (y := 0) (tgt := 44) d_Mo_putting_33 (by decide) E (fun E => ?_) (fun E => ?_)
    · refine z_lv [0] rfl ?_
      exact (w_Mo_putting_b44 hQ) x0 h13 E
    · refine z_aload_n 0 d_Mo_putting_36 rfl rfl ?_
      refine z_iload_n 3 d_Mo_putting_37 rfl rfl ?_
      obtain ⟨g18, v20, h17, e19, E⟩ := cI_some E
      refine z_invV (ci := 4) (y := y_Mo_indexOf) (Mc := M_Mo_indexOf) (av := [.int x3]) (rest := []) rfl rfl ⟨zt_826, zt_828, zt_37, zt_52⟩ zk_Mo_indexOf zy_Mo_indexOf (by decide) (Nat.le_of_ble_eq_true rfl) z00 rfl (Nat.le_of_ble_eq_true rfl) d_Mo_putting_38 g18 (m_Mo_indexOf e19) ?_
      show Z X M_Mo_putting 0 0 h17 41 [(0, .ref x0), (1, .int x1), (2, .int x2), (3, .int x3)] [.int v20]
      refine z_if_ge (y := 0) (tgt := 57) d_Mo_putting_41 (by decide) E (fun E => ?_) (fun E => ?_)
      · refine z_aload_n 0 d_Mo_putting_57 rfl rfl ?_
        refine z_getR (ci := 4) (j := 11) rfl (by decide) zf_Mo_31 d_Mo_putting_58 E (fun v21 _ E => ?_)
        refine z_aload_n 0 d_Mo_putting_61 rfl rfl ?_
        refine z_iload_n 3 d_Mo_putting_62 rfl rfl ?_
        obtain ⟨g23, v25, h22, e24, E⟩ := cI_some E
        refine z_invV (ci := 4) (y := y_Mo_indexOf) (Mc := M_Mo_indexOf) (av := [.int x3]) (rest := [.ref v21]) rfl rfl ⟨zt_826, zt_828, zt_37, zt_52⟩ zk_Mo_indexOf zy_Mo_indexOf (by decide) (Nat.le_of_ble_eq_true rfl) z00 rfl (Nat.le_of_ble_eq_true rfl) d_Mo_putting_63 g23 (m_Mo_indexOf e24) ?_
        show Z X M_Mo_putting 0 0 h22 66 [(0, .ref x0), (1, .int x1), (2, .int x2), (3, .int x3)] [.int v25, .ref v21]
        refine z_iaload d_Mo_putting_66 E (fun v26 _ E => ?_)
        exact z_ireturn hQ rfl z00 d_Mo_putting_67 E
      · refine z_lv [0] rfl ?_
        exact (w_Mo_putting_b44 hQ) x0 h17 E
set_option maxRecDepth 100000 in
set_option maxHeartbeats 4000000 in
theorem w_Mo_putting_b0 {X : zX} {r : pR} {G : Nat} (hQ : zQ X r) : ∀ (x0 : Nat) (x1 : Int32) (x2 : Int32) (x3 : Int32) (h : pH), f_Mo_putting G x0 x1 x2 x3 h = some r → Z X M_Mo_putting 0 0 h 0 [(0, .ref x0), (1, .int x1), (2, .int x2), (3, .int x3)] [] := by
  intro x0 x1 x2 x3 h E
  rw [f_Mo_putting_eq] at E
  refine z_aload_n 0 d_Mo_putting_0 rfl rfl ?_
  refine z_iload_n 1 d_Mo_putting_1 rfl rfl ?_
  obtain ⟨g2, v4, h1, e3, E⟩ := cI_some E
  refine z_invS (y := y_Mo_isGraph) (Mc := M_Mo_isGraph) (av := [.int x1]) (rest := [.ref x0]) ⟨zt_750, zt_751, zt_52⟩ zk_Mo_isGraph zy_Mo_isGraph (by decide) (Nat.le_of_ble_eq_true rfl) z00 rfl (Nat.le_of_ble_eq_true rfl) d_Mo_putting_2 (m_Mo_isGraph e3) ?_
  show Z X M_Mo_putting 0 0 h1 5 [(0, .ref x0), (1, .int x1), (2, .int x2), (3, .int x3)] [.int v4, .ref x0]
  refine z_if_eq (y := 0) (tgt := 19) d_Mo_putting_5 (by decide) E (fun E => ?_) (fun E => ?_)
  · exact (w_Mo_putting_b19 hQ (w_Mo_putting_b20 hQ)) x0 x1 x2 x3 x0 h1 E
  · refine z_iload_n 2 d_Mo_putting_8 rfl rfl ?_
    obtain ⟨g6, v8, h5, e7, E⟩ := cI_some E
    refine z_invS (y := y_Mo_isGraph) (Mc := M_Mo_isGraph) (av := [.int x2]) (rest := [.ref x0]) ⟨zt_750, zt_751, zt_52⟩ zk_Mo_isGraph zy_Mo_isGraph (by decide) (Nat.le_of_ble_eq_true rfl) z00 rfl (Nat.le_of_ble_eq_true rfl) d_Mo_putting_9 (m_Mo_isGraph e7) ?_
    show Z X M_Mo_putting 0 0 h5 12 [(0, .ref x0), (1, .int x1), (2, .int x2), (3, .int x3)] [.int v8, .ref x0]
    refine z_if_eq (y := 0) (tgt := 19) d_Mo_putting_12 (by decide) E (fun E => ?_) (fun E => ?_)
    · exact (w_Mo_putting_b19 hQ (w_Mo_putting_b20 hQ)) x0 x1 x2 x3 x0 h5 E
    · refine z_iconst (v := (1 : Int32)) d_Mo_putting_15 (by decide) ?_
      refine z_goto (tgt := 20) d_Mo_putting_16 (by decide) ?_
      exact (w_Mo_putting_b20 hQ) x0 x1 x2 x3 x0 (1 : Int32) h5 E
theorem m_Mo_putting {l : Launch} {G : Nat} {x0 : Nat} {x1 : Int32} {x2 : Int32} {x3 : Int32} {h : pH} {r : pR} (E : f_Mo_putting G x0 x1 x2 x3 h = some r) : zMet l y_Mo_putting M_Mo_putting 0 0 [.ref x0, .int x1, .int x2, .int x3] h r :=
  zMet_of (by decide) rfl (Nat.le_of_ble_eq_true rfl) (fun p e s m args below meth c D0 cT => w_Mo_putting_b0 (X := (p, l, e, s, m, args, below, meth, c, D0, cT, h, _, 0, 0)) rfl x0 x1 x2 x3 h E)
def f_Mo_lean_b25 (G : Nat) (k26 : Int32 → pH → Option pR) (h : pH) : Option pR := k26 (0 : Int32) h
theorem f_Mo_lean_b25_eq (G : Nat) (k26 : Int32 → pH → Option pR) (h : pH) : f_Mo_lean_b25 G k26 h = (k26 (0 : Int32) h) := rfl
def f_Mo_lean_b26 (G : Nat) (s0 : Int32) (h : pH) : Option pR := (if isZ s0 = true then some (some (.int s0), h) else none)
theorem f_Mo_lean_b26_eq (G : Nat) (s0 : Int32) (h : pH) : f_Mo_lean_b26 G s0 h = ((if isZ s0 = true then some (some (.int s0), h) else none)) := rfl
def f_Mo_lean (G : Nat) (x0 : Nat) (x1 : Int32) (h : pH) : Option pR := cI true (f_Mo_isGraph G x1 h) fun v4 h1 => cI (oC h1 x0 4) (f_Mo_there G x0 v4 h1) fun v8 h5 => if v8 = 0 then ((f_Mo_lean_b25 G (f_Mo_lean_b26 G)) h5) else (cI (oC h5 x0 4) (f_Mo_search G x0 x1 x1 (2 : Int32) h5) fun v12 h9 => if v12 = 0 then ((f_Mo_lean_b26 G) (1 : Int32) h9) else ((f_Mo_lean_b25 G (f_Mo_lean_b26 G)) h9))
theorem f_Mo_lean_eq (G : Nat) (x0 : Nat) (x1 : Int32) (h : pH) : f_Mo_lean G x0 x1 h = (cI true (f_Mo_isGraph G x1 h) fun v4 h1 => cI (oC h1 x0 4) (f_Mo_there G x0 v4 h1) fun v8 h5 => if v8 = 0 then ((f_Mo_lean_b25 G (f_Mo_lean_b26 G)) h5) else (cI (oC h5 x0 4) (f_Mo_search G x0 x1 x1 (2 : Int32) h5) fun v12 h9 => if v12 = 0 then ((f_Mo_lean_b26 G) (1 : Int32) h9) else ((f_Mo_lean_b25 G (f_Mo_lean_b26 G)) h9))) := rfl
set_option maxRecDepth 100000 in
set_option maxHeartbeats 4000000 in
theorem w_Mo_lean_b25 {X : zX} {r : pR} {G : Nat} {k26 : Int32 → pH → Option pR} (hQ : zQ X r) (hk26 : ∀ (s0 : Int32) (h : pH), k26 s0 h = some r → Z X M_Mo_lean 0 0 h 26 [] [.int s0]) : ∀ (h : pH), f_Mo_lean_b25 G k26 h = some r → Z X M_Mo_lean 0 0 h 25 [] [] := by
  intro h E
  rw [f_Mo_lean_b25_eq] at E
  refine z_iconst (v := (0 : Int32)) d_Mo_lean_25 (by decide) ?_
  exact hk26 (0 : Int32) h E
set_option maxRecDepth 100000 in
set_option maxHeartbeats 4000000 in
theorem w_Mo_lean_b26 {X : zX} {r : pR} {G : Nat} (hQ : zQ X r) : ∀ (s0 : Int32) (h : pH), f_Mo_lean_b26 G s0 h = some r → Z X M_Mo_lean 0 0 h 26 [] [.int s0] := by
  intro s0 h E
  rw [f_Mo_lean_b26_eq] at E
  exact z_zreturn hQ rfl z00 d_Mo_lean_26 E
set_option maxRecDepth 100000 in
set_option maxHeartbeats 4000000 in
theorem w_Mo_lean_b0 {X : zX} {r : pR} {G : Nat} (hQ : zQ X r) : ∀ (x0 : Nat) (x1 : Int32) (h : pH), f_Mo_lean G x0 x1 h = some r → Z X M_Mo_lean 0 0 h 0 [(0, .ref x0), (1, .int x1)] [] := by
  intro x0 x1 h E
  rw [f_Mo_lean_eq] at E
  refine z_aload_n 0 d_Mo_lean_0 rfl rfl ?_
  refine z_iload_n 1 d_Mo_lean_1 rfl rfl ?_
  obtain ⟨g2, v4, h1, e3, E⟩ := cI_some E
  refine z_invS (y := y_Mo_isGraph) (Mc := M_Mo_isGraph) (av := [.int x1]) (rest := [.ref x0]) ⟨zt_750, zt_751, zt_52⟩ zk_Mo_isGraph zy_Mo_isGraph (by decide) (Nat.le_of_ble_eq_true rfl) z00 rfl (Nat.le_of_ble_eq_true rfl) d_Mo_lean_2 (m_Mo_isGraph e3) ?_
  show Z X M_Mo_lean 0 0 h1 5 [(0, .ref x0), (1, .int x1)] [.int v4, .ref x0]
  obtain ⟨g6, v8, h5, e7, E⟩ := cI_some E
  refine z_invV (ci := 4) (y := y_Mo_there) (Mc := M_Mo_there) (av := [.int v4]) (rest := []) rfl rfl ⟨zt_780, zt_782, zt_30, zt_52⟩ zk_Mo_there zy_Mo_there (by decide) (Nat.le_of_ble_eq_true rfl) z00 rfl (Nat.le_of_ble_eq_true rfl) d_Mo_lean_5 g6 (m_Mo_there e7) ?_
  show Z X M_Mo_lean 0 0 h5 8 [(0, .ref x0), (1, .int x1)] [.int v8]
  refine z_if_eq (y := 0) (tgt := 25) d_Mo_lean_8 (by decide) E (fun E => ?_) (fun E => ?_)
  · refine z_lv [] rfl ?_
    exact (w_Mo_lean_b25 hQ (w_Mo_lean_b26 hQ)) h5 E
  · refine z_aload_n 0 d_Mo_lean_11 rfl rfl ?_
    refine z_iload_n 1 d_Mo_lean_12 rfl rfl ?_
    refine z_iload_n 1 d_Mo_lean_13 rfl rfl ?_
    refine z_iconst (v := (2 : Int32)) d_Mo_lean_14 (by decide) ?_
    obtain ⟨g10, v12, h9, e11, E⟩ := cI_some E
    refine z_invV (ci := 4) (y := y_Mo_search) (Mc := M_Mo_search) (av := [.int x1, .int x1, .int (2 : Int32)]) (rest := []) rfl rfl ⟨zt_810, zt_812, zt_33, zt_52⟩ zk_Mo_search zy_Mo_search (by decide) (Nat.le_of_ble_eq_true rfl) z00 rfl (Nat.le_of_ble_eq_true rfl) d_Mo_lean_15 g10 (m_Mo_search e11) ?_
    show Z X M_Mo_lean 0 0 h9 18 [(0, .ref x0), (1, .int x1)] [.int v12]
    refine z_if_ne (y := 0) (tgt := 25) d_Mo_lean_18 (by decide) E (fun E => ?_) (fun E => ?_)
    · refine z_lv [] rfl ?_
      exact (w_Mo_lean_b25 hQ (w_Mo_lean_b26 hQ)) h9 E
    · refine z_iconst (v := (1 : Int32)) d_Mo_lean_21 (by decide) ?_
      refine z_goto (tgt := 26) d_Mo_lean_22 (by decide) ?_
      refine z_lv [] rfl ?_
      exact (w_Mo_lean_b26 hQ) (1 : Int32) h9 E
theorem m_Mo_lean {l : Launch} {G : Nat} {x0 : Nat} {x1 : Int32} {h : pH} {r : pR} (E : f_Mo_lean G x0 x1 h = some r) : zMet l y_Mo_lean M_Mo_lean 0 0 [.ref x0, .int x1] h r :=
  zMet_of (by decide) rfl (Nat.le_of_ble_eq_true rfl) (fun p e s m args below meth c D0 cT => w_Mo_lean_b0 (X := (p, l, e, s, m, args, below, meth, c, D0, cT, h, _, 0, 0)) rfl x0 x1 h E)
def f_Mo_core_b11 (G : Nat) : Nat → Nat → Int32 → Int32 → Int32 → pH → Option pR
  | 0 => fun _ _ _ _ _ => none
  | F + 1 => fun x0 x1 x2 x3 h => if x3 = 0 then (some (some (.int x2), h)) else (cI (oC h x0 4) (f_Mo_search G x0 x1 x1 (2 : Int32) h) fun v12 h9 => if v12 = 0 then ((f_Mo_core_b11 G F) x0 x1 x2 v12 h9) else (cI (oC h9 x0 4) (f_Mo_imageSize G x0 x1 h9) fun v16 h13 => cV (oC h13 x0 4) (f_Mo_keep G x0 x1 h13) fun h17 => (f_Mo_core_b11 G F) x0 x1 (x2 + 1) v12 h17))
theorem f_Mo_core_b11_eq (G : Nat) (F : Nat) (x0 : Nat) (x1 : Int32) (x2 : Int32) (x3 : Int32) (h : pH) : f_Mo_core_b11 G (F + 1) x0 x1 x2 x3 h = (if x3 = 0 then (some (some (.int x2), h)) else (cI (oC h x0 4) (f_Mo_search G x0 x1 x1 (2 : Int32) h) fun v12 h9 => if v12 = 0 then ((f_Mo_core_b11 G F) x0 x1 x2 v12 h9) else (cI (oC h9 x0 4) (f_Mo_imageSize G x0 x1 h9) fun v16 h13 => cV (oC h13 x0 4) (f_Mo_keep G x0 x1 h13) fun h17 => (f_Mo_core_b11 G F) x0 x1 (x2 + 1) v12 h17))) := rfl
def f_Mo_core (G : Nat) (x0 : Nat) (x1 : Int32) (h : pH) : Option pR := cI true (f_Mo_isGraph G x1 h) fun v4 h1 => cI (oC h1 x0 4) (f_Mo_there G x0 v4 h1) fun v8 h5 => (f_Mo_core_b11 G G) x0 x1 (0 : Int32) v8 h5
theorem f_Mo_core_eq (G : Nat) (x0 : Nat) (x1 : Int32) (h : pH) : f_Mo_core G x0 x1 h = (cI true (f_Mo_isGraph G x1 h) fun v4 h1 => cI (oC h1 x0 4) (f_Mo_there G x0 v4 h1) fun v8 h5 => (f_Mo_core_b11 G G) x0 x1 (0 : Int32) v8 h5) := rfl
set_option maxRecDepth 100000 in
set_option maxHeartbeats 4000000 in
theorem w_Mo_core_b11 {X : zX} {r : pR} {G : Nat} (hQ : zQ X r) : ∀ (F : Nat) (x0 : Nat) (x1 : Int32) (x2 : Int32) (x3 : Int32) (h : pH), f_Mo_core_b11 G F x0 x1 x2 x3 h = some r → Z X M_Mo_core 0 0 h 11 [(0, .ref x0), (1, .int x1), (2, .int x2), (3, .int x3)] [] := by
  intro F
  induction F with
  | zero => intro x0 x1 x2 x3 h E; exact nomatch (show (none : Option pR) = some _ from E)
  | succ F ih =>
    intro x0 x1 x2 x3 h E
    rw [f_Mo_core_b11_eq] at E
    refine z_iload_n 3 d_Mo_core_11 rfl rfl ?_
    refine z_if_eq (y := 0) (tgt := 45) d_Mo_core_12 (by decide) E (fun E => ?_) (fun E => ?_)
    · refine z_iload_n 2 d_Mo_core_45 rfl rfl ?_
      exact z_ireturn hQ rfl z00 d_Mo_core_46 E
    · refine z_aload_n 0 d_Mo_core_15 rfl rfl ?_
      refine z_iload_n 1 d_Mo_core_16 rfl rfl ?_
      refine z_iload_n 1 d_Mo_core_17 rfl rfl ?_
      refine z_iconst (v := (2 : Int32)) d_Mo_core_18 (by decide) ?_
      obtain ⟨g10, v12, h9, e11, E⟩ := cI_some E
      refine z_invV (ci := 4) (y := y_Mo_search) (Mc := M_Mo_search) (av := [.int x1, .int x1, .int (2 : Int32)]) (rest := []) rfl rfl ⟨zt_810, zt_812, zt_33, zt_52⟩ zk_Mo_search zy_Mo_search (by decide) (Nat.le_of_ble_eq_true rfl) z00 rfl (Nat.le_of_ble_eq_true rfl) d_Mo_core_19 g10 (m_Mo_search e11) ?_
      show Z X M_Mo_core 0 0 h9 22 [(0, .ref x0), (1, .int x1), (2, .int x2), (3, .int x3)] [.int v12]
      refine z_istore_n (lv2 := [(3, .int v12), (0, .ref x0), (1, .int x1), (2, .int x2)]) d_Mo_core_22 rfl (Nat.le_of_ble_eq_true rfl) rfl ?_
      refine z_iload_n 0 d_Mo_core_23 rfl rfl ?_
      refine z_if_eq (y := 0) (tgt := 11) d_Mo_core_24 (by decide) E (fun E => ?_) (fun E => ?_)
      · refine z_lv [1, 2, 3, 0] rfl ?_
        exact ih x0 x1 x2 v12 h9 E
      · refine z_iinc (v := (x2 + 1)) (lv2 := [(2, .int (x2 + 1)), (3, .int v12), (0, .ref x0), (1, .int x1)]) 3 d_Mo_core_27 rfl rfl (Nat.le_of_ble_eq_true rfl) rfl ?_
        refine z_aload_n 2 d_Mo_core_30 rfl rfl ?_
        refine z_iload_n 3 d_Mo_core_31 rfl rfl ?_
        obtain ⟨g14, v16, h13, e15, E⟩ := cI_some E
        refine z_invV (ci := 4) (y := y_Mo_imageSize) (Mc := M_Mo_imageSize) (av := [.int x1]) (rest := []) rfl rfl ⟨zt_842, zt_844, zt_41, zt_52⟩ zk_Mo_imageSize zy_Mo_imageSize (by decide) (Nat.le_of_ble_eq_true rfl) z00 rfl (Nat.le_of_ble_eq_true rfl) d_Mo_core_32 g14 (m_Mo_imageSize e15) ?_
        show Z X M_Mo_core 0 0 h13 35 [(2, .int (x2 + 1)), (3, .int v12), (0, .ref x0), (1, .int x1)] [.int v16]
        refine z_istore (lv2 := [(4, .int v16), (2, .int (x2 + 1)), (3, .int v12), (0, .ref x0), (1, .int x1)]) d_Mo_core_35 (Nat.le_of_ble_eq_true rfl) rfl ?_
        refine z_aload_n 3 d_Mo_core_37 rfl rfl ?_
        refine z_iload_n 4 d_Mo_core_38 rfl rfl ?_
        obtain ⟨g18, h17, e19, E⟩ := cV_some E
        refine z_invV (ci := 4) (y := y_Mo_keep) (Mc := M_Mo_keep) (av := [.int x1]) (rest := []) rfl rfl ⟨zt_768, zt_770, zt_29, zt_52⟩ zk_Mo_keep zy_Mo_keep (by decide) (Nat.le_of_ble_eq_true rfl) z00 rfl (Nat.le_of_ble_eq_true rfl) d_Mo_core_39 g18 (m_Mo_keep e19) ?_
        show Z X M_Mo_core 0 0 h17 42 [(4, .int v16), (2, .int (x2 + 1)), (3, .int v12), (0, .ref x0), (1, .int x1)] []
        refine z_goto (tgt := 11) d_Mo_core_42 (by decide) ?_
        refine z_lv [3, 4, 1, 2] rfl ?_
        exact ih x0 x1 (x2 + 1) v12 h17 E
set_option maxRecDepth 100000 in
set_option maxHeartbeats 4000000 in
theorem w_Mo_core_b0 {X : zX} {r : pR} {G : Nat} (hQ : zQ X r) : ∀ (x0 : Nat) (x1 : Int32) (h : pH), f_Mo_core G x0 x1 h = some r → Z X M_Mo_core 0 0 h 0 [(0, .ref x0), (1, .int x1)] [] := by
  intro x0 x1 h E
  rw [f_Mo_core_eq] at E
  refine z_iconst (v := (0 : Int32)) d_Mo_core_0 (by decide) ?_
  refine z_istore_n (lv2 := [(2, .int (0 : Int32)), (0, .ref x0), (1, .int x1)]) d_Mo_core_1 rfl (Nat.le_of_ble_eq_true rfl) rfl ?_
  refine z_aload_n 1 d_Mo_core_2 rfl rfl ?_
  refine z_iload_n 2 d_Mo_core_3 rfl rfl ?_
  obtain ⟨g2, v4, h1, e3, E⟩ := cI_some E
  refine z_invS (y := y_Mo_isGraph) (Mc := M_Mo_isGraph) (av := [.int x1]) (rest := [.ref x0]) ⟨zt_750, zt_751, zt_52⟩ zk_Mo_isGraph zy_Mo_isGraph (by decide) (Nat.le_of_ble_eq_true rfl) z00 rfl (Nat.le_of_ble_eq_true rfl) d_Mo_core_4 (m_Mo_isGraph e3) ?_
  show Z X M_Mo_core 0 0 h1 7 [(2, .int (0 : Int32)), (0, .ref x0), (1, .int x1)] [.int v4, .ref x0]
  obtain ⟨g6, v8, h5, e7, E⟩ := cI_some E
  refine z_invV (ci := 4) (y := y_Mo_there) (Mc := M_Mo_there) (av := [.int v4]) (rest := []) rfl rfl ⟨zt_780, zt_782, zt_30, zt_52⟩ zk_Mo_there zy_Mo_there (by decide) (Nat.le_of_ble_eq_true rfl) z00 rfl (Nat.le_of_ble_eq_true rfl) d_Mo_core_7 g6 (m_Mo_there e7) ?_
  show Z X M_Mo_core 0 0 h5 10 [(2, .int (0 : Int32)), (0, .ref x0), (1, .int x1)] [.int v8]
  refine z_istore_n (lv2 := [(3, .int v8), (2, .int (0 : Int32)), (0, .ref x0), (1, .int x1)]) d_Mo_core_10 rfl (Nat.le_of_ble_eq_true rfl) rfl ?_
  refine z_lv [2, 3, 1, 0] rfl ?_
  exact (w_Mo_core_b11 hQ G) x0 x1 (0 : Int32) v8 h5 E
theorem m_Mo_core {l : Launch} {G : Nat} {x0 : Nat} {x1 : Int32} {h : pH} {r : pR} (E : f_Mo_core G x0 x1 h = some r) : zMet l y_Mo_core M_Mo_core 0 0 [.ref x0, .int x1] h r :=
  zMet_of (by decide) rfl (Nat.le_of_ble_eq_true rfl) (fun p e s m args below meth c D0 cT => w_Mo_core_b0 (X := (p, l, e, s, m, args, below, meth, c, D0, cT, h, _, 0, 0)) rfl x0 x1 h E)
def f_Mo_isBefore_b45 (G : Nat) (s0 : Int32) (h : pH) : Option pR := (if isZ s0 = true then some (some (.int s0), h) else none)
theorem f_Mo_isBefore_b45_eq (G : Nat) (s0 : Int32) (h : pH) : f_Mo_isBefore_b45 G s0 h = ((if isZ s0 = true then some (some (.int s0), h) else none)) := rfl
def f_Mo_isBefore_b2 (G : Nat) : Nat → Nat → Int32 → pH → Option pR
  | 0 => fun _ _ _ => none
  | F + 1 => fun x0 x1 h => (gI h x0 4 4).bind fun v1 => if v1 ≤ x1 then ((if isZ (0 : Int32) = true then some (some (.int (0 : Int32)), h) else none)) else ((gR h x0 4 3).bind fun v2 => (aI h v2 x1).bind fun v3 => (gR h x0 4 5).bind fun v4 => (aI h v4 x1).bind fun v5 => if v3 = v5 then ((f_Mo_isBefore_b2 G F) x0 (x1 + 1) h) else ((gR h x0 4 3).bind fun v6 => (aI h v6 x1).bind fun v7 => (gR h x0 4 5).bind fun v8 => (aI h v8 x1).bind fun v9 => if v9 ≤ v7 then ((f_Mo_isBefore_b45 G) (0 : Int32) h) else ((f_Mo_isBefore_b45 G) (1 : Int32) h)))
theorem f_Mo_isBefore_b2_eq (G : Nat) (F : Nat) (x0 : Nat) (x1 : Int32) (h : pH) : f_Mo_isBefore_b2 G (F + 1) x0 x1 h = ((gI h x0 4 4).bind fun v1 => if v1 ≤ x1 then ((if isZ (0 : Int32) = true then some (some (.int (0 : Int32)), h) else none)) else ((gR h x0 4 3).bind fun v2 => (aI h v2 x1).bind fun v3 => (gR h x0 4 5).bind fun v4 => (aI h v4 x1).bind fun v5 => if v3 = v5 then ((f_Mo_isBefore_b2 G F) x0 (x1 + 1) h) else ((gR h x0 4 3).bind fun v6 => (aI h v6 x1).bind fun v7 => (gR h x0 4 5).bind fun v8 => (aI h v8 x1).bind fun v9 => if v9 ≤ v7 then ((f_Mo_isBefore_b45 G) (0 : Int32) h) else ((f_Mo_isBefore_b45 G) (1 : Int32) h)))) := rfl
def f_Mo_isBefore (G : Nat) (x0 : Nat) (h : pH) : Option pR := (f_Mo_isBefore_b2 G G) x0 (0 : Int32) h
theorem f_Mo_isBefore_eq (G : Nat) (x0 : Nat) (h : pH) : f_Mo_isBefore G x0 h = ((f_Mo_isBefore_b2 G G) x0 (0 : Int32) h) := rfl
set_option maxRecDepth 100000 in
set_option maxHeartbeats 4000000 in
theorem w_Mo_isBefore_b45 {X : zX} {r : pR} {G : Nat} (hQ : zQ X r) : ∀ (s0 : Int32) (h : pH), f_Mo_isBefore_b45 G s0 h = some r → Z X M_Mo_isBefore 0 0 h 45 [] [.int s0] := by
  intro s0 h E
  rw [f_Mo_isBefore_b45_eq] at E
  exact z_zreturn hQ rfl z00 d_Mo_isBefore_45 E
set_option maxRecDepth 100000 in
set_option maxHeartbeats 4000000 in
theorem w_Mo_isBefore_b2 {X : zX} {r : pR} {G : Nat} (hQ : zQ X r) : ∀ (F : Nat) (x0 : Nat) (x1 : Int32) (h : pH), f_Mo_isBefore_b2 G F x0 x1 h = some r → Z X M_Mo_isBefore 0 0 h 2 [(0, .ref x0), (1, .int x1)] [] := by
  intro F
  induction F with
  | zero => intro x0 x1 h E; exact nomatch (show (none : Option pR) = some _ from E)
  | succ F ih =>
    intro x0 x1 h E
    rw [f_Mo_isBefore_b2_eq] at E
    refine z_iload_n 1 d_Mo_isBefore_2 rfl rfl ?_
    refine z_aload_n 0 d_Mo_isBefore_3 rfl rfl ?_
    refine z_getI (ci := 4) (j := 4) rfl (by decide) zf_Mo_54 d_Mo_isBefore_4 E (fun v1 _ E => ?_)
    refine z_ic_ge (tgt := 52) d_Mo_isBefore_7 (by decide) E (fun E => ?_) (fun E => ?_)
    · refine z_iconst (v := (0 : Int32)) d_Mo_isBefore_52 (by decide) ?_
      exact z_zreturn hQ rfl z00 d_Mo_isBefore_53 E
    · refine z_aload_n 0 d_Mo_isBefore_10 rfl rfl ?_
      refine z_getR (ci := 4) (j := 3) rfl (by decide) zf_Mo_16 d_Mo_isBefore_11 E (fun v2 _ E => ?_)
      refine z_iload_n 1 d_Mo_isBefore_14 rfl rfl ?_
      refine z_iaload d_Mo_isBefore_15 E (fun v3 _ E => ?_)
      refine z_aload_n 0 d_Mo_isBefore_16 rfl rfl ?_
      refine z_getR (ci := 4) (j := 5) rfl (by decide) zf_Mo_19 d_Mo_isBefore_17 E (fun v4 _ E => ?_)
      refine z_iload_n 1 d_Mo_isBefore_20 rfl rfl ?_
      refine z_iaload d_Mo_isBefore_21 E (fun v5 _ E => ?_)
      refine z_ic_eq (tgt := 46) d_Mo_isBefore_22 (by decide) E (fun E => ?_) (fun E => ?_)
      · refine z_iinc (v := (x1 + 1)) (lv2 := [(1, .int (x1 + 1)), (0, .ref x0)]) 1 d_Mo_isBefore_46 rfl rfl (Nat.le_of_ble_eq_true rfl) rfl ?_
        refine z_goto (tgt := 2) d_Mo_isBefore_49 (by decide) ?_
        refine z_lv [1, 0] rfl ?_
        exact ih x0 (x1 + 1) h E
      · refine z_aload_n 0 d_Mo_isBefore_25 rfl rfl ?_
        refine z_getR (ci := 4) (j := 3) rfl (by decide) zf_Mo_16 d_Mo_isBefore_26 E (fun v6 _ E => ?_)
        refine z_iload_n 1 d_Mo_isBefore_29 rfl rfl ?_
        refine z_iaload d_Mo_isBefore_30 E (fun v7 _ E => ?_)
        refine z_aload_n 0 d_Mo_isBefore_31 rfl rfl ?_
        refine z_getR (ci := 4) (j := 5) rfl (by decide) zf_Mo_19 d_Mo_isBefore_32 E (fun v8 _ E => ?_)
        refine z_iload_n 1 d_Mo_isBefore_35 rfl rfl ?_
        refine z_iaload d_Mo_isBefore_36 E (fun v9 _ E => ?_)
        refine z_ic_ge (tgt := 44) d_Mo_isBefore_37 (by decide) E (fun E => ?_) (fun E => ?_)
        · refine z_iconst (v := (0 : Int32)) d_Mo_isBefore_44 (by decide) ?_
          refine z_lv [] rfl ?_
          exact (w_Mo_isBefore_b45 hQ) (0 : Int32) h E
        · refine z_iconst (v := (1 : Int32)) d_Mo_isBefore_40 (by decide) ?_
          refine z_goto (tgt := 45) d_Mo_isBefore_41 (by decide) ?_
          refine z_lv [] rfl ?_
          exact (w_Mo_isBefore_b45 hQ) (1 : Int32) h E
set_option maxRecDepth 100000 in
set_option maxHeartbeats 4000000 in
theorem w_Mo_isBefore_b0 {X : zX} {r : pR} {G : Nat} (hQ : zQ X r) : ∀ (x0 : Nat) (h : pH), f_Mo_isBefore G x0 h = some r → Z X M_Mo_isBefore 0 0 h 0 [(0, .ref x0)] [] := by
  intro x0 h E
  rw [f_Mo_isBefore_eq] at E
  refine z_iconst (v := (0 : Int32)) d_Mo_isBefore_0 (by decide) ?_
  refine z_istore_n (lv2 := [(1, .int (0 : Int32)), (0, .ref x0)]) d_Mo_isBefore_1 rfl (Nat.le_of_ble_eq_true rfl) rfl ?_
  refine z_lv [1, 0] rfl ?_
  exact (w_Mo_isBefore_b2 hQ G) x0 (0 : Int32) h E
theorem m_Mo_isBefore {l : Launch} {G : Nat} {x0 : Nat} {h : pH} {r : pR} (E : f_Mo_isBefore G x0 h = some r) : zMet l y_Mo_isBefore M_Mo_isBefore 0 0 [.ref x0] h r :=
  zMet_of (by decide) rfl (Nat.le_of_ble_eq_true rfl) (fun p e s m args below meth c D0 cT => w_Mo_isBefore_b0 (X := (p, l, e, s, m, args, below, meth, c, D0, cT, h, _, 0, 0)) rfl x0 h E)
def f_Mo_findForm_b146 (G : Nat) (k173 : Nat → Int32 → Int32 → Int32 → Int32 → pH → Option pR) : Nat → Nat → Int32 → Int32 → Int32 → Int32 → Int32 → Int32 → pH → Option pR
  | 0 => fun _ _ _ _ _ _ _ _ => none
  | F + 1 => fun x0 x1 x2 x3 x4 x7 x8 h => if x7 ≤ x8 then (k173 x0 x1 x2 x3 x4 h) else ((gR h x0 4 5).bind fun v23 => (gR h x0 4 3).bind fun v24 => (aI h v24 x8).bind fun v25 => (sI h v23 x8 v25).bind fun h26 => (f_Mo_findForm_b146 G k173 F) x0 x1 x2 x3 x4 x7 (x8 + 1) h26)
theorem f_Mo_findForm_b146_eq (G : Nat) (k173 : Nat → Int32 → Int32 → Int32 → Int32 → pH → Option pR) (F : Nat) (x0 : Nat) (x1 : Int32) (x2 : Int32) (x3 : Int32) (x4 : Int32) (x7 : Int32) (x8 : Int32) (h : pH) : f_Mo_findForm_b146 G k173 (F + 1) x0 x1 x2 x3 x4 x7 x8 h = (if x7 ≤ x8 then (k173 x0 x1 x2 x3 x4 h) else ((gR h x0 4 5).bind fun v23 => (gR h x0 4 3).bind fun v24 => (aI h v24 x8).bind fun v25 => (sI h v23 x8 v25).bind fun h26 => (f_Mo_findForm_b146 G k173 F) x0 x1 x2 x3 x4 x7 (x8 + 1) h26)) := rfl
def f_Mo_findForm_b106 (G : Nat) (k107 : Nat → Int32 → Int32 → Int32 → Int32 → Int32 → Int32 → Int32 → pH → Option pR) (x0 : Nat) (x1 : Int32) (x2 : Int32) (x3 : Int32) (x4 : Int32) (x5 : Int32) (x7 : Int32) (h : pH) : Option pR := k107 x0 x1 x2 x3 x4 x5 x7 (0 : Int32) h
theorem f_Mo_findForm_b106_eq (G : Nat) (k107 : Nat → Int32 → Int32 → Int32 → Int32 → Int32 → Int32 → Int32 → pH → Option pR) (x0 : Nat) (x1 : Int32) (x2 : Int32) (x3 : Int32) (x4 : Int32) (x5 : Int32) (x7 : Int32) (h : pH) : f_Mo_findForm_b106 G k107 x0 x1 x2 x3 x4 x5 x7 h = (k107 x0 x1 x2 x3 x4 x5 x7 (0 : Int32) h) := rfl
def f_Mo_findForm_b107 (G : Nat) (k53 : Nat → Int32 → Int32 → Int32 → Int32 → Int32 → Int32 → Int32 → pH → Option pR) (x0 : Nat) (x1 : Int32) (x2 : Int32) (x3 : Int32) (x4 : Int32) (x5 : Int32) (x7 : Int32) (s0 : Int32) (h : pH) : Option pR := k53 x0 x1 x2 x3 x4 x5 s0 (x7 + 1) h
theorem f_Mo_findForm_b107_eq (G : Nat) (k53 : Nat → Int32 → Int32 → Int32 → Int32 → Int32 → Int32 → Int32 → pH → Option pR) (x0 : Nat) (x1 : Int32) (x2 : Int32) (x3 : Int32) (x4 : Int32) (x5 : Int32) (x7 : Int32) (s0 : Int32) (h : pH) : f_Mo_findForm_b107 G k53 x0 x1 x2 x3 x4 x5 x7 s0 h = (k53 x0 x1 x2 x3 x4 x5 s0 (x7 + 1) h) := rfl
def f_Mo_findForm_b141 (G : Nat) (k173 : Nat → Int32 → Int32 → Int32 → Int32 → pH → Option pR) (x0 : Nat) (x1 : Int32) (x2 : Int32) (x4 : Int32) (x7 : Int32) (h : pH) : Option pR := (f_Mo_findForm_b146 G k173 G) x0 x1 x2 (1 : Int32) x4 x7 (0 : Int32) h
theorem f_Mo_findForm_b141_eq (G : Nat) (k173 : Nat → Int32 → Int32 → Int32 → Int32 → pH → Option pR) (x0 : Nat) (x1 : Int32) (x2 : Int32) (x4 : Int32) (x7 : Int32) (h : pH) : f_Mo_findForm_b141 G k173 x0 x1 x2 x4 x7 h = ((f_Mo_findForm_b146 G k173 G) x0 x1 x2 (1 : Int32) x4 x7 (0 : Int32) h) := rfl
def f_Mo_findForm_b173 (G : Nat) (k37 : Nat → Int32 → Int32 → Int32 → Int32 → pH → Option pR) (x0 : Nat) (x1 : Int32) (x2 : Int32) (x3 : Int32) (x4 : Int32) (h : pH) : Option pR := k37 x0 x1 x2 x3 (x4 + 1) h
theorem f_Mo_findForm_b173_eq (G : Nat) (k37 : Nat → Int32 → Int32 → Int32 → Int32 → pH → Option pR) (x0 : Nat) (x1 : Int32) (x2 : Int32) (x3 : Int32) (x4 : Int32) (h : pH) : f_Mo_findForm_b173 G k37 x0 x1 x2 x3 x4 h = (k37 x0 x1 x2 x3 (x4 + 1) h) := rfl
def f_Mo_findForm_b53 (G : Nat) (k37 : Nat → Int32 → Int32 → Int32 → Int32 → pH → Option pR) : Nat → Nat → Int32 → Int32 → Int32 → Int32 → Int32 → Int32 → Int32 → pH → Option pR
  | 0 => fun _ _ _ _ _ _ _ _ _ => none
  | F + 1 => fun x0 x1 x2 x3 x4 x5 x6 x7 h => (gI h x0 4 7).bind fun v6 => if v6 ≤ x7 then (if x6 = 0 then ((f_Mo_findForm_b173 G k37) x0 x1 x2 x3 x4 h) else (cI (oC h x0 4) (f_Mo_imageSize G x0 x1 h) fun v10 h7 => if x3 = 0 then ((f_Mo_findForm_b141 G (f_Mo_findForm_b173 G k37)) x0 x1 x2 x4 v10 h7) else (cI (oC h7 x0 4) (f_Mo_isBefore G x0 h7) fun v14 h11 => if v14 = 0 then ((f_Mo_findForm_b173 G k37) x0 x1 x2 x3 x4 h11) else ((f_Mo_findForm_b141 G (f_Mo_findForm_b173 G k37)) x0 x1 x2 x4 v10 h11)))) else ((gR h x0 4 11).bind fun v15 => (gI h x0 4 7).bind fun v16 => (if v16 = 0 then none else (sI h v15 x7 ((40 : Int32) + (x5 - x5 / v16 * v16))).bind fun h17 => (gI h17 x0 4 7).bind fun v18 => (if v18 = 0 then none else if x6 = 0 then ((f_Mo_findForm_b106 G (f_Mo_findForm_b107 G (f_Mo_findForm_b53 G k37 F))) x0 x1 x2 x3 x4 (x5 / v18) x7 h17) else (cI (oC h17 x0 4) (f_Mo_isNew G x0 x7 h17) fun v22 h19 => if v22 = 0 then ((f_Mo_findForm_b106 G (f_Mo_findForm_b107 G (f_Mo_findForm_b53 G k37 F))) x0 x1 x2 x3 x4 (x5 / v18) x7 h19) else ((f_Mo_findForm_b107 G (f_Mo_findForm_b53 G k37 F)) x0 x1 x2 x3 x4 (x5 / v18) x7 (1 : Int32) h19)))))
theorem f_Mo_findForm_b53_eq (G : Nat) (k37 : Nat → Int32 → Int32 → Int32 → Int32 → pH → Option pR) (F : Nat) (x0 : Nat) (x1 : Int32) (x2 : Int32) (x3 : Int32) (x4 : Int32) (x5 : Int32) (x6 : Int32) (x7 : Int32) (h : pH) : f_Mo_findForm_b53 G k37 (F + 1) x0 x1 x2 x3 x4 x5 x6 x7 h = ((gI h x0 4 7).bind fun v6 => if v6 ≤ x7 then (if x6 = 0 then ((f_Mo_findForm_b173 G k37) x0 x1 x2 x3 x4 h) else (cI (oC h x0 4) (f_Mo_imageSize G x0 x1 h) fun v10 h7 => if x3 = 0 then ((f_Mo_findForm_b141 G (f_Mo_findForm_b173 G k37)) x0 x1 x2 x4 v10 h7) else (cI (oC h7 x0 4) (f_Mo_isBefore G x0 h7) fun v14 h11 => if v14 = 0 then ((f_Mo_findForm_b173 G k37) x0 x1 x2 x3 x4 h11) else ((f_Mo_findForm_b141 G (f_Mo_findForm_b173 G k37)) x0 x1 x2 x4 v10 h11)))) else ((gR h x0 4 11).bind fun v15 => (gI h x0 4 7).bind fun v16 => (if v16 = 0 then none else (sI h v15 x7 ((40 : Int32) + (x5 - x5 / v16 * v16))).bind fun h17 => (gI h17 x0 4 7).bind fun v18 => (if v18 = 0 then none else if x6 = 0 then ((f_Mo_findForm_b106 G (f_Mo_findForm_b107 G (f_Mo_findForm_b53 G k37 F))) x0 x1 x2 x3 x4 (x5 / v18) x7 h17) else (cI (oC h17 x0 4) (f_Mo_isNew G x0 x7 h17) fun v22 h19 => if v22 = 0 then ((f_Mo_findForm_b106 G (f_Mo_findForm_b107 G (f_Mo_findForm_b53 G k37 F))) x0 x1 x2 x3 x4 (x5 / v18) x7 h19) else ((f_Mo_findForm_b107 G (f_Mo_findForm_b53 G k37 F)) x0 x1 x2 x3 x4 (x5 / v18) x7 (1 : Int32) h19)))))) := rfl
def f_Mo_findForm_b37 (G : Nat) : Nat → Nat → Int32 → Int32 → Int32 → Int32 → pH → Option pR
  | 0 => fun _ _ _ _ _ _ => none
  | F + 1 => fun x0 x1 x2 x3 x4 h => if x2 ≤ x4 then (some (none, h)) else ((f_Mo_findForm_b53 G (f_Mo_findForm_b37 G F) G) x0 x1 x2 x3 x4 x4 (1 : Int32) (0 : Int32) h)
theorem f_Mo_findForm_b37_eq (G : Nat) (F : Nat) (x0 : Nat) (x1 : Int32) (x2 : Int32) (x3 : Int32) (x4 : Int32) (h : pH) : f_Mo_findForm_b37 G (F + 1) x0 x1 x2 x3 x4 h = (if x2 ≤ x4 then (some (none, h)) else ((f_Mo_findForm_b53 G (f_Mo_findForm_b37 G F) G) x0 x1 x2 x3 x4 x4 (1 : Int32) (0 : Int32) h)) := rfl
def f_Mo_findForm_b11 (G : Nat) : Nat → Nat → Int32 → Int32 → Int32 → pH → Option pR
  | 0 => fun _ _ _ _ _ => none
  | F + 1 => fun x0 x1 x2 x3 h => (gI h x0 4 7).bind fun v4 => if v4 ≤ x3 then ((f_Mo_findForm_b37 G G) x0 x1 x2 (0 : Int32) (0 : Int32) h) else ((gI h x0 4 7).bind fun v5 => (f_Mo_findForm_b11 G F) x0 x1 (x2 * v5) (x3 + 1) h)
theorem f_Mo_findForm_b11_eq (G : Nat) (F : Nat) (x0 : Nat) (x1 : Int32) (x2 : Int32) (x3 : Int32) (h : pH) : f_Mo_findForm_b11 G (F + 1) x0 x1 x2 x3 h = ((gI h x0 4 7).bind fun v4 => if v4 ≤ x3 then ((f_Mo_findForm_b37 G G) x0 x1 x2 (0 : Int32) (0 : Int32) h) else ((gI h x0 4 7).bind fun v5 => (f_Mo_findForm_b11 G F) x0 x1 (x2 * v5) (x3 + 1) h)) := rfl
def f_Mo_findForm (G : Nat) (x0 : Nat) (x1 : Int32) (h : pH) : Option pR := cV (oC h x0 4) (f_Mo_prepare G x0 x1 x1 (0 : Int32) h) fun h1 => (f_Mo_findForm_b11 G G) x0 x1 (1 : Int32) (0 : Int32) h1
theorem f_Mo_findForm_eq (G : Nat) (x0 : Nat) (x1 : Int32) (h : pH) : f_Mo_findForm G x0 x1 h = (cV (oC h x0 4) (f_Mo_prepare G x0 x1 x1 (0 : Int32) h) fun h1 => (f_Mo_findForm_b11 G G) x0 x1 (1 : Int32) (0 : Int32) h1) := rfl
set_option maxRecDepth 100000 in
set_option maxHeartbeats 4000000 in
theorem w_Mo_findForm_b146 {X : zX} {r : pR} {G : Nat} {k173 : Nat → Int32 → Int32 → Int32 → Int32 → pH → Option pR} (hQ : zQ X r) (hk173 : ∀ (x0 : Nat) (x1 : Int32) (x2 : Int32) (x3 : Int32) (x4 : Int32) (h : pH), k173 x0 x1 x2 x3 x4 h = some r → Z X M_Mo_findForm 0 0 h 173 [(0, .ref x0), (1, .int x1), (2, .int x2), (3, .int x3), (4, .int x4)] []) : ∀ (F : Nat) (x0 : Nat) (x1 : Int32) (x2 : Int32) (x3 : Int32) (x4 : Int32) (x7 : Int32) (x8 : Int32) (h : pH), f_Mo_findForm_b146 G k173 F x0 x1 x2 x3 x4 x7 x8 h = some r → Z X M_Mo_findForm 0 0 h 146 [(0, .ref x0), (1, .int x1), (2, .int x2), (3, .int x3), (4, .int x4), (7, .int x7), (8, .int x8)] [] := by
  intro F
  induction F with
  | zero => intro x0 x1 x2 x3 x4 x7 x8 h E; exact nomatch (show (none : Option pR) = some _ from E)
  | succ F ih =>
    intro x0 x1 x2 x3 x4 x7 x8 h E
    rw [f_Mo_findForm_b146_eq] at E
    refine z_iload 6 d_Mo_findForm_146 rfl ?_
    refine z_iload 5 d_Mo_findForm_148 rfl ?_
    refine z_ic_ge (tgt := 173) d_Mo_findForm_150 (by decide) E (fun E => ?_) (fun E => ?_)
    · refine z_lv [0, 1, 2, 3, 4] rfl ?_
      exact hk173 x0 x1 x2 x3 x4 h E
    · refine z_aload_n 0 d_Mo_findForm_153 rfl rfl ?_
      refine z_getR (ci := 4) (j := 5) rfl (by decide) zf_Mo_19 d_Mo_findForm_154 E (fun v23 _ E => ?_)
      refine z_iload 6 d_Mo_findForm_157 rfl ?_
      refine z_aload_n 0 d_Mo_findForm_159 rfl rfl ?_
      refine z_getR (ci := 4) (j := 3) rfl (by decide) zf_Mo_16 d_Mo_findForm_160 E (fun v24 _ E => ?_)
      refine z_iload 6 d_Mo_findForm_163 rfl ?_
      refine z_iaload d_Mo_findForm_165 E (fun v25 _ E => ?_)
      refine z_iastore d_Mo_findForm_166 E (fun h26 _ E => ?_)
      refine z_iinc (v := (x8 + 1)) (lv2 := [(8, .int (x8 + 1)), (0, .ref x0), (1, .int x1), (2, .int x2), (3, .int x3), (4, .int x4), (7, .int x7)]) 6 d_Mo_findForm_167 rfl rfl (Nat.le_of_ble_eq_true rfl) rfl ?_
      refine z_goto (tgt := 146) d_Mo_findForm_170 (by decide) ?_
      refine z_lv [1, 2, 3, 4, 5, 6, 0] rfl ?_
      exact ih x0 x1 x2 x3 x4 x7 (x8 + 1) h26 E
set_option maxRecDepth 100000 in
set_option maxHeartbeats 4000000 in
theorem w_Mo_findForm_b106 {X : zX} {r : pR} {G : Nat} {k107 : Nat → Int32 → Int32 → Int32 → Int32 → Int32 → Int32 → Int32 → pH → Option pR} (hQ : zQ X r) (hk107 : ∀ (x0 : Nat) (x1 : Int32) (x2 : Int32) (x3 : Int32) (x4 : Int32) (x5 : Int32) (x7 : Int32) (s0 : Int32) (h : pH), k107 x0 x1 x2 x3 x4 x5 x7 s0 h = some r → Z X M_Mo_findForm 0 0 h 107 [(0, .ref x0), (1, .int x1), (2, .int x2), (3, .int x3), (4, .int x4), (5, .int x5), (7, .int x7)] [.int s0]) : ∀ (x0 : Nat) (x1 : Int32) (x2 : Int32) (x3 : Int32) (x4 : Int32) (x5 : Int32) (x7 : Int32) (h : pH), f_Mo_findForm_b106 G k107 x0 x1 x2 x3 x4 x5 x7 h = some r → Z X M_Mo_findForm 0 0 h 106 [(0, .ref x0), (1, .int x1), (2, .int x2), (3, .int x3), (4, .int x4), (5, .int x5), (7, .int x7)] [] := by
  intro x0 x1 x2 x3 x4 x5 x7 h E
  rw [f_Mo_findForm_b106_eq] at E
  refine z_iconst (v := (0 : Int32)) d_Mo_findForm_106 (by decide) ?_
  exact hk107 x0 x1 x2 x3 x4 x5 x7 (0 : Int32) h E
set_option maxRecDepth 100000 in
set_option maxHeartbeats 4000000 in
theorem w_Mo_findForm_b107 {X : zX} {r : pR} {G : Nat} {k53 : Nat → Int32 → Int32 → Int32 → Int32 → Int32 → Int32 → Int32 → pH → Option pR} (hQ : zQ X r) (hk53 : ∀ (x0 : Nat) (x1 : Int32) (x2 : Int32) (x3 : Int32) (x4 : Int32) (x5 : Int32) (x6 : Int32) (x7 : Int32) (h : pH), k53 x0 x1 x2 x3 x4 x5 x6 x7 h = some r → Z X M_Mo_findForm 0 0 h 53 [(0, .ref x0), (1, .int x1), (2, .int x2), (3, .int x3), (4, .int x4), (5, .int x5), (6, .int x6), (7, .int x7)] []) : ∀ (x0 : Nat) (x1 : Int32) (x2 : Int32) (x3 : Int32) (x4 : Int32) (x5 : Int32) (x7 : Int32) (s0 : Int32) (h : pH), f_Mo_findForm_b107 G k53 x0 x1 x2 x3 x4 x5 x7 s0 h = some r → Z X M_Mo_findForm 0 0 h 107 [(0, .ref x0), (1, .int x1), (2, .int x2), (3, .int x3), (4, .int x4), (5, .int x5), (7, .int x7)] [.int s0] := by
  intro x0 x1 x2 x3 x4 x5 x7 s0 h E
  rw [f_Mo_findForm_b107_eq] at E
  refine z_istore (lv2 := [(6, .int s0), (0, .ref x0), (1, .int x1), (2, .int x2), (3, .int x3), (4, .int x4), (5, .int x5), (7, .int x7)]) d_Mo_findForm_107 (Nat.le_of_ble_eq_true rfl) rfl ?_
  refine z_iinc (v := (x7 + 1)) (lv2 := [(7, .int (x7 + 1)), (6, .int s0), (0, .ref x0), (1, .int x1), (2, .int x2), (3, .int x3), (4, .int x4), (5, .int x5)]) 7 d_Mo_findForm_109 rfl rfl (Nat.le_of_ble_eq_true rfl) rfl ?_
  refine z_goto (tgt := 53) d_Mo_findForm_112 (by decide) ?_
  refine z_lv [2, 3, 4, 5, 6, 7, 1, 0] rfl ?_
  exact hk53 x0 x1 x2 x3 x4 x5 s0 (x7 + 1) h E
set_option maxRecDepth 100000 in
set_option maxHeartbeats 4000000 in
theorem w_Mo_findForm_b141 {X : zX} {r : pR} {G : Nat} {k173 : Nat → Int32 → Int32 → Int32 → Int32 → pH → Option pR} (hQ : zQ X r) (hk173 : ∀ (x0 : Nat) (x1 : Int32) (x2 : Int32) (x3 : Int32) (x4 : Int32) (h : pH), k173 x0 x1 x2 x3 x4 h = some r → Z X M_Mo_findForm 0 0 h 173 [(0, .ref x0), (1, .int x1), (2, .int x2), (3, .int x3), (4, .int x4)] []) : ∀ (x0 : Nat) (x1 : Int32) (x2 : Int32) (x4 : Int32) (x7 : Int32) (h : pH), f_Mo_findForm_b141 G k173 x0 x1 x2 x4 x7 h = some r → Z X M_Mo_findForm 0 0 h 141 [(0, .ref x0), (1, .int x1), (2, .int x2), (4, .int x4), (7, .int x7)] [] := by
  intro x0 x1 x2 x4 x7 h E
  rw [f_Mo_findForm_b141_eq] at E
  refine z_iconst (v := (1 : Int32)) d_Mo_findForm_141 (by decide) ?_
  refine z_istore_n (lv2 := [(3, .int (1 : Int32)), (0, .ref x0), (1, .int x1), (2, .int x2), (4, .int x4), (7, .int x7)]) d_Mo_findForm_142 rfl (Nat.le_of_ble_eq_true rfl) rfl ?_
  refine z_iconst (v := (0 : Int32)) d_Mo_findForm_143 (by decide) ?_
  refine z_istore (lv2 := [(8, .int (0 : Int32)), (3, .int (1 : Int32)), (0, .ref x0), (1, .int x1), (2, .int x2), (4, .int x4), (7, .int x7)]) d_Mo_findForm_144 (Nat.le_of_ble_eq_true rfl) rfl ?_
  refine z_lv [2, 3, 4, 1, 5, 6, 0] rfl ?_
  exact (w_Mo_findForm_b146 hQ hk173 G) x0 x1 x2 (1 : Int32) x4 x7 (0 : Int32) h E
set_option maxRecDepth 100000 in
set_option maxHeartbeats 4000000 in
theorem w_Mo_findForm_b173 {X : zX} {r : pR} {G : Nat} {k37 : Nat → Int32 → Int32 → Int32 → Int32 → pH → Option pR} (hQ : zQ X r) (hk37 : ∀ (x0 : Nat) (x1 : Int32) (x2 : Int32) (x3 : Int32) (x4 : Int32) (h : pH), k37 x0 x1 x2 x3 x4 h = some r → Z X M_Mo_findForm 0 0 h 37 [(0, .ref x0), (1, .int x1), (2, .int x2), (3, .int x3), (4, .int x4)] []) : ∀ (x0 : Nat) (x1 : Int32) (x2 : Int32) (x3 : Int32) (x4 : Int32) (h : pH), f_Mo_findForm_b173 G k37 x0 x1 x2 x3 x4 h = some r → Z X M_Mo_findForm 0 0 h 173 [(0, .ref x0), (1, .int x1), (2, .int x2), (3, .int x3), (4, .int x4)] [] := by
  intro x0 x1 x2 x3 x4 h E
  rw [f_Mo_findForm_b173_eq] at E
  refine z_iinc (v := (x4 + 1)) (lv2 := [(4, .int (x4 + 1)), (0, .ref x0), (1, .int x1), (2, .int x2), (3, .int x3)]) 4 d_Mo_findForm_173 rfl rfl (Nat.le_of_ble_eq_true rfl) rfl ?_
  refine z_goto (tgt := 37) d_Mo_findForm_176 (by decide) ?_
  refine z_lv [1, 2, 3, 4, 0] rfl ?_
  exact hk37 x0 x1 x2 x3 (x4 + 1) h E
set_option maxRecDepth 100000 in
set_option maxHeartbeats 4000000 in
theorem w_Mo_findForm_b53 {X : zX} {r : pR} {G : Nat} {k37 : Nat → Int32 → Int32 → Int32 → Int32 → pH → Option pR} (hQ : zQ X r) (hk37 : ∀ (x0 : Nat) (x1 : Int32) (x2 : Int32) (x3 : Int32) (x4 : Int32) (h : pH), k37 x0 x1 x2 x3 x4 h = some r → Z X M_Mo_findForm 0 0 h 37 [(0, .ref x0), (1, .int x1), (2, .int x2), (3, .int x3), (4, .int x4)] []) : ∀ (F : Nat) (x0 : Nat) (x1 : Int32) (x2 : Int32) (x3 : Int32) (x4 : Int32) (x5 : Int32) (x6 : Int32) (x7 : Int32) (h : pH), f_Mo_findForm_b53 G k37 F x0 x1 x2 x3 x4 x5 x6 x7 h = some r → Z X M_Mo_findForm 0 0 h 53 [(0, .ref x0), (1, .int x1), (2, .int x2), (3, .int x3), (4, .int x4), (5, .int x5), (6, .int x6), (7, .int x7)] [] := by
  intro F
  induction F with
  | zero => intro x0 x1 x2 x3 x4 x5 x6 x7 h E; exact nomatch (show (none : Option pR) = some _ from E)
  | succ F ih =>
    intro x0 x1 x2 x3 x4 x5 x6 x7 h E
    rw [f_Mo_findForm_b53_eq] at E
    refine z_iload 7 d_Mo_findForm_53 rfl ?_
    refine z_aload_n 0 d_Mo_findForm_55 rfl rfl ?_
    refine z_getI (ci := 4) (j := 7) rfl (by decide) zf_Mo_98 d_Mo_findForm_56 E (fun v6 _ E => ?_)
    refine z_ic_ge (tgt := 115) d_Mo_findForm_59 (by decide) E (fun E => ?_) (fun E => ?_)
    · refine z_iload 6 d_Mo_findForm_115 rfl ?_
      refine z_if_ne (y := 0) (tgt := 123) d_Mo_findForm_117 (by decide) E (fun E => ?_) (fun E => ?_)
      · refine z_aload_n 0 d_Mo_findForm_123 rfl rfl ?_
        refine z_iload_n 1 d_Mo_findForm_124 rfl rfl ?_
        obtain ⟨g8, v10, h7, e9, E⟩ := cI_some E
        refine z_invV (ci := 4) (y := y_Mo_imageSize) (Mc := M_Mo_imageSize) (av := [.int x1]) (rest := []) rfl rfl ⟨zt_842, zt_844, zt_41, zt_52⟩ zk_Mo_imageSize zy_Mo_imageSize (by decide) (Nat.le_of_ble_eq_true rfl) z00 rfl (Nat.le_of_ble_eq_true rfl) d_Mo_findForm_125 g8 (m_Mo_imageSize e9) ?_
        show Z X M_Mo_findForm 0 0 h7 128 [(0, .ref x0), (1, .int x1), (2, .int x2), (3, .int x3), (4, .int x4), (5, .int x5), (6, .int x6), (7, .int x7)] [.int v10]
        refine z_istore (lv2 := [(7, .int v10), (0, .ref x0), (1, .int x1), (2, .int x2), (3, .int x3), (4, .int x4), (5, .int x5), (6, .int x6)]) d_Mo_findForm_128 (Nat.le_of_ble_eq_true rfl) rfl ?_
        refine z_iload_n 4 d_Mo_findForm_130 rfl rfl ?_
        refine z_if_eq (y := 0) (tgt := 141) d_Mo_findForm_131 (by decide) E (fun E => ?_) (fun E => ?_)
        · refine z_lv [1, 2, 3, 5, 0] rfl ?_
          exact (w_Mo_findForm_b141 hQ (w_Mo_findForm_b173 hQ hk37)) x0 x1 x2 x4 v10 h7 E
        · refine z_aload_n 1 d_Mo_findForm_134 rfl rfl ?_
          obtain ⟨g12, v14, h11, e13, E⟩ := cI_some E
          refine z_invV (ci := 4) (y := y_Mo_isBefore) (Mc := M_Mo_isBefore) (av := []) (rest := []) rfl rfl ⟨zt_874, zt_876, zt_43, zt_52⟩ zk_Mo_isBefore zy_Mo_isBefore (by decide) (Nat.le_of_ble_eq_true rfl) z00 rfl (Nat.le_of_ble_eq_true rfl) d_Mo_findForm_135 g12 (m_Mo_isBefore e13) ?_
          show Z X M_Mo_findForm 0 0 h11 138 [(7, .int v10), (0, .ref x0), (1, .int x1), (2, .int x2), (3, .int x3), (4, .int x4), (5, .int x5), (6, .int x6)] [.int v14]
          refine z_if_eq (y := 0) (tgt := 173) d_Mo_findForm_138 (by decide) E (fun E => ?_) (fun E => ?_)
          · refine z_lv [1, 2, 3, 4, 5] rfl ?_
            exact (w_Mo_findForm_b173 hQ hk37) x0 x1 x2 x3 x4 h11 E
          · refine z_lv [1, 2, 3, 5, 0] rfl ?_
            exact (w_Mo_findForm_b141 hQ (w_Mo_findForm_b173 hQ hk37)) x0 x1 x2 x4 v10 h11 E
      · refine z_goto (tgt := 173) d_Mo_findForm_120 (by decide) ?_
        refine z_lv [0, 1, 2, 3, 4] rfl ?_
        exact (w_Mo_findForm_b173 hQ hk37) x0 x1 x2 x3 x4 h E
    · refine z_aload_n 0 d_Mo_findForm_62 rfl rfl ?_
      refine z_getR (ci := 4) (j := 11) rfl (by decide) zf_Mo_31 d_Mo_findForm_63 E (fun v15 _ E => ?_)
      refine z_iload 7 d_Mo_findForm_66 rfl ?_
      refine z_bipush (v := (40 : Int32)) d_Mo_findForm_68 (by decide) ?_
      refine z_iload 5 d_Mo_findForm_70 rfl ?_
      refine z_aload_n 0 d_Mo_findForm_72 rfl rfl ?_
      refine z_getI (ci := 4) (j := 7) rfl (by decide) zf_Mo_98 d_Mo_findForm_73 E (fun v16 _ E => ?_)
      refine z_irem d_Mo_findForm_76 E (fun E => ?_)
      refine z_iadd d_Mo_findForm_77 ?_
      refine z_iastore d_Mo_findForm_78 E (fun h17 _ E => ?_)
      refine z_iload 5 d_Mo_findForm_79 rfl ?_
      refine z_aload_n 0 d_Mo_findForm_81 rfl rfl ?_
      refine z_getI (ci := 4) (j := 7) rfl (by decide) zf_Mo_98 d_Mo_findForm_82 E (fun v18 _ E => ?_)
      refine z_idiv d_Mo_findForm_85 E (fun E => ?_)
      refine z_istore (lv2 := [(5, .int (x5 / v18)), (0, .ref x0), (1, .int x1), (2, .int x2), (3, .int x3), (4, .int x4), (6, .int x6), (7, .int x7)]) d_Mo_findForm_86 (Nat.le_of_ble_eq_true rfl) rfl ?_
      refine z_iload 6 d_Mo_findForm_88 rfl ?_
      refine z_if_eq (y := 0) (tgt := 106) d_Mo_findForm_90 (by decide) E (fun E => ?_) (fun E => ?_)
      · refine z_lv [1, 2, 3, 4, 5, 0, 7] rfl ?_
        exact (w_Mo_findForm_b106 hQ (w_Mo_findForm_b107 hQ ih)) x0 x1 x2 x3 x4 (x5 / v18) x7 h17 E
      · refine z_aload_n 1 d_Mo_findForm_93 rfl rfl ?_
        refine z_iload 7 d_Mo_findForm_94 rfl ?_
        obtain ⟨g20, v22, h19, e21, E⟩ := cI_some E
        refine z_invV (ci := 4) (y := y_Mo_isNew) (Mc := M_Mo_isNew) (av := [.int x7]) (rest := []) rfl rfl ⟨zt_838, zt_840, zt_40, zt_52⟩ zk_Mo_isNew zy_Mo_isNew (by decide) (Nat.le_of_ble_eq_true rfl) z00 rfl (Nat.le_of_ble_eq_true rfl) d_Mo_findForm_96 g20 (m_Mo_isNew e21) ?_
        show Z X M_Mo_findForm 0 0 h19 99 [(5, .int (x5 / v18)), (0, .ref x0), (1, .int x1), (2, .int x2), (3, .int x3), (4, .int x4), (6, .int x6), (7, .int x7)] [.int v22]
        refine z_if_eq (y := 0) (tgt := 106) d_Mo_findForm_99 (by decide) E (fun E => ?_) (fun E => ?_)
        · refine z_lv [1, 2, 3, 4, 5, 0, 7] rfl ?_
          exact (w_Mo_findForm_b106 hQ (w_Mo_findForm_b107 hQ ih)) x0 x1 x2 x3 x4 (x5 / v18) x7 h19 E
        · refine z_iconst (v := (1 : Int32)) d_Mo_findForm_102 (by decide) ?_
          refine z_goto (tgt := 107) d_Mo_findForm_103 (by decide) ?_
          refine z_lv [1, 2, 3, 4, 5, 0, 7] rfl ?_
          exact (w_Mo_findForm_b107 hQ ih) x0 x1 x2 x3 x4 (x5 / v18) x7 (1 : Int32) h19 E
set_option maxRecDepth 100000 in
set_option maxHeartbeats 4000000 in
theorem w_Mo_findForm_b37 {X : zX} {r : pR} {G : Nat} (hQ : zQ X r) : ∀ (F : Nat) (x0 : Nat) (x1 : Int32) (x2 : Int32) (x3 : Int32) (x4 : Int32) (h : pH), f_Mo_findForm_b37 G F x0 x1 x2 x3 x4 h = some r → Z X M_Mo_findForm 0 0 h 37 [(0, .ref x0), (1, .int x1), (2, .int x2), (3, .int x3), (4, .int x4)] [] := by
  intro F
  induction F with
  | zero => intro x0 x1 x2 x3 x4 h E; exact nomatch (show (none : Option pR) = some _ from E)
  | succ F ih =>
    intro x0 x1 x2 x3 x4 h E
    rw [f_Mo_findForm_b37_eq] at E
    refine z_iload 4 d_Mo_findForm_37 rfl ?_
    refine z_iload_n 2 d_Mo_findForm_39 rfl rfl ?_
    refine z_ic_ge (tgt := 179) d_Mo_findForm_40 (by decide) E (fun E => ?_) (fun E => ?_)
    · exact z_return hQ rfl z00 d_Mo_findForm_179 E
    · refine z_iload 4 d_Mo_findForm_43 rfl ?_
      refine z_istore (lv2 := [(5, .int x4), (0, .ref x0), (1, .int x1), (2, .int x2), (3, .int x3), (4, .int x4)]) d_Mo_findForm_45 (Nat.le_of_ble_eq_true rfl) rfl ?_
      refine z_iconst (v := (1 : Int32)) d_Mo_findForm_47 (by decide) ?_
      refine z_istore (lv2 := [(6, .int (1 : Int32)), (5, .int x4), (0, .ref x0), (1, .int x1), (2, .int x2), (3, .int x3), (4, .int x4)]) d_Mo_findForm_48 (Nat.le_of_ble_eq_true rfl) rfl ?_
      refine z_iconst (v := (0 : Int32)) d_Mo_findForm_50 (by decide) ?_
      refine z_istore (lv2 := [(7, .int (0 : Int32)), (6, .int (1 : Int32)), (5, .int x4), (0, .ref x0), (1, .int x1), (2, .int x2), (3, .int x3), (4, .int x4)]) d_Mo_findForm_51 (Nat.le_of_ble_eq_true rfl) rfl ?_
      refine z_lv [3, 4, 5, 6, 7, 2, 1, 0] rfl ?_
      exact (w_Mo_findForm_b53 hQ ih G) x0 x1 x2 x3 x4 x4 (1 : Int32) (0 : Int32) h E
set_option maxRecDepth 100000 in
set_option maxHeartbeats 4000000 in
theorem w_Mo_findForm_b11 {X : zX} {r : pR} {G : Nat} (hQ : zQ X r) : ∀ (F : Nat) (x0 : Nat) (x1 : Int32) (x2 : Int32) (x3 : Int32) (h : pH), f_Mo_findForm_b11 G F x0 x1 x2 x3 h = some r → Z X M_Mo_findForm 0 0 h 11 [(0, .ref x0), (1, .int x1), (2, .int x2), (3, .int x3)] [] := by
  intro F
  induction F with
  | zero => intro x0 x1 x2 x3 h E; exact nomatch (show (none : Option pR) = some _ from E)
  | succ F ih =>
    intro x0 x1 x2 x3 h E
    rw [f_Mo_findForm_b11_eq] at E
    refine z_iload_n 3 d_Mo_findForm_11 rfl rfl ?_
    refine z_aload_n 0 d_Mo_findForm_12 rfl rfl ?_
    refine z_getI (ci := 4) (j := 7) rfl (by decide) zf_Mo_98 d_Mo_findForm_13 E (fun v4 _ E => ?_)
    refine z_ic_ge (tgt := 32) d_Mo_findForm_16 (by decide) E (fun E => ?_) (fun E => ?_)
    · refine z_iconst (v := (0 : Int32)) d_Mo_findForm_32 (by decide) ?_
      refine z_istore_n (lv2 := [(3, .int (0 : Int32)), (0, .ref x0), (1, .int x1), (2, .int x2)]) d_Mo_findForm_33 rfl (Nat.le_of_ble_eq_true rfl) rfl ?_
      refine z_iconst (v := (0 : Int32)) d_Mo_findForm_34 (by decide) ?_
      refine z_istore (lv2 := [(4, .int (0 : Int32)), (3, .int (0 : Int32)), (0, .ref x0), (1, .int x1), (2, .int x2)]) d_Mo_findForm_35 (Nat.le_of_ble_eq_true rfl) rfl ?_
      refine z_lv [2, 3, 4, 1, 0] rfl ?_
      exact (w_Mo_findForm_b37 hQ G) x0 x1 x2 (0 : Int32) (0 : Int32) h E
    · refine z_iload_n 2 d_Mo_findForm_19 rfl rfl ?_
      refine z_aload_n 0 d_Mo_findForm_20 rfl rfl ?_
      refine z_getI (ci := 4) (j := 7) rfl (by decide) zf_Mo_98 d_Mo_findForm_21 E (fun v5 _ E => ?_)
      refine z_imul d_Mo_findForm_24 ?_
      refine z_istore_n (lv2 := [(2, .int (x2 * v5)), (0, .ref x0), (1, .int x1), (3, .int x3)]) d_Mo_findForm_25 rfl (Nat.le_of_ble_eq_true rfl) rfl ?_
      refine z_iinc (v := (x3 + 1)) (lv2 := [(3, .int (x3 + 1)), (2, .int (x2 * v5)), (0, .ref x0), (1, .int x1)]) 3 d_Mo_findForm_26 rfl rfl (Nat.le_of_ble_eq_true rfl) rfl ?_
      refine z_goto (tgt := 11) d_Mo_findForm_29 (by decide) ?_
      refine z_lv [2, 3, 1, 0] rfl ?_
      exact ih x0 x1 (x2 * v5) (x3 + 1) h E
set_option maxRecDepth 100000 in
set_option maxHeartbeats 4000000 in
theorem w_Mo_findForm_b0 {X : zX} {r : pR} {G : Nat} (hQ : zQ X r) : ∀ (x0 : Nat) (x1 : Int32) (h : pH), f_Mo_findForm G x0 x1 h = some r → Z X M_Mo_findForm 0 0 h 0 [(0, .ref x0), (1, .int x1)] [] := by
  intro x0 x1 h E
  rw [f_Mo_findForm_eq] at E
  refine z_aload_n 0 d_Mo_findForm_0 rfl rfl ?_
  refine z_iload_n 1 d_Mo_findForm_1 rfl rfl ?_
  refine z_iload_n 1 d_Mo_findForm_2 rfl rfl ?_
  refine z_iconst (v := (0 : Int32)) d_Mo_findForm_3 (by decide) ?_
  obtain ⟨g2, h1, e3, E⟩ := cV_some E
  refine z_invV (ci := 4) (y := y_Mo_prepare) (Mc := M_Mo_prepare) (av := [.int x1, .int x1, .int (0 : Int32)]) (rest := []) rfl rfl ⟨zt_814, zt_816, zt_34, zt_52⟩ zk_Mo_prepare zy_Mo_prepare (by decide) (Nat.le_of_ble_eq_true rfl) z00 rfl (Nat.le_of_ble_eq_true rfl) d_Mo_findForm_4 g2 (m_Mo_prepare e3) ?_
  show Z X M_Mo_findForm 0 0 h1 7 [(0, .ref x0), (1, .int x1)] []
  refine z_iconst (v := (1 : Int32)) d_Mo_findForm_7 (by decide) ?_
  refine z_istore_n (lv2 := [(2, .int (1 : Int32)), (0, .ref x0), (1, .int x1)]) d_Mo_findForm_8 rfl (Nat.le_of_ble_eq_true rfl) rfl ?_
  refine z_iconst (v := (0 : Int32)) d_Mo_findForm_9 (by decide) ?_
  refine z_istore_n (lv2 := [(3, .int (0 : Int32)), (2, .int (1 : Int32)), (0, .ref x0), (1, .int x1)]) d_Mo_findForm_10 rfl (Nat.le_of_ble_eq_true rfl) rfl ?_
  refine z_lv [2, 3, 1, 0] rfl ?_
  exact (w_Mo_findForm_b11 hQ G) x0 x1 (1 : Int32) (0 : Int32) h1 E
theorem m_Mo_findForm {l : Launch} {G : Nat} {x0 : Nat} {x1 : Int32} {h : pH} {r : pR} (E : f_Mo_findForm G x0 x1 h = some r) : zMet l y_Mo_findForm M_Mo_findForm 0 0 [.ref x0, .int x1] h r :=
  zMet_of (by decide) rfl (Nat.le_of_ble_eq_true rfl) (fun p e s m args below meth c D0 cT => w_Mo_findForm_b0 (X := (p, l, e, s, m, args, below, meth, c, D0, cT, h, _, 0, 0)) rfl x0 x1 h E)
def f_Mo_form_b26 (G : Nat) (k27 : Nat → Int32 → Int32 → Nat → Int32 → pH → Option pR) (x0 : Nat) (x1 : Int32) (x2 : Int32) (s0 : Nat) (h : pH) : Option pR := k27 x0 x1 x2 s0 (0 : Int32) h
theorem f_Mo_form_b26_eq (G : Nat) (k27 : Nat → Int32 → Int32 → Nat → Int32 → pH → Option pR) (x0 : Nat) (x1 : Int32) (x2 : Int32) (s0 : Nat) (h : pH) : f_Mo_form_b26 G k27 x0 x1 x2 s0 h = (k27 x0 x1 x2 s0 (0 : Int32) h) := rfl
def f_Mo_form_b27 (G : Nat) (x0 : Nat) (x1 : Int32) (x2 : Int32) (s0 : Nat) (s1 : Int32) (h : pH) : Option pR := cI (oC h s0 4) (f_Mo_there G s0 s1 h) fun v10 h7 => if v10 = 0 then (some (some (.int (0 : Int32)), h7)) else (cV (oC h7 x0 4) (f_Mo_findForm G x0 x1 h7) fun h11 => (gR h11 x0 4 5).bind fun v14 => (aI h11 v14 x2).bind fun v15 => some (some (.int v15), h11))
theorem f_Mo_form_b27_eq (G : Nat) (x0 : Nat) (x1 : Int32) (x2 : Int32) (s0 : Nat) (s1 : Int32) (h : pH) : f_Mo_form_b27 G x0 x1 x2 s0 s1 h = (cI (oC h s0 4) (f_Mo_there G s0 s1 h) fun v10 h7 => if v10 = 0 then (some (some (.int (0 : Int32)), h7)) else (cV (oC h7 x0 4) (f_Mo_findForm G x0 x1 h7) fun h11 => (gR h11 x0 4 5).bind fun v14 => (aI h11 v14 x2).bind fun v15 => some (some (.int v15), h11))) := rfl
def f_Mo_form (G : Nat) (x0 : Nat) (x1 : Int32) (x2 : Int32) (h : pH) : Option pR := cI true (f_Mo_isGraph G x1 h) fun v4 h1 => if v4 = 0 then ((f_Mo_form_b26 G (f_Mo_form_b27 G)) x0 x1 x2 x0 h1) else (if x2 < 0 then ((f_Mo_form_b26 G (f_Mo_form_b27 G)) x0 x1 x2 x0 h1) else ((gR h1 x0 4 2).bind fun v5 => (aI h1 v5 x1).bind fun v6 => if v6 ≤ x2 then ((f_Mo_form_b26 G (f_Mo_form_b27 G)) x0 x1 x2 x0 h1) else ((f_Mo_form_b27 G) x0 x1 x2 x0 (1 : Int32) h1)))
theorem f_Mo_form_eq (G : Nat) (x0 : Nat) (x1 : Int32) (x2 : Int32) (h : pH) : f_Mo_form G x0 x1 x2 h = (cI true (f_Mo_isGraph G x1 h) fun v4 h1 => if v4 = 0 then ((f_Mo_form_b26 G (f_Mo_form_b27 G)) x0 x1 x2 x0 h1) else (if x2 < 0 then ((f_Mo_form_b26 G (f_Mo_form_b27 G)) x0 x1 x2 x0 h1) else ((gR h1 x0 4 2).bind fun v5 => (aI h1 v5 x1).bind fun v6 => if v6 ≤ x2 then ((f_Mo_form_b26 G (f_Mo_form_b27 G)) x0 x1 x2 x0 h1) else ((f_Mo_form_b27 G) x0 x1 x2 x0 (1 : Int32) h1)))) := rfl
set_option maxRecDepth 100000 in
set_option maxHeartbeats 4000000 in
theorem w_Mo_form_b26 {X : zX} {r : pR} {G : Nat} {k27 : Nat → Int32 → Int32 → Nat → Int32 → pH → Option pR} (hQ : zQ X r) (hk27 : ∀ (x0 : Nat) (x1 : Int32) (x2 : Int32) (s0 : Nat) (s1 : Int32) (h : pH), k27 x0 x1 x2 s0 s1 h = some r → Z X M_Mo_form 0 0 h 27 [(0, .ref x0), (1, .int x1), (2, .int x2)] [.int s1, .ref s0]) : ∀ (x0 : Nat) (x1 : Int32) (x2 : Int32) (s0 : Nat) (h : pH), f_Mo_form_b26 G k27 x0 x1 x2 s0 h = some r → Z X M_Mo_form 0 0 h 26 [(0, .ref x0), (1, .int x1), (2, .int x2)] [.ref s0] := by
  intro x0 x1 x2 s0 h E
  rw [f_Mo_form_b26_eq] at E
  refine z_iconst (v := (0 : Int32)) d_Mo_form_26 (by decide) ?_
  exact hk27 x0 x1 x2 s0 (0 : Int32) h E
set_option maxRecDepth 100000 in
set_option maxHeartbeats 4000000 in
theorem w_Mo_form_b27 {X : zX} {r : pR} {G : Nat} (hQ : zQ X r) : ∀ (x0 : Nat) (x1 : Int32) (x2 : Int32) (s0 : Nat) (s1 : Int32) (h : pH), f_Mo_form_b27 G x0 x1 x2 s0 s1 h = some r → Z X M_Mo_form 0 0 h 27 [(0, .ref x0), (1, .int x1), (2, .int x2)] [.int s1, .ref s0] := by
  intro x0 x1 x2 s0 s1 h E
  rw [f_Mo_form_b27_eq] at E
  obtain ⟨g8, v10, h7, e9, E⟩ := cI_some E
  refine z_invV (ci := 4) (y := y_Mo_there) (Mc := M_Mo_there) (av := [.int s1]) (rest := []) rfl rfl ⟨zt_780, zt_782, zt_30, zt_52⟩ zk_Mo_there zy_Mo_there (by decide) (Nat.le_of_ble_eq_true rfl) z00 rfl (Nat.le_of_ble_eq_true rfl) d_Mo_form_27 g8 (m_Mo_there e9) ?_
  show Z X M_Mo_form 0 0 h7 30 [(0, .ref x0), (1, .int x1), (2, .int x2)] [.int v10]
  refine z_if_ne (y := 0) (tgt := 35) d_Mo_form_30 (by decide) E (fun E => ?_) (fun E => ?_)
  · refine z_aload_n 0 d_Mo_form_35 rfl rfl ?_
    refine z_iload_n 1 d_Mo_form_36 rfl rfl ?_
    obtain ⟨g12, h11, e13, E⟩ := cV_some E
    refine z_invV (ci := 4) (y := y_Mo_findForm) (Mc := M_Mo_findForm) (av := [.int x1]) (rest := []) rfl rfl ⟨zt_870, zt_872, zt_42, zt_52⟩ zk_Mo_findForm zy_Mo_findForm (by decide) (Nat.le_of_ble_eq_true rfl) z00 rfl (Nat.le_of_ble_eq_true rfl) d_Mo_form_37 g12 (m_Mo_findForm e13) ?_
    show Z X M_Mo_form 0 0 h11 40 [(0, .ref x0), (1, .int x1), (2, .int x2)] []
    refine z_aload_n 0 d_Mo_form_40 rfl rfl ?_
    refine z_getR (ci := 4) (j := 5) rfl (by decide) zf_Mo_19 d_Mo_form_41 E (fun v14 _ E => ?_)
    refine z_iload_n 2 d_Mo_form_44 rfl rfl ?_
    refine z_iaload d_Mo_form_45 E (fun v15 _ E => ?_)
    exact z_ireturn hQ rfl z00 d_Mo_form_46 E
  · refine z_iconst (v := (0 : Int32)) d_Mo_form_33 (by decide) ?_
    exact z_ireturn hQ rfl z00 d_Mo_form_34 E
set_option maxRecDepth 100000 in
set_option maxHeartbeats 4000000 in
theorem w_Mo_form_b0 {X : zX} {r : pR} {G : Nat} (hQ : zQ X r) : ∀ (x0 : Nat) (x1 : Int32) (x2 : Int32) (h : pH), f_Mo_form G x0 x1 x2 h = some r → Z X M_Mo_form 0 0 h 0 [(0, .ref x0), (1, .int x1), (2, .int x2)] [] := by
  intro x0 x1 x2 h E
  rw [f_Mo_form_eq] at E
  refine z_aload_n 0 d_Mo_form_0 rfl rfl ?_
  refine z_iload_n 1 d_Mo_form_1 rfl rfl ?_
  obtain ⟨g2, v4, h1, e3, E⟩ := cI_some E
  refine z_invS (y := y_Mo_isGraph) (Mc := M_Mo_isGraph) (av := [.int x1]) (rest := [.ref x0]) ⟨zt_750, zt_751, zt_52⟩ zk_Mo_isGraph zy_Mo_isGraph (by decide) (Nat.le_of_ble_eq_true rfl) z00 rfl (Nat.le_of_ble_eq_true rfl) d_Mo_form_2 (m_Mo_isGraph e3) ?_
  show Z X M_Mo_form 0 0 h1 5 [(0, .ref x0), (1, .int x1), (2, .int x2)] [.int v4, .ref x0]
  refine z_if_eq (y := 0) (tgt := 26) d_Mo_form_5 (by decide) E (fun E => ?_) (fun E => ?_)
  · exact (w_Mo_form_b26 hQ (w_Mo_form_b27 hQ)) x0 x1 x2 x0 h1 E
  · refine z_iload_n 2 d_Mo_form_8 rfl rfl ?_
    refine z_if_lt (y := 0) (tgt := 26) d_Mo_form_9 (by decide) E (fun E => ?_) (fun E => ?_)
    · exact (w_Mo_form_b26 hQ (w_Mo_form_b27 hQ)) x0 x1 x2 x0 h1 E
    · refine z_iload_n 2 d_Mo_form_12 rfl rfl ?_
      refine z_aload_n 0 d_Mo_form_13 rfl rfl ?_
      refine z_getR (ci := 4) (j := 2) rfl (by decide) zf_Mo_13 d_Mo_form_14 E (fun v5 _ E => ?_)
      refine z_iload_n 1 d_Mo_form_17 rfl rfl ?_
      refine z_iaload d_Mo_form_18 E (fun v6 _ E => ?_)
      refine z_ic_ge (tgt := 26) d_Mo_form_19 (by decide) E (fun E => ?_) (fun E => ?_)
      · exact (w_Mo_form_b26 hQ (w_Mo_form_b27 hQ)) x0 x1 x2 x0 h1 E
      · refine z_iconst (v := (1 : Int32)) d_Mo_form_22 (by decide) ?_
        refine z_goto (tgt := 27) d_Mo_form_23 (by decide) ?_
        exact (w_Mo_form_b27 hQ) x0 x1 x2 x0 (1 : Int32) h1 E
theorem m_Mo_form {l : Launch} {G : Nat} {x0 : Nat} {x1 : Int32} {x2 : Int32} {h : pH} {r : pR} (E : f_Mo_form G x0 x1 x2 h = some r) : zMet l y_Mo_form M_Mo_form 0 0 [.ref x0, .int x1, .int x2] h r :=
  zMet_of (by decide) rfl (Nat.le_of_ble_eq_true rfl) (fun p e s m args below meth c D0 cT => w_Mo_form_b0 (X := (p, l, e, s, m, args, below, meth, c, D0, cT, h, _, 0, 0)) rfl x0 x1 x2 h E)
def f_Mo_join_b76 (G : Nat) (k67 : Nat → Int32 → Int32 → Int32 → Int32 → Int32 → pH → Option pR) : Nat → Nat → Int32 → Int32 → Int32 → Int32 → Int32 → pH → Option pR
  | 0 => fun _ _ _ _ _ _ _ => none
  | F + 1 => fun x0 x1 x2 x3 x4 x5 h => cI (oC h x0 4) (f_Mo_stands G x0 x1 x4 (2 : Int32) h) fun v50 h47 => if v50 = 0 then ((gR h47 x0 4 11).bind fun v51 => (sI h47 v51 x5 x4).bind fun h52 => k67 x0 x1 x2 x3 (x4 + 1) (x5 + 1) h52) else ((f_Mo_join_b76 G k67 F) x0 x1 x2 x3 (x4 + 1) x5 h47)
theorem f_Mo_join_b76_eq (G : Nat) (k67 : Nat → Int32 → Int32 → Int32 → Int32 → Int32 → pH → Option pR) (F : Nat) (x0 : Nat) (x1 : Int32) (x2 : Int32) (x3 : Int32) (x4 : Int32) (x5 : Int32) (h : pH) : f_Mo_join_b76 G k67 (F + 1) x0 x1 x2 x3 x4 x5 h = (cI (oC h x0 4) (f_Mo_stands G x0 x1 x4 (2 : Int32) h) fun v50 h47 => if v50 = 0 then ((gR h47 x0 4 11).bind fun v51 => (sI h47 v51 x5 x4).bind fun h52 => k67 x0 x1 x2 x3 (x4 + 1) (x5 + 1) h52) else ((f_Mo_join_b76 G k67 F) x0 x1 x2 x3 (x4 + 1) x5 h47)) := rfl
def f_Mo_join_b121 (G : Nat) : Nat → Nat → Int32 → Int32 → Int32 → pH → Option pR
  | 0 => fun _ _ _ _ _ => none
  | F + 1 => fun x0 x1 x3 x6 h => (gR h x0 4 2).bind fun v33 => (aI h v33 x1).bind fun v34 => if v34 ≤ x6 then ((gI h x0 4 4).bind fun v35 => if v35 ≤ (30 : Int32) then (cV (oC h x0 4) (f_Mo_keep G x0 x3 h) fun h36 => (gI h36 x0 4 4).bind fun v39 => some (some (.int v39), h36)) else (some (some (.int (-1 : Int32)), h))) else (cI (oC h x0 4) (f_Mo_numberOf G x0 x1 x6 h) fun v43 h40 => cV (oC h40 x0 4) (f_Mo_add G x0 v43 h40) fun h44 => (f_Mo_join_b121 G F) x0 x1 x3 (x6 + 1) h44)
theorem f_Mo_join_b121_eq (G : Nat) (F : Nat) (x0 : Nat) (x1 : Int32) (x3 : Int32) (x6 : Int32) (h : pH) : f_Mo_join_b121 G (F + 1) x0 x1 x3 x6 h = ((gR h x0 4 2).bind fun v33 => (aI h v33 x1).bind fun v34 => if v34 ≤ x6 then ((gI h x0 4 4).bind fun v35 => if v35 ≤ (30 : Int32) then (cV (oC h x0 4) (f_Mo_keep G x0 x3 h) fun h36 => (gI h36 x0 4 4).bind fun v39 => some (some (.int v39), h36)) else (some (some (.int (-1 : Int32)), h))) else (cI (oC h x0 4) (f_Mo_numberOf G x0 x1 x6 h) fun v43 h40 => cV (oC h40 x0 4) (f_Mo_add G x0 v43 h40) fun h44 => (f_Mo_join_b121 G F) x0 x1 x3 (x6 + 1) h44)) := rfl
def f_Mo_join_b67 (G : Nat) : Nat → Nat → Int32 → Int32 → Int32 → Int32 → Int32 → pH → Option pR
  | 0 => fun _ _ _ _ _ _ _ => none
  | F + 1 => fun x0 x1 x2 x3 x4 x5 h => (gI h x0 4 7).bind fun v28 => if v28 ≤ x5 then (cI (oC h x0 4) (f_Mo_imageSize G x0 x2 h) fun v32 h29 => (f_Mo_join_b121 G G) x0 x1 x3 (0 : Int32) h29) else ((f_Mo_join_b76 G (f_Mo_join_b67 G F) G) x0 x1 x2 x3 x4 x5 h)
theorem f_Mo_join_b67_eq (G : Nat) (F : Nat) (x0 : Nat) (x1 : Int32) (x2 : Int32) (x3 : Int32) (x4 : Int32) (x5 : Int32) (h : pH) : f_Mo_join_b67 G (F + 1) x0 x1 x2 x3 x4 x5 h = ((gI h x0 4 7).bind fun v28 => if v28 ≤ x5 then (cI (oC h x0 4) (f_Mo_imageSize G x0 x2 h) fun v32 h29 => (f_Mo_join_b121 G G) x0 x1 x3 (0 : Int32) h29) else ((f_Mo_join_b76 G (f_Mo_join_b67 G F) G) x0 x1 x2 x3 x4 x5 h)) := rfl
def f_Mo_join_b26 (G : Nat) (k27 : Nat → Int32 → Int32 → Int32 → Nat → Int32 → pH → Option pR) (x0 : Nat) (x1 : Int32) (x2 : Int32) (x3 : Int32) (s0 : Nat) (h : pH) : Option pR := k27 x0 x1 x2 x3 s0 (0 : Int32) h
theorem f_Mo_join_b26_eq (G : Nat) (k27 : Nat → Int32 → Int32 → Int32 → Nat → Int32 → pH → Option pR) (x0 : Nat) (x1 : Int32) (x2 : Int32) (x3 : Int32) (s0 : Nat) (h : pH) : f_Mo_join_b26 G k27 x0 x1 x2 x3 s0 h = (k27 x0 x1 x2 x3 s0 (0 : Int32) h) := rfl
def f_Mo_join_b27 (G : Nat) (x0 : Nat) (x1 : Int32) (x2 : Int32) (x3 : Int32) (s0 : Nat) (s1 : Int32) (h : pH) : Option pR := cI (oC h s0 4) (f_Mo_there G s0 s1 h) fun v16 h13 => if v16 = 0 then (some (some (.int (0 : Int32)), h13)) else (cI (oC h13 x0 4) (f_Mo_nodesOf G x0 x1 h13) fun v20 h17 => cI (oC h17 x0 4) (f_Mo_nodesOf G x0 x2 h17) fun v24 h21 => if (v20 + v24) ≤ (6 : Int32) then (cV (oC h21 x0 4) (f_Mo_prepare G x0 x2 x2 (0 : Int32) h21) fun h25 => (f_Mo_join_b67 G G) x0 x1 x2 x3 (40 : Int32) (0 : Int32) h25) else (some (some (.int (-1 : Int32)), h21)))
theorem f_Mo_join_b27_eq (G : Nat) (x0 : Nat) (x1 : Int32) (x2 : Int32) (x3 : Int32) (s0 : Nat) (s1 : Int32) (h : pH) : f_Mo_join_b27 G x0 x1 x2 x3 s0 s1 h = (cI (oC h s0 4) (f_Mo_there G s0 s1 h) fun v16 h13 => if v16 = 0 then (some (some (.int (0 : Int32)), h13)) else (cI (oC h13 x0 4) (f_Mo_nodesOf G x0 x1 h13) fun v20 h17 => cI (oC h17 x0 4) (f_Mo_nodesOf G x0 x2 h17) fun v24 h21 => if (v20 + v24) ≤ (6 : Int32) then (cV (oC h21 x0 4) (f_Mo_prepare G x0 x2 x2 (0 : Int32) h21) fun h25 => (f_Mo_join_b67 G G) x0 x1 x2 x3 (40 : Int32) (0 : Int32) h25) else (some (some (.int (-1 : Int32)), h21)))) := rfl
def f_Mo_join (G : Nat) (x0 : Nat) (x1 : Int32) (x2 : Int32) (x3 : Int32) (h : pH) : Option pR := cI true (f_Mo_isGraph G x1 h) fun v4 h1 => if v4 = 0 then ((f_Mo_join_b26 G (f_Mo_join_b27 G)) x0 x1 x2 x3 x0 h1) else (cI true (f_Mo_isGraph G x2 h1) fun v8 h5 => if v8 = 0 then ((f_Mo_join_b26 G (f_Mo_join_b27 G)) x0 x1 x2 x3 x0 h5) else (cI true (f_Mo_isGraph G x3 h5) fun v12 h9 => if v12 = 0 then ((f_Mo_join_b26 G (f_Mo_join_b27 G)) x0 x1 x2 x3 x0 h9) else ((f_Mo_join_b27 G) x0 x1 x2 x3 x0 (1 : Int32) h9)))
theorem f_Mo_join_eq (G : Nat) (x0 : Nat) (x1 : Int32) (x2 : Int32) (x3 : Int32) (h : pH) : f_Mo_join G x0 x1 x2 x3 h = (cI true (f_Mo_isGraph G x1 h) fun v4 h1 => if v4 = 0 then ((f_Mo_join_b26 G (f_Mo_join_b27 G)) x0 x1 x2 x3 x0 h1) else (cI true (f_Mo_isGraph G x2 h1) fun v8 h5 => if v8 = 0 then ((f_Mo_join_b26 G (f_Mo_join_b27 G)) x0 x1 x2 x3 x0 h5) else (cI true (f_Mo_isGraph G x3 h5) fun v12 h9 => if v12 = 0 then ((f_Mo_join_b26 G (f_Mo_join_b27 G)) x0 x1 x2 x3 x0 h9) else ((f_Mo_join_b27 G) x0 x1 x2 x3 x0 (1 : Int32) h9)))) := rfl
set_option maxRecDepth 100000 in
set_option maxHeartbeats 4000000 in
theorem w_Mo_join_b76 {X : zX} {r : pR} {G : Nat} {k67 : Nat → Int32 → Int32 → Int32 → Int32 → Int32 → pH → Option pR} (hQ : zQ X r) (hk67 : ∀ (x0 : Nat) (x1 : Int32) (x2 : Int32) (x3 : Int32) (x4 : Int32) (x5 : Int32) (h : pH), k67 x0 x1 x2 x3 x4 x5 h = some r → Z X M_Mo_join 0 0 h 67 [(0, .ref x0), (1, .int x1), (2, .int x2), (3, .int x3), (4, .int x4), (5, .int x5)] []) : ∀ (F : Nat) (x0 : Nat) (x1 : Int32) (x2 : Int32) (x3 : Int32) (x4 : Int32) (x5 : Int32) (h : pH), f_Mo_join_b76 G k67 F x0 x1 x2 x3 x4 x5 h = some r → Z X M_Mo_join 0 0 h 76 [(0, .ref x0), (1, .int x1), (2, .int x2), (3, .int x3), (4, .int x4), (5, .int x5)] [] := by
  intro F
  induction F with
  | zero => intro x0 x1 x2 x3 x4 x5 h E; exact nomatch (show (none : Option pR) = some _ from E)
  | succ F ih =>
    intro x0 x1 x2 x3 x4 x5 h E
    rw [f_Mo_join_b76_eq] at E
    refine z_aload_n 0 d_Mo_join_76 rfl rfl ?_
    refine z_iload_n 1 d_Mo_join_77 rfl rfl ?_
    refine z_iload 4 d_Mo_join_78 rfl ?_
    refine z_iconst (v := (2 : Int32)) d_Mo_join_80 (by decide) ?_
    obtain ⟨g48, v50, h47, e49, E⟩ := cI_some E
    refine z_invV (ci := 4) (y := y_Mo_stands) (Mc := M_Mo_stands) (av := [.int x1, .int x4, .int (2 : Int32)]) (rest := []) rfl rfl ⟨zt_788, zt_790, zt_31, zt_52⟩ zk_Mo_stands zy_Mo_stands (by decide) (Nat.le_of_ble_eq_true rfl) z00 rfl (Nat.le_of_ble_eq_true rfl) d_Mo_join_81 g48 (m_Mo_stands e49) ?_
    show Z X M_Mo_join 0 0 h47 84 [(0, .ref x0), (1, .int x1), (2, .int x2), (3, .int x3), (4, .int x4), (5, .int x5)] [.int v50]
    refine z_if_eq (y := 0) (tgt := 93) d_Mo_join_84 (by decide) E (fun E => ?_) (fun E => ?_)
    · refine z_aload_n 0 d_Mo_join_93 rfl rfl ?_
      refine z_getR (ci := 4) (j := 11) rfl (by decide) zf_Mo_31 d_Mo_join_94 E (fun v51 _ E => ?_)
      refine z_iload 5 d_Mo_join_97 rfl ?_
      refine z_iload 4 d_Mo_join_99 rfl ?_
      refine z_iastore d_Mo_join_101 E (fun h52 _ E => ?_)
      refine z_iinc (v := (x4 + 1)) (lv2 := [(4, .int (x4 + 1)), (0, .ref x0), (1, .int x1), (2, .int x2), (3, .int x3), (5, .int x5)]) 4 d_Mo_join_102 rfl rfl (Nat.le_of_ble_eq_true rfl) rfl ?_
      refine z_iinc (v := (x5 + 1)) (lv2 := [(5, .int (x5 + 1)), (4, .int (x4 + 1)), (0, .ref x0), (1, .int x1), (2, .int x2), (3, .int x3)]) 5 d_Mo_join_105 rfl rfl (Nat.le_of_ble_eq_true rfl) rfl ?_
      refine z_goto (tgt := 67) d_Mo_join_108 (by decide) ?_
      refine z_lv [2, 3, 4, 5, 1, 0] rfl ?_
      exact hk67 x0 x1 x2 x3 (x4 + 1) (x5 + 1) h52 E
    · refine z_iinc (v := (x4 + 1)) (lv2 := [(4, .int (x4 + 1)), (0, .ref x0), (1, .int x1), (2, .int x2), (3, .int x3), (5, .int x5)]) 4 d_Mo_join_87 rfl rfl (Nat.le_of_ble_eq_true rfl) rfl ?_
      refine z_goto (tgt := 76) d_Mo_join_90 (by decide) ?_
      refine z_lv [1, 2, 3, 4, 0, 5] rfl ?_
      exact ih x0 x1 x2 x3 (x4 + 1) x5 h47 E
set_option maxRecDepth 100000 in
set_option maxHeartbeats 4000000 in
theorem w_Mo_join_b121 {X : zX} {r : pR} {G : Nat} (hQ : zQ X r) : ∀ (F : Nat) (x0 : Nat) (x1 : Int32) (x3 : Int32) (x6 : Int32) (h : pH), f_Mo_join_b121 G F x0 x1 x3 x6 h = some r → Z X M_Mo_join 0 0 h 121 [(0, .ref x0), (1, .int x1), (3, .int x3), (6, .int x6)] [] := by
  intro F
  induction F with
  | zero => intro x0 x1 x3 x6 h E; exact nomatch (show (none : Option pR) = some _ from E)
  | succ F ih =>
    intro x0 x1 x3 x6 h E
    rw [f_Mo_join_b121_eq] at E
    refine z_iload 3 d_Mo_join_121 rfl ?_
    refine z_aload_n 0 d_Mo_join_123 rfl rfl ?_
    refine z_getR (ci := 4) (j := 2) rfl (by decide) zf_Mo_13 d_Mo_join_124 E (fun v33 _ E => ?_)
    refine z_iload_n 1 d_Mo_join_127 rfl rfl ?_
    refine z_iaload d_Mo_join_128 E (fun v34 _ E => ?_)
    refine z_ic_ge (tgt := 149) d_Mo_join_129 (by decide) E (fun E => ?_) (fun E => ?_)
    · refine z_aload_n 0 d_Mo_join_149 rfl rfl ?_
      refine z_getI (ci := 4) (j := 4) rfl (by decide) zf_Mo_54 d_Mo_join_150 E (fun v35 _ E => ?_)
      refine z_bipush (v := (30 : Int32)) d_Mo_join_153 (by decide) ?_
      refine z_ic_le (tgt := 160) d_Mo_join_155 (by decide) E (fun E => ?_) (fun E => ?_)
      · refine z_aload_n 0 d_Mo_join_160 rfl rfl ?_
        refine z_iload_n 2 d_Mo_join_161 rfl rfl ?_
        obtain ⟨g37, h36, e38, E⟩ := cV_some E
        refine z_invV (ci := 4) (y := y_Mo_keep) (Mc := M_Mo_keep) (av := [.int x3]) (rest := []) rfl rfl ⟨zt_768, zt_770, zt_29, zt_52⟩ zk_Mo_keep zy_Mo_keep (by decide) (Nat.le_of_ble_eq_true rfl) z00 rfl (Nat.le_of_ble_eq_true rfl) d_Mo_join_162 g37 (m_Mo_keep e38) ?_
        show Z X M_Mo_join 0 0 h36 165 [(0, .ref x0), (1, .int x1), (3, .int x3), (6, .int x6)] []
        refine z_aload_n 0 d_Mo_join_165 rfl rfl ?_
        refine z_getI (ci := 4) (j := 4) rfl (by decide) zf_Mo_54 d_Mo_join_166 E (fun v39 _ E => ?_)
        exact z_ireturn hQ rfl z00 d_Mo_join_169 E
      · refine z_iconst (v := (-1 : Int32)) d_Mo_join_158 (by decide) ?_
        exact z_ireturn hQ rfl z00 d_Mo_join_159 E
    · refine z_aload_n 0 d_Mo_join_132 rfl rfl ?_
      refine z_aload_n 0 d_Mo_join_133 rfl rfl ?_
      refine z_iload_n 1 d_Mo_join_134 rfl rfl ?_
      refine z_iload 3 d_Mo_join_135 rfl ?_
      obtain ⟨g41, v43, h40, e42, E⟩ := cI_some E
      refine z_invV (ci := 4) (y := y_Mo_numberOf) (Mc := M_Mo_numberOf) (av := [.int x1, .int x6]) (rest := [.ref x0]) rfl rfl ⟨zt_760, zt_762, zt_27, zt_52⟩ zk_Mo_numberOf zy_Mo_numberOf (by decide) (Nat.le_of_ble_eq_true rfl) z00 rfl (Nat.le_of_ble_eq_true rfl) d_Mo_join_137 g41 (m_Mo_numberOf e42) ?_
      show Z X M_Mo_join 0 0 h40 140 [(0, .ref x0), (1, .int x1), (3, .int x3), (6, .int x6)] [.int v43, .ref x0]
      obtain ⟨g45, h44, e46, E⟩ := cV_some E
      refine z_invV (ci := 4) (y := y_Mo_add) (Mc := M_Mo_add) (av := [.int v43]) (rest := []) rfl rfl ⟨zt_764, zt_766, zt_28, zt_52⟩ zk_Mo_add zy_Mo_add (by decide) (Nat.le_of_ble_eq_true rfl) z00 rfl (Nat.le_of_ble_eq_true rfl) d_Mo_join_140 g45 (m_Mo_add e46) ?_
      show Z X M_Mo_join 0 0 h44 143 [(0, .ref x0), (1, .int x1), (3, .int x3), (6, .int x6)] []
      refine z_iinc (v := (x6 + 1)) (lv2 := [(6, .int (x6 + 1)), (0, .ref x0), (1, .int x1), (3, .int x3)]) 3 d_Mo_join_143 rfl rfl (Nat.le_of_ble_eq_true rfl) rfl ?_
      refine z_goto (tgt := 121) d_Mo_join_146 (by decide) ?_
      refine z_lv [1, 2, 3, 0] rfl ?_
      exact ih x0 x1 x3 (x6 + 1) h44 E
set_option maxRecDepth 100000 in
set_option maxHeartbeats 4000000 in
theorem w_Mo_join_b67 {X : zX} {r : pR} {G : Nat} (hQ : zQ X r) : ∀ (F : Nat) (x0 : Nat) (x1 : Int32) (x2 : Int32) (x3 : Int32) (x4 : Int32) (x5 : Int32) (h : pH), f_Mo_join_b67 G F x0 x1 x2 x3 x4 x5 h = some r → Z X M_Mo_join 0 0 h 67 [(0, .ref x0), (1, .int x1), (2, .int x2), (3, .int x3), (4, .int x4), (5, .int x5)] [] := by
  intro F
  induction F with
  | zero => intro x0 x1 x2 x3 x4 x5 h E; exact nomatch (show (none : Option pR) = some _ from E)
  | succ F ih =>
    intro x0 x1 x2 x3 x4 x5 h E
    rw [f_Mo_join_b67_eq] at E
    refine z_iload 5 d_Mo_join_67 rfl ?_
    refine z_aload_n 0 d_Mo_join_69 rfl rfl ?_
    refine z_getI (ci := 4) (j := 7) rfl (by decide) zf_Mo_98 d_Mo_join_70 E (fun v28 _ E => ?_)
    refine z_ic_ge (tgt := 111) d_Mo_join_73 (by decide) E (fun E => ?_) (fun E => ?_)
    · refine z_aload_n 0 d_Mo_join_111 rfl rfl ?_
      refine z_iload_n 2 d_Mo_join_112 rfl rfl ?_
      obtain ⟨g30, v32, h29, e31, E⟩ := cI_some E
      refine z_invV (ci := 4) (y := y_Mo_imageSize) (Mc := M_Mo_imageSize) (av := [.int x2]) (rest := []) rfl rfl ⟨zt_842, zt_844, zt_41, zt_52⟩ zk_Mo_imageSize zy_Mo_imageSize (by decide) (Nat.le_of_ble_eq_true rfl) z00 rfl (Nat.le_of_ble_eq_true rfl) d_Mo_join_113 g30 (m_Mo_imageSize e31) ?_
      show Z X M_Mo_join 0 0 h29 116 [(0, .ref x0), (1, .int x1), (2, .int x2), (3, .int x3), (4, .int x4), (5, .int x5)] [.int v32]
      refine z_istore (lv2 := [(5, .int v32), (0, .ref x0), (1, .int x1), (2, .int x2), (3, .int x3), (4, .int x4)]) d_Mo_join_116 (Nat.le_of_ble_eq_true rfl) rfl ?_
      refine z_iconst (v := (0 : Int32)) d_Mo_join_118 (by decide) ?_
      refine z_istore (lv2 := [(6, .int (0 : Int32)), (5, .int v32), (0, .ref x0), (1, .int x1), (2, .int x2), (3, .int x3), (4, .int x4)]) d_Mo_join_119 (Nat.le_of_ble_eq_true rfl) rfl ?_
      refine z_lv [2, 3, 5, 0] rfl ?_
      exact (w_Mo_join_b121 hQ G) x0 x1 x3 (0 : Int32) h29 E
    · exact (w_Mo_join_b76 hQ ih G) x0 x1 x2 x3 x4 x5 h E
set_option maxRecDepth 100000 in
set_option maxHeartbeats 4000000 in
theorem w_Mo_join_b26 {X : zX} {r : pR} {G : Nat} {k27 : Nat → Int32 → Int32 → Int32 → Nat → Int32 → pH → Option pR} (hQ : zQ X r) (hk27 : ∀ (x0 : Nat) (x1 : Int32) (x2 : Int32) (x3 : Int32) (s0 : Nat) (s1 : Int32) (h : pH), k27 x0 x1 x2 x3 s0 s1 h = some r → Z X M_Mo_join 0 0 h 27 [(0, .ref x0), (1, .int x1), (2, .int x2), (3, .int x3)] [.int s1, .ref s0]) : ∀ (x0 : Nat) (x1 : Int32) (x2 : Int32) (x3 : Int32) (s0 : Nat) (h : pH), f_Mo_join_b26 G k27 x0 x1 x2 x3 s0 h = some r → Z X M_Mo_join 0 0 h 26 [(0, .ref x0), (1, .int x1), (2, .int x2), (3, .int x3)] [.ref s0] := by
  intro x0 x1 x2 x3 s0 h E
  rw [f_Mo_join_b26_eq] at E
  refine z_iconst (v := (0 : Int32)) d_Mo_join_26 (by decide) ?_
  exact hk27 x0 x1 x2 x3 s0 (0 : Int32) h E
set_option maxRecDepth 100000 in
set_option maxHeartbeats 4000000 in
theorem w_Mo_join_b27 {X : zX} {r : pR} {G : Nat} (hQ : zQ X r) : ∀ (x0 : Nat) (x1 : Int32) (x2 : Int32) (x3 : Int32) (s0 : Nat) (s1 : Int32) (h : pH), f_Mo_join_b27 G x0 x1 x2 x3 s0 s1 h = some r → Z X M_Mo_join 0 0 h 27 [(0, .ref x0), (1, .int x1), (2, .int x2), (3, .int x3)] [.int s1, .ref s0] := by
  intro x0 x1 x2 x3 s0 s1 h E
  rw [f_Mo_join_b27_eq] at E
  obtain ⟨g14, v16, h13, e15, E⟩ := cI_some E
  refine z_invV (ci := 4) (y := y_Mo_there) (Mc := M_Mo_there) (av := [.int s1]) (rest := []) rfl rfl ⟨zt_780, zt_782, zt_30, zt_52⟩ zk_Mo_there zy_Mo_there (by decide) (Nat.le_of_ble_eq_true rfl) z00 rfl (Nat.le_of_ble_eq_true rfl) d_Mo_join_27 g14 (m_Mo_there e15) ?_
  show Z X M_Mo_join 0 0 h13 30 [(0, .ref x0), (1, .int x1), (2, .int x2), (3, .int x3)] [.int v16]
  refine z_if_ne (y := 0) (tgt := 35) d_Mo_join_30 (by decide) E (fun E => ?_) (fun E => ?_)
  · refine z_aload_n 0 d_Mo_join_35 rfl rfl ?_
    refine z_iload_n 1 d_Mo_join_36 rfl rfl ?_
    obtain ⟨g18, v20, h17, e19, E⟩ := cI_some E
    refine z_invV (ci := 4) (y := y_Mo_nodesOf) (Mc := M_Mo_nodesOf) (av := [.int x1]) (rest := []) rfl rfl ⟨zt_798, zt_800, zt_32, zt_52⟩ zk_Mo_nodesOf zy_Mo_nodesOf (by decide) (Nat.le_of_ble_eq_true rfl) z00 rfl (Nat.le_of_ble_eq_true rfl) d_Mo_join_37 g18 (m_Mo_nodesOf e19) ?_
    show Z X M_Mo_join 0 0 h17 40 [(0, .ref x0), (1, .int x1), (2, .int x2), (3, .int x3)] [.int v20]
    refine z_aload_n 0 d_Mo_join_40 rfl rfl ?_
    refine z_iload_n 2 d_Mo_join_41 rfl rfl ?_
    obtain ⟨g22, v24, h21, e23, E⟩ := cI_some E
    refine z_invV (ci := 4) (y := y_Mo_nodesOf) (Mc := M_Mo_nodesOf) (av := [.int x2]) (rest := [.int v20]) rfl rfl ⟨zt_798, zt_800, zt_32, zt_52⟩ zk_Mo_nodesOf zy_Mo_nodesOf (by decide) (Nat.le_of_ble_eq_true rfl) z00 rfl (Nat.le_of_ble_eq_true rfl) d_Mo_join_42 g22 (m_Mo_nodesOf e23) ?_
    show Z X M_Mo_join 0 0 h21 45 [(0, .ref x0), (1, .int x1), (2, .int x2), (3, .int x3)] [.int v24, .int v20]
    refine z_iadd d_Mo_join_45 ?_
    refine z_bipush (v := (6 : Int32)) d_Mo_join_46 (by decide) ?_
    refine z_ic_le (tgt := 53) d_Mo_join_48 (by decide) E (fun E => ?_) (fun E => ?_)
    · refine z_aload_n 0 d_Mo_join_53 rfl rfl ?_
      refine z_iload_n 2 d_Mo_join_54 rfl rfl ?_
      refine z_iload_n 2 d_Mo_join_55 rfl rfl ?_
      refine z_iconst (v := (0 : Int32)) d_Mo_join_56 (by decide) ?_
      obtain ⟨g26, h25, e27, E⟩ := cV_some E
      refine z_invV (ci := 4) (y := y_Mo_prepare) (Mc := M_Mo_prepare) (av := [.int x2, .int x2, .int (0 : Int32)]) (rest := []) rfl rfl ⟨zt_814, zt_816, zt_34, zt_52⟩ zk_Mo_prepare zy_Mo_prepare (by decide) (Nat.le_of_ble_eq_true rfl) z00 rfl (Nat.le_of_ble_eq_true rfl) d_Mo_join_57 g26 (m_Mo_prepare e27) ?_
      show Z X M_Mo_join 0 0 h25 60 [(0, .ref x0), (1, .int x1), (2, .int x2), (3, .int x3)] []
      refine z_bipush (v := (40 : Int32)) d_Mo_join_60 (by decide) ?_
      refine z_istore (lv2 := [(4, .int (40 : Int32)), (0, .ref x0), (1, .int x1), (2, .int x2), (3, .int x3)]) d_Mo_join_62 (Nat.le_of_ble_eq_true rfl) rfl ?_
      refine z_iconst (v := (0 : Int32)) d_Mo_join_64 (by decide) ?_
      refine z_istore (lv2 := [(5, .int (0 : Int32)), (4, .int (40 : Int32)), (0, .ref x0), (1, .int x1), (2, .int x2), (3, .int x3)]) d_Mo_join_65 (Nat.le_of_ble_eq_true rfl) rfl ?_
      refine z_lv [2, 3, 4, 5, 1, 0] rfl ?_
      exact (w_Mo_join_b67 hQ G) x0 x1 x2 x3 (40 : Int32) (0 : Int32) h25 E
    · refine z_iconst (v := (-1 : Int32)) d_Mo_join_51 (by decide) ?_
      exact z_ireturn hQ rfl z00 d_Mo_join_52 E
  · refine z_iconst (v := (0 : Int32)) d_Mo_join_33 (by decide) ?_
    exact z_ireturn hQ rfl z00 d_Mo_join_34 E
set_option maxRecDepth 100000 in
set_option maxHeartbeats 4000000 in
theorem w_Mo_join_b0 {X : zX} {r : pR} {G : Nat} (hQ : zQ X r) : ∀ (x0 : Nat) (x1 : Int32) (x2 : Int32) (x3 : Int32) (h : pH), f_Mo_join G x0 x1 x2 x3 h = some r → Z X M_Mo_join 0 0 h 0 [(0, .ref x0), (1, .int x1), (2, .int x2), (3, .int x3)] [] := by
  intro x0 x1 x2 x3 h E
  rw [f_Mo_join_eq] at E
  refine z_aload_n 0 d_Mo_join_0 rfl rfl ?_
  refine z_iload_n 1 d_Mo_join_1 rfl rfl ?_
  obtain ⟨g2, v4, h1, e3, E⟩ := cI_some E
  refine z_invS (y := y_Mo_isGraph) (Mc := M_Mo_isGraph) (av := [.int x1]) (rest := [.ref x0]) ⟨zt_750, zt_751, zt_52⟩ zk_Mo_isGraph zy_Mo_isGraph (by decide) (Nat.le_of_ble_eq_true rfl) z00 rfl (Nat.le_of_ble_eq_true rfl) d_Mo_join_2 (m_Mo_isGraph e3) ?_
  show Z X M_Mo_join 0 0 h1 5 [(0, .ref x0), (1, .int x1), (2, .int x2), (3, .int x3)] [.int v4, .ref x0]
  refine z_if_eq (y := 0) (tgt := 26) d_Mo_join_5 (by decide) E (fun E => ?_) (fun E => ?_)
  · exact (w_Mo_join_b26 hQ (w_Mo_join_b27 hQ)) x0 x1 x2 x3 x0 h1 E
  · refine z_iload_n 2 d_Mo_join_8 rfl rfl ?_
    obtain ⟨g6, v8, h5, e7, E⟩ := cI_some E
    refine z_invS (y := y_Mo_isGraph) (Mc := M_Mo_isGraph) (av := [.int x2]) (rest := [.ref x0]) ⟨zt_750, zt_751, zt_52⟩ zk_Mo_isGraph zy_Mo_isGraph (by decide) (Nat.le_of_ble_eq_true rfl) z00 rfl (Nat.le_of_ble_eq_true rfl) d_Mo_join_9 (m_Mo_isGraph e7) ?_
    show Z X M_Mo_join 0 0 h5 12 [(0, .ref x0), (1, .int x1), (2, .int x2), (3, .int x3)] [.int v8, .ref x0]
    refine z_if_eq (y := 0) (tgt := 26) d_Mo_join_12 (by decide) E (fun E => ?_) (fun E => ?_)
    · exact (w_Mo_join_b26 hQ (w_Mo_join_b27 hQ)) x0 x1 x2 x3 x0 h5 E
    · refine z_iload_n 3 d_Mo_join_15 rfl rfl ?_
      obtain ⟨g10, v12, h9, e11, E⟩ := cI_some E
      refine z_invS (y := y_Mo_isGraph) (Mc := M_Mo_isGraph) (av := [.int x3]) (rest := [.ref x0]) ⟨zt_750, zt_751, zt_52⟩ zk_Mo_isGraph zy_Mo_isGraph (by decide) (Nat.le_of_ble_eq_true rfl) z00 rfl (Nat.le_of_ble_eq_true rfl) d_Mo_join_16 (m_Mo_isGraph e11) ?_
      show Z X M_Mo_join 0 0 h9 19 [(0, .ref x0), (1, .int x1), (2, .int x2), (3, .int x3)] [.int v12, .ref x0]
      refine z_if_eq (y := 0) (tgt := 26) d_Mo_join_19 (by decide) E (fun E => ?_) (fun E => ?_)
      · exact (w_Mo_join_b26 hQ (w_Mo_join_b27 hQ)) x0 x1 x2 x3 x0 h9 E
      · refine z_iconst (v := (1 : Int32)) d_Mo_join_22 (by decide) ?_
        refine z_goto (tgt := 27) d_Mo_join_23 (by decide) ?_
        exact (w_Mo_join_b27 hQ) x0 x1 x2 x3 x0 (1 : Int32) h9 E
theorem m_Mo_join {l : Launch} {G : Nat} {x0 : Nat} {x1 : Int32} {x2 : Int32} {x3 : Int32} {h : pH} {r : pR} (E : f_Mo_join G x0 x1 x2 x3 h = some r) : zMet l y_Mo_join M_Mo_join 0 0 [.ref x0, .int x1, .int x2, .int x3] h r :=
  zMet_of (by decide) rfl (Nat.le_of_ble_eq_true rfl) (fun p e s m args below meth c D0 cT => w_Mo_join_b0 (X := (p, l, e, s, m, args, below, meth, c, D0, cT, h, _, 0, 0)) rfl x0 x1 x2 x3 h E)
def f_Mo_doClash_b85 (G : Nat) (k90 : Nat → Int32 → Int32 → Int32 → Int32 → Int32 → pH → Option pR) (x0 : Nat) (x1 : Int32) (x3 : Int32) (x4 : Int32) (x6 : Int32) (h : pH) : Option pR := k90 x0 x1 x3 x4 x6 (1 : Int32) h
theorem f_Mo_doClash_b85_eq (G : Nat) (k90 : Nat → Int32 → Int32 → Int32 → Int32 → Int32 → pH → Option pR) (x0 : Nat) (x1 : Int32) (x3 : Int32) (x4 : Int32) (x6 : Int32) (h : pH) : f_Mo_doClash_b85 G k90 x0 x1 x3 x4 x6 h = (k90 x0 x1 x3 x4 x6 (1 : Int32) h) := rfl
def f_Mo_doClash_b89 (G : Nat) (k90 : Nat → Int32 → Int32 → Int32 → Int32 → Int32 → pH → Option pR) (x0 : Nat) (x1 : Int32) (x3 : Int32) (x4 : Int32) (x6 : Int32) (h : pH) : Option pR := k90 x0 x1 x3 x4 x6 (0 : Int32) h
theorem f_Mo_doClash_b89_eq (G : Nat) (k90 : Nat → Int32 → Int32 → Int32 → Int32 → Int32 → pH → Option pR) (x0 : Nat) (x1 : Int32) (x3 : Int32) (x4 : Int32) (x6 : Int32) (h : pH) : f_Mo_doClash_b89 G k90 x0 x1 x3 x4 x6 h = (k90 x0 x1 x3 x4 x6 (0 : Int32) h) := rfl
def f_Mo_doClash_b90 (G : Nat) (k30 : Nat → Int32 → Int32 → Int32 → Int32 → Int32 → pH → Option pR) (x0 : Nat) (x1 : Int32) (x3 : Int32) (x4 : Int32) (x6 : Int32) (s0 : Int32) (h : pH) : Option pR := k30 x0 x1 x3 x4 s0 (x6 + 1) h
theorem f_Mo_doClash_b90_eq (G : Nat) (k30 : Nat → Int32 → Int32 → Int32 → Int32 → Int32 → pH → Option pR) (x0 : Nat) (x1 : Int32) (x3 : Int32) (x4 : Int32) (x6 : Int32) (s0 : Int32) (h : pH) : f_Mo_doClash_b90 G k30 x0 x1 x3 x4 x6 s0 h = (k30 x0 x1 x3 x4 s0 (x6 + 1) h) := rfl
def f_Mo_doClash_b22 (G : Nat) (h : pH) : Option pR := (if isZ (0 : Int32) = true then some (some (.int (0 : Int32)), h) else none)
theorem f_Mo_doClash_b22_eq (G : Nat) (h : pH) : f_Mo_doClash_b22 G h = ((if isZ (0 : Int32) = true then some (some (.int (0 : Int32)), h) else none)) := rfl
def f_Mo_doClash_b30 (G : Nat) : Nat → Nat → Int32 → Int32 → Int32 → Int32 → Int32 → pH → Option pR
  | 0 => fun _ _ _ _ _ _ _ => none
  | F + 1 => fun x0 x1 x3 x4 x5 x6 h => (gR h x0 4 2).bind fun v9 => (aI h v9 x3).bind fun v10 => if v10 ≤ x6 then ((if isZ x5 = true then some (some (.int x5), h) else none)) else (cI (oC h x0 4) (f_Mo_numberOf G x0 x3 x6 h) fun v14 h11 => if x5 = 0 then (cI (oC h11 x0 4) (f_Mo_has G x0 x1 v14 h11) fun v18 h15 => if v18 = 0 then (cI true (f_Mo_subject G v14 h15) fun v22 h19 => if v22 = x4 then ((f_Mo_doClash_b85 G (f_Mo_doClash_b90 G (f_Mo_doClash_b30 G F))) x0 x1 x3 x4 x6 h19) else (cI true (f_Mo_object G v14 h19) fun v26 h23 => if v26 = x4 then ((f_Mo_doClash_b85 G (f_Mo_doClash_b90 G (f_Mo_doClash_b30 G F))) x0 x1 x3 x4 x6 h23) else ((f_Mo_doClash_b89 G (f_Mo_doClash_b90 G (f_Mo_doClash_b30 G F))) x0 x1 x3 x4 x6 h23))) else ((f_Mo_doClash_b89 G (f_Mo_doClash_b90 G (f_Mo_doClash_b30 G F))) x0 x1 x3 x4 x6 h15)) else ((f_Mo_doClash_b85 G (f_Mo_doClash_b90 G (f_Mo_doClash_b30 G F))) x0 x1 x3 x4 x6 h11))
theorem f_Mo_doClash_b30_eq (G : Nat) (F : Nat) (x0 : Nat) (x1 : Int32) (x3 : Int32) (x4 : Int32) (x5 : Int32) (x6 : Int32) (h : pH) : f_Mo_doClash_b30 G (F + 1) x0 x1 x3 x4 x5 x6 h = ((gR h x0 4 2).bind fun v9 => (aI h v9 x3).bind fun v10 => if v10 ≤ x6 then ((if isZ x5 = true then some (some (.int x5), h) else none)) else (cI (oC h x0 4) (f_Mo_numberOf G x0 x3 x6 h) fun v14 h11 => if x5 = 0 then (cI (oC h11 x0 4) (f_Mo_has G x0 x1 v14 h11) fun v18 h15 => if v18 = 0 then (cI true (f_Mo_subject G v14 h15) fun v22 h19 => if v22 = x4 then ((f_Mo_doClash_b85 G (f_Mo_doClash_b90 G (f_Mo_doClash_b30 G F))) x0 x1 x3 x4 x6 h19) else (cI true (f_Mo_object G v14 h19) fun v26 h23 => if v26 = x4 then ((f_Mo_doClash_b85 G (f_Mo_doClash_b90 G (f_Mo_doClash_b30 G F))) x0 x1 x3 x4 x6 h23) else ((f_Mo_doClash_b89 G (f_Mo_doClash_b90 G (f_Mo_doClash_b30 G F))) x0 x1 x3 x4 x6 h23))) else ((f_Mo_doClash_b89 G (f_Mo_doClash_b90 G (f_Mo_doClash_b30 G F))) x0 x1 x3 x4 x6 h15)) else ((f_Mo_doClash_b85 G (f_Mo_doClash_b90 G (f_Mo_doClash_b30 G F))) x0 x1 x3 x4 x6 h11))) := rfl
def f_Mo_doClash (G : Nat) (x0 : Nat) (x1 : Int32) (x2 : Int32) (x3 : Int32) (x4 : Int32) (h : pH) : Option pR := cI (oC h x0 4) (f_Mo_stands G x0 x1 x4 (0 : Int32) h) fun v4 h1 => if v4 = 0 then ((f_Mo_doClash_b22 G) h1) else (cI (oC h1 x0 4) (f_Mo_stands G x0 x2 x4 (0 : Int32) h1) fun v8 h5 => if v8 = 0 then ((f_Mo_doClash_b30 G G) x0 x1 x3 x4 (0 : Int32) (0 : Int32) h5) else ((f_Mo_doClash_b22 G) h5))
theorem f_Mo_doClash_eq (G : Nat) (x0 : Nat) (x1 : Int32) (x2 : Int32) (x3 : Int32) (x4 : Int32) (h : pH) : f_Mo_doClash G x0 x1 x2 x3 x4 h = (cI (oC h x0 4) (f_Mo_stands G x0 x1 x4 (0 : Int32) h) fun v4 h1 => if v4 = 0 then ((f_Mo_doClash_b22 G) h1) else (cI (oC h1 x0 4) (f_Mo_stands G x0 x2 x4 (0 : Int32) h1) fun v8 h5 => if v8 = 0 then ((f_Mo_doClash_b30 G G) x0 x1 x3 x4 (0 : Int32) (0 : Int32) h5) else ((f_Mo_doClash_b22 G) h5))) := rfl
set_option maxRecDepth 100000 in
set_option maxHeartbeats 4000000 in
theorem w_Mo_doClash_b85 {X : zX} {r : pR} {G : Nat} {k90 : Nat → Int32 → Int32 → Int32 → Int32 → Int32 → pH → Option pR} (hQ : zQ X r) (hk90 : ∀ (x0 : Nat) (x1 : Int32) (x3 : Int32) (x4 : Int32) (x6 : Int32) (s0 : Int32) (h : pH), k90 x0 x1 x3 x4 x6 s0 h = some r → Z X M_Mo_doClash 0 0 h 90 [(0, .ref x0), (1, .int x1), (3, .int x3), (4, .int x4), (6, .int x6)] [.int s0]) : ∀ (x0 : Nat) (x1 : Int32) (x3 : Int32) (x4 : Int32) (x6 : Int32) (h : pH), f_Mo_doClash_b85 G k90 x0 x1 x3 x4 x6 h = some r → Z X M_Mo_doClash 0 0 h 85 [(0, .ref x0), (1, .int x1), (3, .int x3), (4, .int x4), (6, .int x6)] [] := by
  intro x0 x1 x3 x4 x6 h E
  rw [f_Mo_doClash_b85_eq] at E
  refine z_iconst (v := (1 : Int32)) d_Mo_doClash_85 (by decide) ?_
  refine z_goto (tgt := 90) d_Mo_doClash_86 (by decide) ?_
  exact hk90 x0 x1 x3 x4 x6 (1 : Int32) h E
set_option maxRecDepth 100000 in
set_option maxHeartbeats 4000000 in
theorem w_Mo_doClash_b89 {X : zX} {r : pR} {G : Nat} {k90 : Nat → Int32 → Int32 → Int32 → Int32 → Int32 → pH → Option pR} (hQ : zQ X r) (hk90 : ∀ (x0 : Nat) (x1 : Int32) (x3 : Int32) (x4 : Int32) (x6 : Int32) (s0 : Int32) (h : pH), k90 x0 x1 x3 x4 x6 s0 h = some r → Z X M_Mo_doClash 0 0 h 90 [(0, .ref x0), (1, .int x1), (3, .int x3), (4, .int x4), (6, .int x6)] [.int s0]) : ∀ (x0 : Nat) (x1 : Int32) (x3 : Int32) (x4 : Int32) (x6 : Int32) (h : pH), f_Mo_doClash_b89 G k90 x0 x1 x3 x4 x6 h = some r → Z X M_Mo_doClash 0 0 h 89 [(0, .ref x0), (1, .int x1), (3, .int x3), (4, .int x4), (6, .int x6)] [] := by
  intro x0 x1 x3 x4 x6 h E
  rw [f_Mo_doClash_b89_eq] at E
  refine z_iconst (v := (0 : Int32)) d_Mo_doClash_89 (by decide) ?_
  exact hk90 x0 x1 x3 x4 x6 (0 : Int32) h E
set_option maxRecDepth 100000 in
set_option maxHeartbeats 4000000 in
theorem w_Mo_doClash_b90 {X : zX} {r : pR} {G : Nat} {k30 : Nat → Int32 → Int32 → Int32 → Int32 → Int32 → pH → Option pR} (hQ : zQ X r) (hk30 : ∀ (x0 : Nat) (x1 : Int32) (x3 : Int32) (x4 : Int32) (x5 : Int32) (x6 : Int32) (h : pH), k30 x0 x1 x3 x4 x5 x6 h = some r → Z X M_Mo_doClash 0 0 h 30 [(0, .ref x0), (1, .int x1), (3, .int x3), (4, .int x4), (5, .int x5), (6, .int x6)] []) : ∀ (x0 : Nat) (x1 : Int32) (x3 : Int32) (x4 : Int32) (x6 : Int32) (s0 : Int32) (h : pH), f_Mo_doClash_b90 G k30 x0 x1 x3 x4 x6 s0 h = some r → Z X M_Mo_doClash 0 0 h 90 [(0, .ref x0), (1, .int x1), (3, .int x3), (4, .int x4), (6, .int x6)] [.int s0] := by
  intro x0 x1 x3 x4 x6 s0 h E
  rw [f_Mo_doClash_b90_eq] at E
  refine z_istore (lv2 := [(5, .int s0), (0, .ref x0), (1, .int x1), (3, .int x3), (4, .int x4), (6, .int x6)]) d_Mo_doClash_90 (Nat.le_of_ble_eq_true rfl) rfl ?_
  refine z_iinc (v := (x6 + 1)) (lv2 := [(6, .int (x6 + 1)), (5, .int s0), (0, .ref x0), (1, .int x1), (3, .int x3), (4, .int x4)]) 5 d_Mo_doClash_92 rfl rfl (Nat.le_of_ble_eq_true rfl) rfl ?_
  refine z_goto (tgt := 30) d_Mo_doClash_95 (by decide) ?_
  refine z_lv [2, 3, 4, 5, 1, 0] rfl ?_
  exact hk30 x0 x1 x3 x4 s0 (x6 + 1) h E
set_option maxRecDepth 100000 in
set_option maxHeartbeats 4000000 in
theorem w_Mo_doClash_b22 {X : zX} {r : pR} {G : Nat} (hQ : zQ X r) : ∀ (h : pH), f_Mo_doClash_b22 G h = some r → Z X M_Mo_doClash 0 0 h 22 [] [] := by
  intro h E
  rw [f_Mo_doClash_b22_eq] at E
  refine z_iconst (v := (0 : Int32)) d_Mo_doClash_22 (by decide) ?_
  exact z_zreturn hQ rfl z00 d_Mo_doClash_23 E
set_option maxRecDepth 100000 in
set_option maxHeartbeats 4000000 in
theorem w_Mo_doClash_b30 {X : zX} {r : pR} {G : Nat} (hQ : zQ X r) : ∀ (F : Nat) (x0 : Nat) (x1 : Int32) (x3 : Int32) (x4 : Int32) (x5 : Int32) (x6 : Int32) (h : pH), f_Mo_doClash_b30 G F x0 x1 x3 x4 x5 x6 h = some r → Z X M_Mo_doClash 0 0 h 30 [(0, .ref x0), (1, .int x1), (3, .int x3), (4, .int x4), (5, .int x5), (6, .int x6)] [] := by
  intro F
  induction F with
  | zero => intro x0 x1 x3 x4 x5 x6 h E; exact nomatch (show (none : Option pR) = some _ from E)
  | succ F ih =>
    intro x0 x1 x3 x4 x5 x6 h E
    rw [f_Mo_doClash_b30_eq] at E
    refine z_iload 5 d_Mo_doClash_30 rfl ?_
    refine z_aload_n 0 d_Mo_doClash_32 rfl rfl ?_
    refine z_getR (ci := 4) (j := 2) rfl (by decide) zf_Mo_13 d_Mo_doClash_33 E (fun v9 _ E => ?_)
    refine z_iload_n 2 d_Mo_doClash_36 rfl rfl ?_
    refine z_iaload d_Mo_doClash_37 E (fun v10 _ E => ?_)
    refine z_ic_ge (tgt := 98) d_Mo_doClash_38 (by decide) E (fun E => ?_) (fun E => ?_)
    · refine z_iload 4 d_Mo_doClash_98 rfl ?_
      exact z_zreturn hQ rfl z00 d_Mo_doClash_100 E
    · refine z_aload_n 0 d_Mo_doClash_41 rfl rfl ?_
      refine z_iload_n 2 d_Mo_doClash_42 rfl rfl ?_
      refine z_iload 5 d_Mo_doClash_43 rfl ?_
      obtain ⟨g12, v14, h11, e13, E⟩ := cI_some E
      refine z_invV (ci := 4) (y := y_Mo_numberOf) (Mc := M_Mo_numberOf) (av := [.int x3, .int x6]) (rest := []) rfl rfl ⟨zt_760, zt_762, zt_27, zt_52⟩ zk_Mo_numberOf zy_Mo_numberOf (by decide) (Nat.le_of_ble_eq_true rfl) z00 rfl (Nat.le_of_ble_eq_true rfl) d_Mo_doClash_45 g12 (m_Mo_numberOf e13) ?_
      show Z X M_Mo_doClash 0 0 h11 48 [(0, .ref x0), (1, .int x1), (3, .int x3), (4, .int x4), (5, .int x5), (6, .int x6)] [.int v14]
      refine z_istore (lv2 := [(7, .int v14), (0, .ref x0), (1, .int x1), (3, .int x3), (4, .int x4), (5, .int x5), (6, .int x6)]) d_Mo_doClash_48 (Nat.le_of_ble_eq_true rfl) rfl ?_
      refine z_iload 5 d_Mo_doClash_50 rfl ?_
      refine z_if_ne (y := 0) (tgt := 85) d_Mo_doClash_52 (by decide) E (fun E => ?_) (fun E => ?_)
      · refine z_lv [1, 2, 3, 4, 6] rfl ?_
        exact (w_Mo_doClash_b85 hQ (w_Mo_doClash_b90 hQ ih)) x0 x1 x3 x4 x6 h11 E
      · refine z_aload_n 1 d_Mo_doClash_55 rfl rfl ?_
        refine z_iload_n 2 d_Mo_doClash_56 rfl rfl ?_
        refine z_iload 0 d_Mo_doClash_57 rfl ?_
        obtain ⟨g16, v18, h15, e17, E⟩ := cI_some E
        refine z_invV (ci := 4) (y := y_Mo_has) (Mc := M_Mo_has) (av := [.int x1, .int v14]) (rest := []) rfl rfl ⟨zt_756, zt_758, zt_26, zt_52⟩ zk_Mo_has zy_Mo_has (by decide) (Nat.le_of_ble_eq_true rfl) z00 rfl (Nat.le_of_ble_eq_true rfl) d_Mo_doClash_59 g16 (m_Mo_has e17) ?_
        show Z X M_Mo_doClash 0 0 h15 62 [(7, .int v14), (0, .ref x0), (1, .int x1), (3, .int x3), (4, .int x4), (5, .int x5), (6, .int x6)] [.int v18]
        refine z_if_ne (y := 0) (tgt := 89) d_Mo_doClash_62 (by decide) E (fun E => ?_) (fun E => ?_)
        · refine z_lv [1, 2, 3, 4, 6] rfl ?_
          exact (w_Mo_doClash_b89 hQ (w_Mo_doClash_b90 hQ ih)) x0 x1 x3 x4 x6 h15 E
        · refine z_iload 0 d_Mo_doClash_65 rfl ?_
          obtain ⟨g20, v22, h19, e21, E⟩ := cI_some E
          refine z_invS (y := y_Mo_subject) (Mc := M_Mo_subject) (av := [.int v14]) (rest := []) ⟨zt_792, zt_793, zt_52⟩ zk_Mo_subject zy_Mo_subject (by decide) (Nat.le_of_ble_eq_true rfl) z00 rfl (Nat.le_of_ble_eq_true rfl) d_Mo_doClash_67 (m_Mo_subject e21) ?_
          show Z X M_Mo_doClash 0 0 h19 70 [(7, .int v14), (0, .ref x0), (1, .int x1), (3, .int x3), (4, .int x4), (5, .int x5), (6, .int x6)] [.int v22]
          refine z_iload 4 d_Mo_doClash_70 rfl ?_
          refine z_ic_eq (tgt := 85) d_Mo_doClash_72 (by decide) E (fun E => ?_) (fun E => ?_)
          · refine z_lv [1, 2, 3, 4, 6] rfl ?_
            exact (w_Mo_doClash_b85 hQ (w_Mo_doClash_b90 hQ ih)) x0 x1 x3 x4 x6 h19 E
          · refine z_iload 0 d_Mo_doClash_75 rfl ?_
            obtain ⟨g24, v26, h23, e25, E⟩ := cI_some E
            refine z_invS (y := y_Mo_object) (Mc := M_Mo_object) (av := [.int v14]) (rest := []) ⟨zt_795, zt_796, zt_52⟩ zk_Mo_object zy_Mo_object (by decide) (Nat.le_of_ble_eq_true rfl) z00 rfl (Nat.le_of_ble_eq_true rfl) d_Mo_doClash_77 (m_Mo_object e25) ?_
            show Z X M_Mo_doClash 0 0 h23 80 [(7, .int v14), (0, .ref x0), (1, .int x1), (3, .int x3), (4, .int x4), (5, .int x5), (6, .int x6)] [.int v26]
            refine z_iload 4 d_Mo_doClash_80 rfl ?_
            refine z_ic_ne (tgt := 89) d_Mo_doClash_82 (by decide) E (fun E => ?_) (fun E => ?_)
            · refine z_lv [1, 2, 3, 4, 6] rfl ?_
              exact (w_Mo_doClash_b89 hQ (w_Mo_doClash_b90 hQ ih)) x0 x1 x3 x4 x6 h23 E
            · refine z_lv [1, 2, 3, 4, 6] rfl ?_
              exact (w_Mo_doClash_b85 hQ (w_Mo_doClash_b90 hQ ih)) x0 x1 x3 x4 x6 h23 E
set_option maxRecDepth 100000 in
set_option maxHeartbeats 4000000 in
theorem w_Mo_doClash_b0 {X : zX} {r : pR} {G : Nat} (hQ : zQ X r) : ∀ (x0 : Nat) (x1 : Int32) (x2 : Int32) (x3 : Int32) (x4 : Int32) (h : pH), f_Mo_doClash G x0 x1 x2 x3 x4 h = some r → Z X M_Mo_doClash 0 0 h 0 [(0, .ref x0), (1, .int x1), (2, .int x2), (3, .int x3), (4, .int x4)] [] := by
  intro x0 x1 x2 x3 x4 h E
  rw [f_Mo_doClash_eq] at E
  refine z_aload_n 0 d_Mo_doClash_0 rfl rfl ?_
  refine z_iload_n 1 d_Mo_doClash_1 rfl rfl ?_
  refine z_iload 4 d_Mo_doClash_2 rfl ?_
  refine z_iconst (v := (0 : Int32)) d_Mo_doClash_4 (by decide) ?_
  obtain ⟨g2, v4, h1, e3, E⟩ := cI_some E
  refine z_invV (ci := 4) (y := y_Mo_stands) (Mc := M_Mo_stands) (av := [.int x1, .int x4, .int (0 : Int32)]) (rest := []) rfl rfl ⟨zt_788, zt_790, zt_31, zt_52⟩ zk_Mo_stands zy_Mo_stands (by decide) (Nat.le_of_ble_eq_true rfl) z00 rfl (Nat.le_of_ble_eq_true rfl) d_Mo_doClash_5 g2 (m_Mo_stands e3) ?_
  show Z X M_Mo_doClash 0 0 h1 8 [(0, .ref x0), (1, .int x1), (2, .int x2), (3, .int x3), (4, .int x4)] [.int v4]
  refine z_if_eq (y := 0) (tgt := 22) d_Mo_doClash_8 (by decide) E (fun E => ?_) (fun E => ?_)
  · refine z_lv [] rfl ?_
    exact (w_Mo_doClash_b22 hQ) h1 E
  · refine z_aload_n 0 d_Mo_doClash_11 rfl rfl ?_
    refine z_iload_n 2 d_Mo_doClash_12 rfl rfl ?_
    refine z_iload 4 d_Mo_doClash_13 rfl ?_
    refine z_iconst (v := (0 : Int32)) d_Mo_doClash_15 (by decide) ?_
    obtain ⟨g6, v8, h5, e7, E⟩ := cI_some E
    refine z_invV (ci := 4) (y := y_Mo_stands) (Mc := M_Mo_stands) (av := [.int x2, .int x4, .int (0 : Int32)]) (rest := []) rfl rfl ⟨zt_788, zt_790, zt_31, zt_52⟩ zk_Mo_stands zy_Mo_stands (by decide) (Nat.le_of_ble_eq_true rfl) z00 rfl (Nat.le_of_ble_eq_true rfl) d_Mo_doClash_16 g6 (m_Mo_stands e7) ?_
    show Z X M_Mo_doClash 0 0 h5 19 [(0, .ref x0), (1, .int x1), (2, .int x2), (3, .int x3), (4, .int x4)] [.int v8]
    refine z_if_eq (y := 0) (tgt := 24) d_Mo_doClash_19 (by decide) E (fun E => ?_) (fun E => ?_)
    · refine z_iconst (v := (0 : Int32)) d_Mo_doClash_24 (by decide) ?_
      refine z_istore (lv2 := [(5, .int (0 : Int32)), (0, .ref x0), (1, .int x1), (2, .int x2), (3, .int x3), (4, .int x4)]) d_Mo_doClash_25 (Nat.le_of_ble_eq_true rfl) rfl ?_
      refine z_iconst (v := (0 : Int32)) d_Mo_doClash_27 (by decide) ?_
      refine z_istore (lv2 := [(6, .int (0 : Int32)), (5, .int (0 : Int32)), (0, .ref x0), (1, .int x1), (2, .int x2), (3, .int x3), (4, .int x4)]) d_Mo_doClash_28 (Nat.le_of_ble_eq_true rfl) rfl ?_
      refine z_lv [2, 3, 5, 6, 1, 0] rfl ?_
      exact (w_Mo_doClash_b30 hQ G) x0 x1 x3 x4 (0 : Int32) (0 : Int32) h5 E
    · refine z_lv [] rfl ?_
      exact (w_Mo_doClash_b22 hQ) h5 E
theorem m_Mo_doClash {l : Launch} {G : Nat} {x0 : Nat} {x1 : Int32} {x2 : Int32} {x3 : Int32} {x4 : Int32} {h : pH} {r : pR} (E : f_Mo_doClash G x0 x1 x2 x3 x4 h = some r) : zMet l y_Mo_doClash M_Mo_doClash 0 0 [.ref x0, .int x1, .int x2, .int x3, .int x4] h r :=
  zMet_of (by decide) rfl (Nat.le_of_ble_eq_true rfl) (fun p e s m args below meth c D0 cT => w_Mo_doClash_b0 (X := (p, l, e, s, m, args, below, meth, c, D0, cT, h, _, 0, 0)) rfl x0 x1 x2 x3 x4 h E)
def f_Mo_note (G : Nat) (x0 : Nat) (x1 : Int32) (x2 : Int32) (h : pH) : Option pR := (gR h x0 4 13).bind fun v1 => (gI h x0 4 12).bind fun v2 => (sI h v1 v2 x1).bind fun h3 => (gR h3 x0 4 14).bind fun v4 => (gI h3 x0 4 12).bind fun v5 => (sI h3 v4 v5 x2).bind fun h6 => (gI h6 x0 4 12).bind fun v7 => (oP h6 x0 4 12 (.int (v7 + (1 : Int32)))).bind fun h8 => some (none, h8)
theorem f_Mo_note_eq (G : Nat) (x0 : Nat) (x1 : Int32) (x2 : Int32) (h : pH) : f_Mo_note G x0 x1 x2 h = ((gR h x0 4 13).bind fun v1 => (gI h x0 4 12).bind fun v2 => (sI h v1 v2 x1).bind fun h3 => (gR h3 x0 4 14).bind fun v4 => (gI h3 x0 4 12).bind fun v5 => (sI h3 v4 v5 x2).bind fun h6 => (gI h6 x0 4 12).bind fun v7 => (oP h6 x0 4 12 (.int (v7 + (1 : Int32)))).bind fun h8 => some (none, h8)) := rfl
set_option maxRecDepth 100000 in
set_option maxHeartbeats 4000000 in
theorem w_Mo_note_b0 {X : zX} {r : pR} {G : Nat} (hQ : zQ X r) : ∀ (x0 : Nat) (x1 : Int32) (x2 : Int32) (h : pH), f_Mo_note G x0 x1 x2 h = some r → Z X M_Mo_note 0 0 h 0 [(0, .ref x0), (1, .int x1), (2, .int x2)] [] := by
  intro x0 x1 x2 h E
  rw [f_Mo_note_eq] at E
  refine z_aload_n 0 d_Mo_note_0 rfl rfl ?_
  refine z_getR (ci := 4) (j := 13) rfl (by decide) zf_Mo_34 d_Mo_note_1 E (fun v1 _ E => ?_)
  refine z_aload_n 0 d_Mo_note_4 rfl rfl ?_
  refine z_getI (ci := 4) (j := 12) rfl (by decide) zf_Mo_139 d_Mo_note_5 E (fun v2 _ E => ?_)
  refine z_iload_n 1 d_Mo_note_8 rfl rfl ?_
  refine z_iastore d_Mo_note_9 E (fun h3 _ E => ?_)
  refine z_aload_n 0 d_Mo_note_10 rfl rfl ?_
  refine z_getR (ci := 4) (j := 14) rfl (by decide) zf_Mo_37 d_Mo_note_11 E (fun v4 _ E => ?_)
  refine z_aload_n 0 d_Mo_note_14 rfl rfl ?_
  refine z_getI (ci := 4) (j := 12) rfl (by decide) zf_Mo_139 d_Mo_note_15 E (fun v5 _ E => ?_)
  refine z_iload_n 2 d_Mo_note_18 rfl rfl ?_
  refine z_iastore d_Mo_note_19 E (fun h6 _ E => ?_)
  refine z_aload_n 0 d_Mo_note_20 rfl rfl ?_
  refine z_dup d_Mo_note_21 rfl ?_
  refine z_getI (ci := 4) (j := 12) rfl (by decide) zf_Mo_139 d_Mo_note_22 E (fun v7 _ E => ?_)
  refine z_iconst (v := (1 : Int32)) d_Mo_note_25 (by decide) ?_
  refine z_iadd d_Mo_note_26 ?_
  refine z_putI (ci := 4) (j := 12) rfl (by decide) zf_Mo_139 rfl rfl d_Mo_note_27 E (fun h8 _ E => ?_)
  exact z_return hQ rfl z00 d_Mo_note_30 E
theorem m_Mo_note {l : Launch} {G : Nat} {x0 : Nat} {x1 : Int32} {x2 : Int32} {h : pH} {r : pR} (E : f_Mo_note G x0 x1 x2 h = some r) : zMet l y_Mo_note M_Mo_note 0 0 [.ref x0, .int x1, .int x2] h r :=
  zMet_of (by decide) rfl (Nat.le_of_ble_eq_true rfl) (fun p e s m args below meth c D0 cT => w_Mo_note_b0 (X := (p, l, e, s, m, args, below, meth, c, D0, cT, h, _, 0, 0)) rfl x0 x1 x2 h E)
def f_Mo_merge_b259 (G : Nat) (k214 : Nat → Int32 → Int32 → Int32 → Int32 → Int32 → pH → Option pR) (x0 : Nat) (x1 : Int32) (x2 : Int32) (x3 : Int32) (x4 : Int32) (x5 : Int32) (h : pH) : Option pR := k214 x0 x1 x2 x3 x4 (x5 + 1) h
theorem f_Mo_merge_b259_eq (G : Nat) (k214 : Nat → Int32 → Int32 → Int32 → Int32 → Int32 → pH → Option pR) (x0 : Nat) (x1 : Int32) (x2 : Int32) (x3 : Int32) (x4 : Int32) (x5 : Int32) (h : pH) : f_Mo_merge_b259 G k214 x0 x1 x2 x3 x4 x5 h = (k214 x0 x1 x2 x3 x4 (x5 + 1) h) := rfl
def f_Mo_merge_b240 (G : Nat) (k214 : Nat → Int32 → Int32 → Int32 → Int32 → Int32 → pH → Option pR) (x0 : Nat) (x1 : Int32) (x2 : Int32) (x3 : Int32) (x4 : Int32) (x5 : Int32) (h : pH) : Option pR := cI (oC h x0 4) (f_Mo_doClash G x0 x1 x3 x2 x5 h) fun v89 h86 => if v89 = 0 then ((f_Mo_merge_b259 G k214) x0 x1 x2 x3 x4 x5 h86) else (cV (oC h86 x0 4) (f_Mo_note G x0 x5 (1 : Int32) h86) fun h90 => (f_Mo_merge_b259 G k214) x0 x1 x2 x3 x4 x5 h90)
theorem f_Mo_merge_b240_eq (G : Nat) (k214 : Nat → Int32 → Int32 → Int32 → Int32 → Int32 → pH → Option pR) (x0 : Nat) (x1 : Int32) (x2 : Int32) (x3 : Int32) (x4 : Int32) (x5 : Int32) (h : pH) : f_Mo_merge_b240 G k214 x0 x1 x2 x3 x4 x5 h = (cI (oC h x0 4) (f_Mo_doClash G x0 x1 x3 x2 x5 h) fun v89 h86 => if v89 = 0 then ((f_Mo_merge_b259 G k214) x0 x1 x2 x3 x4 x5 h86) else (cV (oC h86 x0 4) (f_Mo_note G x0 x5 (1 : Int32) h86) fun h90 => (f_Mo_merge_b259 G k214) x0 x1 x2 x3 x4 x5 h90)) := rfl
def f_Mo_merge_b189 (G : Nat) (k152 : Nat → Int32 → Int32 → Int32 → Int32 → Int32 → pH → Option pR) (x0 : Nat) (x1 : Int32) (x2 : Int32) (x3 : Int32) (x4 : Int32) (x5 : Int32) (h : pH) : Option pR := k152 x0 x1 x2 x3 x4 (x5 + 1) h
theorem f_Mo_merge_b189_eq (G : Nat) (k152 : Nat → Int32 → Int32 → Int32 → Int32 → Int32 → pH → Option pR) (x0 : Nat) (x1 : Int32) (x2 : Int32) (x3 : Int32) (x4 : Int32) (x5 : Int32) (h : pH) : f_Mo_merge_b189 G k152 x0 x1 x2 x3 x4 x5 h = (k152 x0 x1 x2 x3 x4 (x5 + 1) h) := rfl
def f_Mo_merge_b214 (G : Nat) : Nat → Nat → Int32 → Int32 → Int32 → Int32 → Int32 → pH → Option pR
  | 0 => fun _ _ _ _ _ _ _ => none
  | F + 1 => fun x0 x1 x2 x3 x4 x5 h => if (46 : Int32) ≤ x5 then (cV (oC h x0 4) (f_Mo_keep G x0 x4 h) fun h75 => (gI h75 x0 4 12).bind fun v78 => some (some (.int v78), h75)) else (cI (oC h x0 4) (f_Mo_doClash G x0 x1 x2 x3 x5 h) fun v82 h79 => if v82 = 0 then ((f_Mo_merge_b240 G (f_Mo_merge_b214 G F)) x0 x1 x2 x3 x4 x5 h79) else (cV (oC h79 x0 4) (f_Mo_note G x0 x5 (0 : Int32) h79) fun h83 => (f_Mo_merge_b240 G (f_Mo_merge_b214 G F)) x0 x1 x2 x3 x4 x5 h83))
theorem f_Mo_merge_b214_eq (G : Nat) (F : Nat) (x0 : Nat) (x1 : Int32) (x2 : Int32) (x3 : Int32) (x4 : Int32) (x5 : Int32) (h : pH) : f_Mo_merge_b214 G (F + 1) x0 x1 x2 x3 x4 x5 h = (if (46 : Int32) ≤ x5 then (cV (oC h x0 4) (f_Mo_keep G x0 x4 h) fun h75 => (gI h75 x0 4 12).bind fun v78 => some (some (.int v78), h75)) else (cI (oC h x0 4) (f_Mo_doClash G x0 x1 x2 x3 x5 h) fun v82 h79 => if v82 = 0 then ((f_Mo_merge_b240 G (f_Mo_merge_b214 G F)) x0 x1 x2 x3 x4 x5 h79) else (cV (oC h79 x0 4) (f_Mo_note G x0 x5 (0 : Int32) h79) fun h83 => (f_Mo_merge_b240 G (f_Mo_merge_b214 G F)) x0 x1 x2 x3 x4 x5 h83))) := rfl
def f_Mo_merge_b143 (G : Nat) (k106 : Nat → Int32 → Int32 → Int32 → Int32 → Int32 → pH → Option pR) (x0 : Nat) (x1 : Int32) (x2 : Int32) (x3 : Int32) (x4 : Int32) (x5 : Int32) (h : pH) : Option pR := k106 x0 x1 x2 x3 x4 (x5 + 1) h
theorem f_Mo_merge_b143_eq (G : Nat) (k106 : Nat → Int32 → Int32 → Int32 → Int32 → Int32 → pH → Option pR) (x0 : Nat) (x1 : Int32) (x2 : Int32) (x3 : Int32) (x4 : Int32) (x5 : Int32) (h : pH) : f_Mo_merge_b143 G k106 x0 x1 x2 x3 x4 x5 h = (k106 x0 x1 x2 x3 x4 (x5 + 1) h) := rfl
def f_Mo_merge_b152 (G : Nat) : Nat → Nat → Int32 → Int32 → Int32 → Int32 → Int32 → pH → Option pR
  | 0 => fun _ _ _ _ _ _ _ => none
  | F + 1 => fun x0 x1 x2 x3 x4 x5 h => (gR h x0 4 2).bind fun v56 => (aI h v56 x3).bind fun v57 => if v57 ≤ x5 then ((gI h x0 4 4).bind fun v58 => if v58 ≤ (30 : Int32) then ((oP h x0 4 12 (.int (0 : Int32))).bind fun h59 => (f_Mo_merge_b214 G G) x0 x1 x2 x3 x4 (0 : Int32) h59) else (some (some (.int (-1 : Int32)), h))) else (cI (oC h x0 4) (f_Mo_numberOf G x0 x3 x5 h) fun v63 h60 => cI (oC h60 x0 4) (f_Mo_has G x0 x1 v63 h60) fun v67 h64 => if v67 = 0 then (cI (oC h64 x0 4) (f_Mo_numberOf G x0 x3 x5 h64) fun v71 h68 => cV (oC h68 x0 4) (f_Mo_add G x0 v71 h68) fun h72 => (f_Mo_merge_b189 G (f_Mo_merge_b152 G F)) x0 x1 x2 x3 x4 x5 h72) else ((f_Mo_merge_b189 G (f_Mo_merge_b152 G F)) x0 x1 x2 x3 x4 x5 h64))
theorem f_Mo_merge_b152_eq (G : Nat) (F : Nat) (x0 : Nat) (x1 : Int32) (x2 : Int32) (x3 : Int32) (x4 : Int32) (x5 : Int32) (h : pH) : f_Mo_merge_b152 G (F + 1) x0 x1 x2 x3 x4 x5 h = ((gR h x0 4 2).bind fun v56 => (aI h v56 x3).bind fun v57 => if v57 ≤ x5 then ((gI h x0 4 4).bind fun v58 => if v58 ≤ (30 : Int32) then ((oP h x0 4 12 (.int (0 : Int32))).bind fun h59 => (f_Mo_merge_b214 G G) x0 x1 x2 x3 x4 (0 : Int32) h59) else (some (some (.int (-1 : Int32)), h))) else (cI (oC h x0 4) (f_Mo_numberOf G x0 x3 x5 h) fun v63 h60 => cI (oC h60 x0 4) (f_Mo_has G x0 x1 v63 h60) fun v67 h64 => if v67 = 0 then (cI (oC h64 x0 4) (f_Mo_numberOf G x0 x3 x5 h64) fun v71 h68 => cV (oC h68 x0 4) (f_Mo_add G x0 v71 h68) fun h72 => (f_Mo_merge_b189 G (f_Mo_merge_b152 G F)) x0 x1 x2 x3 x4 x5 h72) else ((f_Mo_merge_b189 G (f_Mo_merge_b152 G F)) x0 x1 x2 x3 x4 x5 h64))) := rfl
def f_Mo_merge_b97 (G : Nat) (k51 : Nat → Int32 → Int32 → Int32 → Int32 → Int32 → pH → Option pR) (x0 : Nat) (x1 : Int32) (x2 : Int32) (x3 : Int32) (x4 : Int32) (x5 : Int32) (h : pH) : Option pR := k51 x0 x1 x2 x3 x4 (x5 + 1) h
theorem f_Mo_merge_b97_eq (G : Nat) (k51 : Nat → Int32 → Int32 → Int32 → Int32 → Int32 → pH → Option pR) (x0 : Nat) (x1 : Int32) (x2 : Int32) (x3 : Int32) (x4 : Int32) (x5 : Int32) (h : pH) : f_Mo_merge_b97 G k51 x0 x1 x2 x3 x4 x5 h = (k51 x0 x1 x2 x3 x4 (x5 + 1) h) := rfl
def f_Mo_merge_b106 (G : Nat) : Nat → Nat → Int32 → Int32 → Int32 → Int32 → Int32 → pH → Option pR
  | 0 => fun _ _ _ _ _ _ _ => none
  | F + 1 => fun x0 x1 x2 x3 x4 x5 h => (gR h x0 4 2).bind fun v39 => (aI h v39 x2).bind fun v40 => if v40 ≤ x5 then ((f_Mo_merge_b152 G G) x0 x1 x2 x3 x4 (0 : Int32) h) else (cI (oC h x0 4) (f_Mo_numberOf G x0 x2 x5 h) fun v44 h41 => cI (oC h41 x0 4) (f_Mo_has G x0 x1 v44 h41) fun v48 h45 => if v48 = 0 then (cI (oC h45 x0 4) (f_Mo_numberOf G x0 x2 x5 h45) fun v52 h49 => cV (oC h49 x0 4) (f_Mo_add G x0 v52 h49) fun h53 => (f_Mo_merge_b143 G (f_Mo_merge_b106 G F)) x0 x1 x2 x3 x4 x5 h53) else ((f_Mo_merge_b143 G (f_Mo_merge_b106 G F)) x0 x1 x2 x3 x4 x5 h45))
theorem f_Mo_merge_b106_eq (G : Nat) (F : Nat) (x0 : Nat) (x1 : Int32) (x2 : Int32) (x3 : Int32) (x4 : Int32) (x5 : Int32) (h : pH) : f_Mo_merge_b106 G (F + 1) x0 x1 x2 x3 x4 x5 h = ((gR h x0 4 2).bind fun v39 => (aI h v39 x2).bind fun v40 => if v40 ≤ x5 then ((f_Mo_merge_b152 G G) x0 x1 x2 x3 x4 (0 : Int32) h) else (cI (oC h x0 4) (f_Mo_numberOf G x0 x2 x5 h) fun v44 h41 => cI (oC h41 x0 4) (f_Mo_has G x0 x1 v44 h41) fun v48 h45 => if v48 = 0 then (cI (oC h45 x0 4) (f_Mo_numberOf G x0 x2 x5 h45) fun v52 h49 => cV (oC h49 x0 4) (f_Mo_add G x0 v52 h49) fun h53 => (f_Mo_merge_b143 G (f_Mo_merge_b106 G F)) x0 x1 x2 x3 x4 x5 h53) else ((f_Mo_merge_b143 G (f_Mo_merge_b106 G F)) x0 x1 x2 x3 x4 x5 h45))) := rfl
def f_Mo_merge_b51 (G : Nat) : Nat → Nat → Int32 → Int32 → Int32 → Int32 → Int32 → pH → Option pR
  | 0 => fun _ _ _ _ _ _ _ => none
  | F + 1 => fun x0 x1 x2 x3 x4 x5 h => (gR h x0 4 2).bind fun v22 => (aI h v22 x1).bind fun v23 => if v23 ≤ x5 then ((f_Mo_merge_b106 G G) x0 x1 x2 x3 x4 (0 : Int32) h) else (cI (oC h x0 4) (f_Mo_numberOf G x0 x1 x5 h) fun v27 h24 => cI (oC h24 x0 4) (f_Mo_has G x0 x2 v27 h24) fun v31 h28 => if v31 = 0 then ((f_Mo_merge_b97 G (f_Mo_merge_b51 G F)) x0 x1 x2 x3 x4 x5 h28) else (cI (oC h28 x0 4) (f_Mo_has G x0 x3 v27 h28) fun v35 h32 => if v35 = 0 then ((f_Mo_merge_b97 G (f_Mo_merge_b51 G F)) x0 x1 x2 x3 x4 x5 h32) else (cV (oC h32 x0 4) (f_Mo_add G x0 v27 h32) fun h36 => (f_Mo_merge_b97 G (f_Mo_merge_b51 G F)) x0 x1 x2 x3 x4 x5 h36)))
theorem f_Mo_merge_b51_eq (G : Nat) (F : Nat) (x0 : Nat) (x1 : Int32) (x2 : Int32) (x3 : Int32) (x4 : Int32) (x5 : Int32) (h : pH) : f_Mo_merge_b51 G (F + 1) x0 x1 x2 x3 x4 x5 h = ((gR h x0 4 2).bind fun v22 => (aI h v22 x1).bind fun v23 => if v23 ≤ x5 then ((f_Mo_merge_b106 G G) x0 x1 x2 x3 x4 (0 : Int32) h) else (cI (oC h x0 4) (f_Mo_numberOf G x0 x1 x5 h) fun v27 h24 => cI (oC h24 x0 4) (f_Mo_has G x0 x2 v27 h24) fun v31 h28 => if v31 = 0 then ((f_Mo_merge_b97 G (f_Mo_merge_b51 G F)) x0 x1 x2 x3 x4 x5 h28) else (cI (oC h28 x0 4) (f_Mo_has G x0 x3 v27 h28) fun v35 h32 => if v35 = 0 then ((f_Mo_merge_b97 G (f_Mo_merge_b51 G F)) x0 x1 x2 x3 x4 x5 h32) else (cV (oC h32 x0 4) (f_Mo_add G x0 v27 h32) fun h36 => (f_Mo_merge_b97 G (f_Mo_merge_b51 G F)) x0 x1 x2 x3 x4 x5 h36)))) := rfl
def f_Mo_merge_b34 (G : Nat) (k35 : Nat → Int32 → Int32 → Int32 → Int32 → Nat → Int32 → pH → Option pR) (x0 : Nat) (x1 : Int32) (x2 : Int32) (x3 : Int32) (x4 : Int32) (s0 : Nat) (h : pH) : Option pR := k35 x0 x1 x2 x3 x4 s0 (0 : Int32) h
theorem f_Mo_merge_b34_eq (G : Nat) (k35 : Nat → Int32 → Int32 → Int32 → Int32 → Nat → Int32 → pH → Option pR) (x0 : Nat) (x1 : Int32) (x2 : Int32) (x3 : Int32) (x4 : Int32) (s0 : Nat) (h : pH) : f_Mo_merge_b34 G k35 x0 x1 x2 x3 x4 s0 h = (k35 x0 x1 x2 x3 x4 s0 (0 : Int32) h) := rfl
def f_Mo_merge_b35 (G : Nat) (x0 : Nat) (x1 : Int32) (x2 : Int32) (x3 : Int32) (x4 : Int32) (s0 : Nat) (s1 : Int32) (h : pH) : Option pR := cI (oC h s0 4) (f_Mo_there G s0 s1 h) fun v20 h17 => if v20 = 0 then (some (some (.int (0 : Int32)), h17)) else ((oP h17 x0 4 4 (.int (0 : Int32))).bind fun h21 => (f_Mo_merge_b51 G G) x0 x1 x2 x3 x4 (0 : Int32) h21)
theorem f_Mo_merge_b35_eq (G : Nat) (x0 : Nat) (x1 : Int32) (x2 : Int32) (x3 : Int32) (x4 : Int32) (s0 : Nat) (s1 : Int32) (h : pH) : f_Mo_merge_b35 G x0 x1 x2 x3 x4 s0 s1 h = (cI (oC h s0 4) (f_Mo_there G s0 s1 h) fun v20 h17 => if v20 = 0 then (some (some (.int (0 : Int32)), h17)) else ((oP h17 x0 4 4 (.int (0 : Int32))).bind fun h21 => (f_Mo_merge_b51 G G) x0 x1 x2 x3 x4 (0 : Int32) h21)) := rfl
def f_Mo_merge (G : Nat) (x0 : Nat) (x1 : Int32) (x2 : Int32) (x3 : Int32) (x4 : Int32) (h : pH) : Option pR := cI true (f_Mo_isGraph G x1 h) fun v4 h1 => if v4 = 0 then ((f_Mo_merge_b34 G (f_Mo_merge_b35 G)) x0 x1 x2 x3 x4 x0 h1) else (cI true (f_Mo_isGraph G x2 h1) fun v8 h5 => if v8 = 0 then ((f_Mo_merge_b34 G (f_Mo_merge_b35 G)) x0 x1 x2 x3 x4 x0 h5) else (cI true (f_Mo_isGraph G x3 h5) fun v12 h9 => if v12 = 0 then ((f_Mo_merge_b34 G (f_Mo_merge_b35 G)) x0 x1 x2 x3 x4 x0 h9) else (cI true (f_Mo_isGraph G x4 h9) fun v16 h13 => if v16 = 0 then ((f_Mo_merge_b34 G (f_Mo_merge_b35 G)) x0 x1 x2 x3 x4 x0 h13) else ((f_Mo_merge_b35 G) x0 x1 x2 x3 x4 x0 (1 : Int32) h13))))
theorem f_Mo_merge_eq (G : Nat) (x0 : Nat) (x1 : Int32) (x2 : Int32) (x3 : Int32) (x4 : Int32) (h : pH) : f_Mo_merge G x0 x1 x2 x3 x4 h = (cI true (f_Mo_isGraph G x1 h) fun v4 h1 => if v4 = 0 then ((f_Mo_merge_b34 G (f_Mo_merge_b35 G)) x0 x1 x2 x3 x4 x0 h1) else (cI true (f_Mo_isGraph G x2 h1) fun v8 h5 => if v8 = 0 then ((f_Mo_merge_b34 G (f_Mo_merge_b35 G)) x0 x1 x2 x3 x4 x0 h5) else (cI true (f_Mo_isGraph G x3 h5) fun v12 h9 => if v12 = 0 then ((f_Mo_merge_b34 G (f_Mo_merge_b35 G)) x0 x1 x2 x3 x4 x0 h9) else (cI true (f_Mo_isGraph G x4 h9) fun v16 h13 => if v16 = 0 then ((f_Mo_merge_b34 G (f_Mo_merge_b35 G)) x0 x1 x2 x3 x4 x0 h13) else ((f_Mo_merge_b35 G) x0 x1 x2 x3 x4 x0 (1 : Int32) h13))))) := rfl
set_option maxRecDepth 100000 in
set_option maxHeartbeats 4000000 in
theorem w_Mo_merge_b259 {X : zX} {r : pR} {G : Nat} {k214 : Nat → Int32 → Int32 → Int32 → Int32 → Int32 → pH → Option pR} (hQ : zQ X r) (hk214 : ∀ (x0 : Nat) (x1 : Int32) (x2 : Int32) (x3 : Int32) (x4 : Int32) (x5 : Int32) (h : pH), k214 x0 x1 x2 x3 x4 x5 h = some r → Z X M_Mo_merge 0 0 h 214 [(0, .ref x0), (1, .int x1), (2, .int x2), (3, .int x3), (4, .int x4), (5, .int x5)] []) : ∀ (x0 : Nat) (x1 : Int32) (x2 : Int32) (x3 : Int32) (x4 : Int32) (x5 : Int32) (h : pH), f_Mo_merge_b259 G k214 x0 x1 x2 x3 x4 x5 h = some r → Z X M_Mo_merge 0 0 h 259 [(0, .ref x0), (1, .int x1), (2, .int x2), (3, .int x3), (4, .int x4), (5, .int x5)] [] := by
  intro x0 x1 x2 x3 x4 x5 h E
  rw [f_Mo_merge_b259_eq] at E
  refine z_iinc (v := (x5 + 1)) (lv2 := [(5, .int (x5 + 1)), (0, .ref x0), (1, .int x1), (2, .int x2), (3, .int x3), (4, .int x4)]) 5 d_Mo_merge_259 rfl rfl (Nat.le_of_ble_eq_true rfl) rfl ?_
  refine z_goto (tgt := 214) d_Mo_merge_262 (by decide) ?_
  refine z_lv [1, 2, 3, 4, 5, 0] rfl ?_
  exact hk214 x0 x1 x2 x3 x4 (x5 + 1) h E
set_option maxRecDepth 100000 in
set_option maxHeartbeats 4000000 in
theorem w_Mo_merge_b240 {X : zX} {r : pR} {G : Nat} {k214 : Nat → Int32 → Int32 → Int32 → Int32 → Int32 → pH → Option pR} (hQ : zQ X r) (hk214 : ∀ (x0 : Nat) (x1 : Int32) (x2 : Int32) (x3 : Int32) (x4 : Int32) (x5 : Int32) (h : pH), k214 x0 x1 x2 x3 x4 x5 h = some r → Z X M_Mo_merge 0 0 h 214 [(0, .ref x0), (1, .int x1), (2, .int x2), (3, .int x3), (4, .int x4), (5, .int x5)] []) : ∀ (x0 : Nat) (x1 : Int32) (x2 : Int32) (x3 : Int32) (x4 : Int32) (x5 : Int32) (h : pH), f_Mo_merge_b240 G k214 x0 x1 x2 x3 x4 x5 h = some r → Z X M_Mo_merge 0 0 h 240 [(0, .ref x0), (1, .int x1), (2, .int x2), (3, .int x3), (4, .int x4), (5, .int x5)] [] := by
  intro x0 x1 x2 x3 x4 x5 h E
  rw [f_Mo_merge_b240_eq] at E
  refine z_aload_n 0 d_Mo_merge_240 rfl rfl ?_
  refine z_iload_n 1 d_Mo_merge_241 rfl rfl ?_
  refine z_iload_n 3 d_Mo_merge_242 rfl rfl ?_
  refine z_iload_n 2 d_Mo_merge_243 rfl rfl ?_
  refine z_iload 5 d_Mo_merge_244 rfl ?_
  obtain ⟨g87, v89, h86, e88, E⟩ := cI_some E
  refine z_invV (ci := 4) (y := y_Mo_doClash) (Mc := M_Mo_doClash) (av := [.int x1, .int x3, .int x2, .int x5]) (rest := []) rfl rfl ⟨zt_886, zt_888, zt_44, zt_52⟩ zk_Mo_doClash zy_Mo_doClash (by decide) (Nat.le_of_ble_eq_true rfl) z00 rfl (Nat.le_of_ble_eq_true rfl) d_Mo_merge_246 g87 (m_Mo_doClash e88) ?_
  show Z X M_Mo_merge 0 0 h86 249 [(0, .ref x0), (1, .int x1), (2, .int x2), (3, .int x3), (4, .int x4), (5, .int x5)] [.int v89]
  refine z_if_eq (y := 0) (tgt := 259) d_Mo_merge_249 (by decide) E (fun E => ?_) (fun E => ?_)
  · exact (w_Mo_merge_b259 hQ hk214) x0 x1 x2 x3 x4 x5 h86 E
  · refine z_aload_n 0 d_Mo_merge_252 rfl rfl ?_
    refine z_iload 5 d_Mo_merge_253 rfl ?_
    refine z_iconst (v := (1 : Int32)) d_Mo_merge_255 (by decide) ?_
    obtain ⟨g91, h90, e92, E⟩ := cV_some E
    refine z_invV (ci := 4) (y := y_Mo_note) (Mc := M_Mo_note) (av := [.int x5, .int (1 : Int32)]) (rest := []) rfl rfl ⟨zt_890, zt_892, zt_45, zt_52⟩ zk_Mo_note zy_Mo_note (by decide) (Nat.le_of_ble_eq_true rfl) z00 rfl (Nat.le_of_ble_eq_true rfl) d_Mo_merge_256 g91 (m_Mo_note e92) ?_
    show Z X M_Mo_merge 0 0 h90 259 [(0, .ref x0), (1, .int x1), (2, .int x2), (3, .int x3), (4, .int x4), (5, .int x5)] []
    exact (w_Mo_merge_b259 hQ hk214) x0 x1 x2 x3 x4 x5 h90 E
set_option maxRecDepth 100000 in
set_option maxHeartbeats 4000000 in
theorem w_Mo_merge_b189 {X : zX} {r : pR} {G : Nat} {k152 : Nat → Int32 → Int32 → Int32 → Int32 → Int32 → pH → Option pR} (hQ : zQ X r) (hk152 : ∀ (x0 : Nat) (x1 : Int32) (x2 : Int32) (x3 : Int32) (x4 : Int32) (x5 : Int32) (h : pH), k152 x0 x1 x2 x3 x4 x5 h = some r → Z X M_Mo_merge 0 0 h 152 [(0, .ref x0), (1, .int x1), (2, .int x2), (3, .int x3), (4, .int x4), (5, .int x5)] []) : ∀ (x0 : Nat) (x1 : Int32) (x2 : Int32) (x3 : Int32) (x4 : Int32) (x5 : Int32) (h : pH), f_Mo_merge_b189 G k152 x0 x1 x2 x3 x4 x5 h = some r → Z X M_Mo_merge 0 0 h 189 [(0, .ref x0), (1, .int x1), (2, .int x2), (3, .int x3), (4, .int x4), (5, .int x5)] [] := by
  intro x0 x1 x2 x3 x4 x5 h E
  rw [f_Mo_merge_b189_eq] at E
  refine z_iinc (v := (x5 + 1)) (lv2 := [(5, .int (x5 + 1)), (0, .ref x0), (1, .int x1), (2, .int x2), (3, .int x3), (4, .int x4)]) 5 d_Mo_merge_189 rfl rfl (Nat.le_of_ble_eq_true rfl) rfl ?_
  refine z_goto (tgt := 152) d_Mo_merge_192 (by decide) ?_
  refine z_lv [1, 2, 3, 4, 5, 0] rfl ?_
  exact hk152 x0 x1 x2 x3 x4 (x5 + 1) h E
set_option maxRecDepth 100000 in
set_option maxHeartbeats 4000000 in
theorem w_Mo_merge_b214 {X : zX} {r : pR} {G : Nat} (hQ : zQ X r) : ∀ (F : Nat) (x0 : Nat) (x1 : Int32) (x2 : Int32) (x3 : Int32) (x4 : Int32) (x5 : Int32) (h : pH), f_Mo_merge_b214 G F x0 x1 x2 x3 x4 x5 h = some r → Z X M_Mo_merge 0 0 h 214 [(0, .ref x0), (1, .int x1), (2, .int x2), (3, .int x3), (4, .int x4), (5, .int x5)] [] := by
  intro F
  induction F with
  | zero => intro x0 x1 x2 x3 x4 x5 h E; exact nomatch (show (none : Option pR) = some _ from E)
  | succ F ih =>
    intro x0 x1 x2 x3 x4 x5 h E
    rw [f_Mo_merge_b214_eq] at E
    refine z_iload 5 d_Mo_merge_214 rfl ?_
    refine z_bipush (v := (46 : Int32)) d_Mo_merge_216 (by decide) ?_
    refine z_ic_ge (tgt := 265) d_Mo_merge_218 (by decide) E (fun E => ?_) (fun E => ?_)
    · refine z_aload_n 0 d_Mo_merge_265 rfl rfl ?_
      refine z_iload 4 d_Mo_merge_266 rfl ?_
      obtain ⟨g76, h75, e77, E⟩ := cV_some E
      refine z_invV (ci := 4) (y := y_Mo_keep) (Mc := M_Mo_keep) (av := [.int x4]) (rest := []) rfl rfl ⟨zt_768, zt_770, zt_29, zt_52⟩ zk_Mo_keep zy_Mo_keep (by decide) (Nat.le_of_ble_eq_true rfl) z00 rfl (Nat.le_of_ble_eq_true rfl) d_Mo_merge_268 g76 (m_Mo_keep e77) ?_
      show Z X M_Mo_merge 0 0 h75 271 [(0, .ref x0), (1, .int x1), (2, .int x2), (3, .int x3), (4, .int x4), (5, .int x5)] []
      refine z_aload_n 0 d_Mo_merge_271 rfl rfl ?_
      refine z_getI (ci := 4) (j := 12) rfl (by decide) zf_Mo_139 d_Mo_merge_272 E (fun v78 _ E => ?_)
      exact z_ireturn hQ rfl z00 d_Mo_merge_275 E
    · refine z_aload_n 0 d_Mo_merge_221 rfl rfl ?_
      refine z_iload_n 1 d_Mo_merge_222 rfl rfl ?_
      refine z_iload_n 2 d_Mo_merge_223 rfl rfl ?_
      refine z_iload_n 3 d_Mo_merge_224 rfl rfl ?_
      refine z_iload 5 d_Mo_merge_225 rfl ?_
      obtain ⟨g80, v82, h79, e81, E⟩ := cI_some E
      refine z_invV (ci := 4) (y := y_Mo_doClash) (Mc := M_Mo_doClash) (av := [.int x1, .int x2, .int x3, .int x5]) (rest := []) rfl rfl ⟨zt_886, zt_888, zt_44, zt_52⟩ zk_Mo_doClash zy_Mo_doClash (by decide) (Nat.le_of_ble_eq_true rfl) z00 rfl (Nat.le_of_ble_eq_true rfl) d_Mo_merge_227 g80 (m_Mo_doClash e81) ?_
      show Z X M_Mo_merge 0 0 h79 230 [(0, .ref x0), (1, .int x1), (2, .int x2), (3, .int x3), (4, .int x4), (5, .int x5)] [.int v82]
      refine z_if_eq (y := 0) (tgt := 240) d_Mo_merge_230 (by decide) E (fun E => ?_) (fun E => ?_)
      · exact (w_Mo_merge_b240 hQ ih) x0 x1 x2 x3 x4 x5 h79 E
      · refine z_aload_n 0 d_Mo_merge_233 rfl rfl ?_
        refine z_iload 5 d_Mo_merge_234 rfl ?_
        refine z_iconst (v := (0 : Int32)) d_Mo_merge_236 (by decide) ?_
        obtain ⟨g84, h83, e85, E⟩ := cV_some E
        refine z_invV (ci := 4) (y := y_Mo_note) (Mc := M_Mo_note) (av := [.int x5, .int (0 : Int32)]) (rest := []) rfl rfl ⟨zt_890, zt_892, zt_45, zt_52⟩ zk_Mo_note zy_Mo_note (by decide) (Nat.le_of_ble_eq_true rfl) z00 rfl (Nat.le_of_ble_eq_true rfl) d_Mo_merge_237 g84 (m_Mo_note e85) ?_
        show Z X M_Mo_merge 0 0 h83 240 [(0, .ref x0), (1, .int x1), (2, .int x2), (3, .int x3), (4, .int x4), (5, .int x5)] []
        exact (w_Mo_merge_b240 hQ ih) x0 x1 x2 x3 x4 x5 h83 E
set_option maxRecDepth 100000 in
set_option maxHeartbeats 4000000 in
theorem w_Mo_merge_b143 {X : zX} {r : pR} {G : Nat} {k106 : Nat → Int32 → Int32 → Int32 → Int32 → Int32 → pH → Option pR} (hQ : zQ X r) (hk106 : ∀ (x0 : Nat) (x1 : Int32) (x2 : Int32) (x3 : Int32) (x4 : Int32) (x5 : Int32) (h : pH), k106 x0 x1 x2 x3 x4 x5 h = some r → Z X M_Mo_merge 0 0 h 106 [(0, .ref x0), (1, .int x1), (2, .int x2), (3, .int x3), (4, .int x4), (5, .int x5)] []) : ∀ (x0 : Nat) (x1 : Int32) (x2 : Int32) (x3 : Int32) (x4 : Int32) (x5 : Int32) (h : pH), f_Mo_merge_b143 G k106 x0 x1 x2 x3 x4 x5 h = some r → Z X M_Mo_merge 0 0 h 143 [(0, .ref x0), (1, .int x1), (2, .int x2), (3, .int x3), (4, .int x4), (5, .int x5)] [] := by
  intro x0 x1 x2 x3 x4 x5 h E
  rw [f_Mo_merge_b143_eq] at E
  refine z_iinc (v := (x5 + 1)) (lv2 := [(5, .int (x5 + 1)), (0, .ref x0), (1, .int x1), (2, .int x2), (3, .int x3), (4, .int x4)]) 5 d_Mo_merge_143 rfl rfl (Nat.le_of_ble_eq_true rfl) rfl ?_
  refine z_goto (tgt := 106) d_Mo_merge_146 (by decide) ?_
  refine z_lv [1, 2, 3, 4, 5, 0] rfl ?_
  exact hk106 x0 x1 x2 x3 x4 (x5 + 1) h E
set_option maxRecDepth 100000 in
set_option maxHeartbeats 4000000 in
theorem w_Mo_merge_b152 {X : zX} {r : pR} {G : Nat} (hQ : zQ X r) : ∀ (F : Nat) (x0 : Nat) (x1 : Int32) (x2 : Int32) (x3 : Int32) (x4 : Int32) (x5 : Int32) (h : pH), f_Mo_merge_b152 G F x0 x1 x2 x3 x4 x5 h = some r → Z X M_Mo_merge 0 0 h 152 [(0, .ref x0), (1, .int x1), (2, .int x2), (3, .int x3), (4, .int x4), (5, .int x5)] [] := by
  intro F
  induction F with
  | zero => intro x0 x1 x2 x3 x4 x5 h E; exact nomatch (show (none : Option pR) = some _ from E)
  | succ F ih =>
    intro x0 x1 x2 x3 x4 x5 h E
    rw [f_Mo_merge_b152_eq] at E
    refine z_iload 5 d_Mo_merge_152 rfl ?_
    refine z_aload_n 0 d_Mo_merge_154 rfl rfl ?_
    refine z_getR (ci := 4) (j := 2) rfl (by decide) zf_Mo_13 d_Mo_merge_155 E (fun v56 _ E => ?_)
    refine z_iload_n 3 d_Mo_merge_158 rfl rfl ?_
    refine z_iaload d_Mo_merge_159 E (fun v57 _ E => ?_)
    refine z_ic_ge (tgt := 195) d_Mo_merge_160 (by decide) E (fun E => ?_) (fun E => ?_)
    · refine z_aload_n 0 d_Mo_merge_195 rfl rfl ?_
      refine z_getI (ci := 4) (j := 4) rfl (by decide) zf_Mo_54 d_Mo_merge_196 E (fun v58 _ E => ?_)
      refine z_bipush (v := (30 : Int32)) d_Mo_merge_199 (by decide) ?_
      refine z_ic_le (tgt := 206) d_Mo_merge_201 (by decide) E (fun E => ?_) (fun E => ?_)
      · refine z_aload_n 0 d_Mo_merge_206 rfl rfl ?_
        refine z_iconst (v := (0 : Int32)) d_Mo_merge_207 (by decide) ?_
        refine z_putI (ci := 4) (j := 12) rfl (by decide) zf_Mo_139 rfl rfl d_Mo_merge_208 E (fun h59 _ E => ?_)
        refine z_iconst (v := (0 : Int32)) d_Mo_merge_211 (by decide) ?_
        refine z_istore (lv2 := [(5, .int (0 : Int32)), (0, .ref x0), (1, .int x1), (2, .int x2), (3, .int x3), (4, .int x4)]) d_Mo_merge_212 (Nat.le_of_ble_eq_true rfl) rfl ?_
        refine z_lv [1, 2, 3, 4, 5, 0] rfl ?_
        exact (w_Mo_merge_b214 hQ G) x0 x1 x2 x3 x4 (0 : Int32) h59 E
      · refine z_iconst (v := (-1 : Int32)) d_Mo_merge_204 (by decide) ?_
        exact z_ireturn hQ rfl z00 d_Mo_merge_205 E
    · refine z_aload_n 0 d_Mo_merge_163 rfl rfl ?_
      refine z_iload_n 1 d_Mo_merge_164 rfl rfl ?_
      refine z_aload_n 0 d_Mo_merge_165 rfl rfl ?_
      refine z_iload_n 3 d_Mo_merge_166 rfl rfl ?_
      refine z_iload 5 d_Mo_merge_167 rfl ?_
      obtain ⟨g61, v63, h60, e62, E⟩ := cI_some E
      refine z_invV (ci := 4) (y := y_Mo_numberOf) (Mc := M_Mo_numberOf) (av := [.int x3, .int x5]) (rest := [.int x1, .ref x0]) rfl rfl ⟨zt_760, zt_762, zt_27, zt_52⟩ zk_Mo_numberOf zy_Mo_numberOf (by decide) (Nat.le_of_ble_eq_true rfl) z00 rfl (Nat.le_of_ble_eq_true rfl) d_Mo_merge_169 g61 (m_Mo_numberOf e62) ?_
      show Z X M_Mo_merge 0 0 h60 172 [(0, .ref x0), (1, .int x1), (2, .int x2), (3, .int x3), (4, .int x4), (5, .int x5)] [.int v63, .int x1, .ref x0]
      obtain ⟨g65, v67, h64, e66, E⟩ := cI_some E
      refine z_invV (ci := 4) (y := y_Mo_has) (Mc := M_Mo_has) (av := [.int x1, .int v63]) (rest := []) rfl rfl ⟨zt_756, zt_758, zt_26, zt_52⟩ zk_Mo_has zy_Mo_has (by decide) (Nat.le_of_ble_eq_true rfl) z00 rfl (Nat.le_of_ble_eq_true rfl) d_Mo_merge_172 g65 (m_Mo_has e66) ?_
      show Z X M_Mo_merge 0 0 h64 175 [(0, .ref x0), (1, .int x1), (2, .int x2), (3, .int x3), (4, .int x4), (5, .int x5)] [.int v67]
      refine z_if_ne (y := 0) (tgt := 189) d_Mo_merge_175 (by decide) E (fun E => ?_) (fun E => ?_)
      · exact (w_Mo_merge_b189 hQ ih) x0 x1 x2 x3 x4 x5 h64 E
      · refine z_aload_n 0 d_Mo_merge_178 rfl rfl ?_
        refine z_aload_n 0 d_Mo_merge_179 rfl rfl ?_
        refine z_iload_n 3 d_Mo_merge_180 rfl rfl ?_
        refine z_iload 5 d_Mo_merge_181 rfl ?_
        obtain ⟨g69, v71, h68, e70, E⟩ := cI_some E
        refine z_invV (ci := 4) (y := y_Mo_numberOf) (Mc := M_Mo_numberOf) (av := [.int x3, .int x5]) (rest := [.ref x0]) rfl rfl ⟨zt_760, zt_762, zt_27, zt_52⟩ zk_Mo_numberOf zy_Mo_numberOf (by decide) (Nat.le_of_ble_eq_true rfl) z00 rfl (Nat.le_of_ble_eq_true rfl) d_Mo_merge_183 g69 (m_Mo_numberOf e70) ?_
        show Z X M_Mo_merge 0 0 h68 186 [(0, .ref x0), (1, .int x1), (2, .int x2), (3, .int x3), (4, .int x4), (5, .int x5)] [.int v71, .ref x0]
        obtain ⟨g73, h72, e74, E⟩ := cV_some E
        refine z_invV (ci := 4) (y := y_Mo_add) (Mc := M_Mo_add) (av := [.int v71]) (rest := []) rfl rfl ⟨zt_764, zt_766, zt_28, zt_52⟩ zk_Mo_add zy_Mo_add (by decide) (Nat.le_of_ble_eq_true rfl) z00 rfl (Nat.le_of_ble_eq_true rfl) d_Mo_merge_186 g73 (m_Mo_add e74) ?_
        show Z X M_Mo_merge 0 0 h72 189 [(0, .ref x0), (1, .int x1), (2, .int x2), (3, .int x3), (4, .int x4), (5, .int x5)] []
        exact (w_Mo_merge_b189 hQ ih) x0 x1 x2 x3 x4 x5 h72 E
set_option maxRecDepth 100000 in
set_option maxHeartbeats 4000000 in
theorem w_Mo_merge_b97 {X : zX} {r : pR} {G : Nat} {k51 : Nat → Int32 → Int32 → Int32 → Int32 → Int32 → pH → Option pR} (hQ : zQ X r) (hk51 : ∀ (x0 : Nat) (x1 : Int32) (x2 : Int32) (x3 : Int32) (x4 : Int32) (x5 : Int32) (h : pH), k51 x0 x1 x2 x3 x4 x5 h = some r → Z X M_Mo_merge 0 0 h 51 [(0, .ref x0), (1, .int x1), (2, .int x2), (3, .int x3), (4, .int x4), (5, .int x5)] []) : ∀ (x0 : Nat) (x1 : Int32) (x2 : Int32) (x3 : Int32) (x4 : Int32) (x5 : Int32) (h : pH), f_Mo_merge_b97 G k51 x0 x1 x2 x3 x4 x5 h = some r → Z X M_Mo_merge 0 0 h 97 [(0, .ref x0), (1, .int x1), (2, .int x2), (3, .int x3), (4, .int x4), (5, .int x5)] [] := by
  intro x0 x1 x2 x3 x4 x5 h E
  rw [f_Mo_merge_b97_eq] at E
  refine z_iinc (v := (x5 + 1)) (lv2 := [(5, .int (x5 + 1)), (0, .ref x0), (1, .int x1), (2, .int x2), (3, .int x3), (4, .int x4)]) 5 d_Mo_merge_97 rfl rfl (Nat.le_of_ble_eq_true rfl) rfl ?_
  refine z_goto (tgt := 51) d_Mo_merge_100 (by decide) ?_
  refine z_lv [1, 2, 3, 4, 5, 0] rfl ?_
  exact hk51 x0 x1 x2 x3 x4 (x5 + 1) h E
set_option maxRecDepth 100000 in
set_option maxHeartbeats 4000000 in
theorem w_Mo_merge_b106 {X : zX} {r : pR} {G : Nat} (hQ : zQ X r) : ∀ (F : Nat) (x0 : Nat) (x1 : Int32) (x2 : Int32) (x3 : Int32) (x4 : Int32) (x5 : Int32) (h : pH), f_Mo_merge_b106 G F x0 x1 x2 x3 x4 x5 h = some r → Z X M_Mo_merge 0 0 h 106 [(0, .ref x0), (1, .int x1), (2, .int x2), (3, .int x3), (4, .int x4), (5, .int x5)] [] := by
  intro F
  induction F with
  | zero => intro x0 x1 x2 x3 x4 x5 h E; exact nomatch (show (none : Option pR) = some _ from E)
  | succ F ih =>
    intro x0 x1 x2 x3 x4 x5 h E
    rw [f_Mo_merge_b106_eq] at E
    refine z_iload 5 d_Mo_merge_106 rfl ?_
    refine z_aload_n 0 d_Mo_merge_108 rfl rfl ?_
    refine z_getR (ci := 4) (j := 2) rfl (by decide) zf_Mo_13 d_Mo_merge_109 E (fun v39 _ E => ?_)
    refine z_iload_n 2 d_Mo_merge_112 rfl rfl ?_
    refine z_iaload d_Mo_merge_113 E (fun v40 _ E => ?_)
    refine z_ic_ge (tgt := 149) d_Mo_merge_114 (by decide) E (fun E => ?_) (fun E => ?_)
    · refine z_iconst (v := (0 : Int32)) d_Mo_merge_149 (by decide) ?_
      refine z_istore (lv2 := [(5, .int (0 : Int32)), (0, .ref x0), (1, .int x1), (2, .int x2), (3, .int x3), (4, .int x4)]) d_Mo_merge_150 (Nat.le_of_ble_eq_true rfl) rfl ?_
      refine z_lv [1, 2, 3, 4, 5, 0] rfl ?_
      exact (w_Mo_merge_b152 hQ G) x0 x1 x2 x3 x4 (0 : Int32) h E
    · refine z_aload_n 0 d_Mo_merge_117 rfl rfl ?_
      refine z_iload_n 1 d_Mo_merge_118 rfl rfl ?_
      refine z_aload_n 0 d_Mo_merge_119 rfl rfl ?_
      refine z_iload_n 2 d_Mo_merge_120 rfl rfl ?_
      refine z_iload 5 d_Mo_merge_121 rfl ?_
      obtain ⟨g42, v44, h41, e43, E⟩ := cI_some E
      refine z_invV (ci := 4) (y := y_Mo_numberOf) (Mc := M_Mo_numberOf) (av := [.int x2, .int x5]) (rest := [.int x1, .ref x0]) rfl rfl ⟨zt_760, zt_762, zt_27, zt_52⟩ zk_Mo_numberOf zy_Mo_numberOf (by decide) (Nat.le_of_ble_eq_true rfl) z00 rfl (Nat.le_of_ble_eq_true rfl) d_Mo_merge_123 g42 (m_Mo_numberOf e43) ?_
      show Z X M_Mo_merge 0 0 h41 126 [(0, .ref x0), (1, .int x1), (2, .int x2), (3, .int x3), (4, .int x4), (5, .int x5)] [.int v44, .int x1, .ref x0]
      obtain ⟨g46, v48, h45, e47, E⟩ := cI_some E
      refine z_invV (ci := 4) (y := y_Mo_has) (Mc := M_Mo_has) (av := [.int x1, .int v44]) (rest := []) rfl rfl ⟨zt_756, zt_758, zt_26, zt_52⟩ zk_Mo_has zy_Mo_has (by decide) (Nat.le_of_ble_eq_true rfl) z00 rfl (Nat.le_of_ble_eq_true rfl) d_Mo_merge_126 g46 (m_Mo_has e47) ?_
      show Z X M_Mo_merge 0 0 h45 129 [(0, .ref x0), (1, .int x1), (2, .int x2), (3, .int x3), (4, .int x4), (5, .int x5)] [.int v48]
      refine z_if_ne (y := 0) (tgt := 143) d_Mo_merge_129 (by decide) E (fun E => ?_) (fun E => ?_)
      · exact (w_Mo_merge_b143 hQ ih) x0 x1 x2 x3 x4 x5 h45 E
      · refine z_aload_n 0 d_Mo_merge_132 rfl rfl ?_
        refine z_aload_n 0 d_Mo_merge_133 rfl rfl ?_
        refine z_iload_n 2 d_Mo_merge_134 rfl rfl ?_
        refine z_iload 5 d_Mo_merge_135 rfl ?_
        obtain ⟨g50, v52, h49, e51, E⟩ := cI_some E
        refine z_invV (ci := 4) (y := y_Mo_numberOf) (Mc := M_Mo_numberOf) (av := [.int x2, .int x5]) (rest := [.ref x0]) rfl rfl ⟨zt_760, zt_762, zt_27, zt_52⟩ zk_Mo_numberOf zy_Mo_numberOf (by decide) (Nat.le_of_ble_eq_true rfl) z00 rfl (Nat.le_of_ble_eq_true rfl) d_Mo_merge_137 g50 (m_Mo_numberOf e51) ?_
        show Z X M_Mo_merge 0 0 h49 140 [(0, .ref x0), (1, .int x1), (2, .int x2), (3, .int x3), (4, .int x4), (5, .int x5)] [.int v52, .ref x0]
        obtain ⟨g54, h53, e55, E⟩ := cV_some E
        refine z_invV (ci := 4) (y := y_Mo_add) (Mc := M_Mo_add) (av := [.int v52]) (rest := []) rfl rfl ⟨zt_764, zt_766, zt_28, zt_52⟩ zk_Mo_add zy_Mo_add (by decide) (Nat.le_of_ble_eq_true rfl) z00 rfl (Nat.le_of_ble_eq_true rfl) d_Mo_merge_140 g54 (m_Mo_add e55) ?_
        show Z X M_Mo_merge 0 0 h53 143 [(0, .ref x0), (1, .int x1), (2, .int x2), (3, .int x3), (4, .int x4), (5, .int x5)] []
        exact (w_Mo_merge_b143 hQ ih) x0 x1 x2 x3 x4 x5 h53 E
set_option maxRecDepth 100000 in
set_option maxHeartbeats 4000000 in
theorem w_Mo_merge_b51 {X : zX} {r : pR} {G : Nat} (hQ : zQ X r) : ∀ (F : Nat) (x0 : Nat) (x1 : Int32) (x2 : Int32) (x3 : Int32) (x4 : Int32) (x5 : Int32) (h : pH), f_Mo_merge_b51 G F x0 x1 x2 x3 x4 x5 h = some r → Z X M_Mo_merge 0 0 h 51 [(0, .ref x0), (1, .int x1), (2, .int x2), (3, .int x3), (4, .int x4), (5, .int x5)] [] := by
  intro F
  induction F with
  | zero => intro x0 x1 x2 x3 x4 x5 h E; exact nomatch (show (none : Option pR) = some _ from E)
  | succ F ih =>
    intro x0 x1 x2 x3 x4 x5 h E
    rw [f_Mo_merge_b51_eq] at E
    refine z_iload 5 d_Mo_merge_51 rfl ?_
    refine z_aload_n 0 d_Mo_merge_53 rfl rfl ?_
    refine z_getR (ci := 4) (j := 2) rfl (by decide) zf_Mo_13 d_Mo_merge_54 E (fun v22 _ E => ?_)
    refine z_iload_n 1 d_Mo_merge_57 rfl rfl ?_
    refine z_iaload d_Mo_merge_58 E (fun v23 _ E => ?_)
    refine z_ic_ge (tgt := 103) d_Mo_merge_59 (by decide) E (fun E => ?_) (fun E => ?_)
    · refine z_iconst (v := (0 : Int32)) d_Mo_merge_103 (by decide) ?_
      refine z_istore (lv2 := [(5, .int (0 : Int32)), (0, .ref x0), (1, .int x1), (2, .int x2), (3, .int x3), (4, .int x4)]) d_Mo_merge_104 (Nat.le_of_ble_eq_true rfl) rfl ?_
      refine z_lv [1, 2, 3, 4, 5, 0] rfl ?_
      exact (w_Mo_merge_b106 hQ G) x0 x1 x2 x3 x4 (0 : Int32) h E
    · refine z_aload_n 0 d_Mo_merge_62 rfl rfl ?_
      refine z_iload_n 1 d_Mo_merge_63 rfl rfl ?_
      refine z_iload 5 d_Mo_merge_64 rfl ?_
      obtain ⟨g25, v27, h24, e26, E⟩ := cI_some E
      refine z_invV (ci := 4) (y := y_Mo_numberOf) (Mc := M_Mo_numberOf) (av := [.int x1, .int x5]) (rest := []) rfl rfl ⟨zt_760, zt_762, zt_27, zt_52⟩ zk_Mo_numberOf zy_Mo_numberOf (by decide) (Nat.le_of_ble_eq_true rfl) z00 rfl (Nat.le_of_ble_eq_true rfl) d_Mo_merge_66 g25 (m_Mo_numberOf e26) ?_
      show Z X M_Mo_merge 0 0 h24 69 [(0, .ref x0), (1, .int x1), (2, .int x2), (3, .int x3), (4, .int x4), (5, .int x5)] [.int v27]
      refine z_istore (lv2 := [(6, .int v27), (0, .ref x0), (1, .int x1), (2, .int x2), (3, .int x3), (4, .int x4), (5, .int x5)]) d_Mo_merge_69 (Nat.le_of_ble_eq_true rfl) rfl ?_
      refine z_aload_n 1 d_Mo_merge_71 rfl rfl ?_
      refine z_iload_n 3 d_Mo_merge_72 rfl rfl ?_
      refine z_iload 0 d_Mo_merge_73 rfl ?_
      obtain ⟨g29, v31, h28, e30, E⟩ := cI_some E
      refine z_invV (ci := 4) (y := y_Mo_has) (Mc := M_Mo_has) (av := [.int x2, .int v27]) (rest := []) rfl rfl ⟨zt_756, zt_758, zt_26, zt_52⟩ zk_Mo_has zy_Mo_has (by decide) (Nat.le_of_ble_eq_true rfl) z00 rfl (Nat.le_of_ble_eq_true rfl) d_Mo_merge_75 g29 (m_Mo_has e30) ?_
      show Z X M_Mo_merge 0 0 h28 78 [(6, .int v27), (0, .ref x0), (1, .int x1), (2, .int x2), (3, .int x3), (4, .int x4), (5, .int x5)] [.int v31]
      refine z_if_eq (y := 0) (tgt := 97) d_Mo_merge_78 (by decide) E (fun E => ?_) (fun E => ?_)
      · refine z_lv [1, 2, 3, 4, 5, 6] rfl ?_
        exact (w_Mo_merge_b97 hQ ih) x0 x1 x2 x3 x4 x5 h28 E
      · refine z_aload_n 1 d_Mo_merge_81 rfl rfl ?_
        refine z_iload_n 4 d_Mo_merge_82 rfl rfl ?_
        refine z_iload 0 d_Mo_merge_83 rfl ?_
        obtain ⟨g33, v35, h32, e34, E⟩ := cI_some E
        refine z_invV (ci := 4) (y := y_Mo_has) (Mc := M_Mo_has) (av := [.int x3, .int v27]) (rest := []) rfl rfl ⟨zt_756, zt_758, zt_26, zt_52⟩ zk_Mo_has zy_Mo_has (by decide) (Nat.le_of_ble_eq_true rfl) z00 rfl (Nat.le_of_ble_eq_true rfl) d_Mo_merge_85 g33 (m_Mo_has e34) ?_
        show Z X M_Mo_merge 0 0 h32 88 [(6, .int v27), (0, .ref x0), (1, .int x1), (2, .int x2), (3, .int x3), (4, .int x4), (5, .int x5)] [.int v35]
        refine z_if_eq (y := 0) (tgt := 97) d_Mo_merge_88 (by decide) E (fun E => ?_) (fun E => ?_)
        · refine z_lv [1, 2, 3, 4, 5, 6] rfl ?_
          exact (w_Mo_merge_b97 hQ ih) x0 x1 x2 x3 x4 x5 h32 E
        · refine z_aload_n 1 d_Mo_merge_91 rfl rfl ?_
          refine z_iload 0 d_Mo_merge_92 rfl ?_
          obtain ⟨g37, h36, e38, E⟩ := cV_some E
          refine z_invV (ci := 4) (y := y_Mo_add) (Mc := M_Mo_add) (av := [.int v27]) (rest := []) rfl rfl ⟨zt_764, zt_766, zt_28, zt_52⟩ zk_Mo_add zy_Mo_add (by decide) (Nat.le_of_ble_eq_true rfl) z00 rfl (Nat.le_of_ble_eq_true rfl) d_Mo_merge_94 g37 (m_Mo_add e38) ?_
          show Z X M_Mo_merge 0 0 h36 97 [(6, .int v27), (0, .ref x0), (1, .int x1), (2, .int x2), (3, .int x3), (4, .int x4), (5, .int x5)] []
          refine z_lv [1, 2, 3, 4, 5, 6] rfl ?_
          exact (w_Mo_merge_b97 hQ ih) x0 x1 x2 x3 x4 x5 h36 E
set_option maxRecDepth 100000 in
set_option maxHeartbeats 4000000 in
theorem w_Mo_merge_b34 {X : zX} {r : pR} {G : Nat} {k35 : Nat → Int32 → Int32 → Int32 → Int32 → Nat → Int32 → pH → Option pR} (hQ : zQ X r) (hk35 : ∀ (x0 : Nat) (x1 : Int32) (x2 : Int32) (x3 : Int32) (x4 : Int32) (s0 : Nat) (s1 : Int32) (h : pH), k35 x0 x1 x2 x3 x4 s0 s1 h = some r → Z X M_Mo_merge 0 0 h 35 [(0, .ref x0), (1, .int x1), (2, .int x2), (3, .int x3), (4, .int x4)] [.int s1, .ref s0]) : ∀ (x0 : Nat) (x1 : Int32) (x2 : Int32) (x3 : Int32) (x4 : Int32) (s0 : Nat) (h : pH), f_Mo_merge_b34 G k35 x0 x1 x2 x3 x4 s0 h = some r → Z X M_Mo_merge 0 0 h 34 [(0, .ref x0), (1, .int x1), (2, .int x2), (3, .int x3), (4, .int x4)] [.ref s0] := by
  intro x0 x1 x2 x3 x4 s0 h E
  rw [f_Mo_merge_b34_eq] at E
  refine z_iconst (v := (0 : Int32)) d_Mo_merge_34 (by decide) ?_
  exact hk35 x0 x1 x2 x3 x4 s0 (0 : Int32) h E
set_option maxRecDepth 100000 in
set_option maxHeartbeats 4000000 in
theorem w_Mo_merge_b35 {X : zX} {r : pR} {G : Nat} (hQ : zQ X r) : ∀ (x0 : Nat) (x1 : Int32) (x2 : Int32) (x3 : Int32) (x4 : Int32) (s0 : Nat) (s1 : Int32) (h : pH), f_Mo_merge_b35 G x0 x1 x2 x3 x4 s0 s1 h = some r → Z X M_Mo_merge 0 0 h 35 [(0, .ref x0), (1, .int x1), (2, .int x2), (3, .int x3), (4, .int x4)] [.int s1, .ref s0] := by
  intro x0 x1 x2 x3 x4 s0 s1 h E
  rw [f_Mo_merge_b35_eq] at E
  obtain ⟨g18, v20, h17, e19, E⟩ := cI_some E
  refine z_invV (ci := 4) (y := y_Mo_there) (Mc := M_Mo_there) (av := [.int s1]) (rest := []) rfl rfl ⟨zt_780, zt_782, zt_30, zt_52⟩ zk_Mo_there zy_Mo_there (by decide) (Nat.le_of_ble_eq_true rfl) z00 rfl (Nat.le_of_ble_eq_true rfl) d_Mo_merge_35 g18 (m_Mo_there e19) ?_
  show Z X M_Mo_merge 0 0 h17 38 [(0, .ref x0), (1, .int x1), (2, .int x2), (3, .int x3), (4, .int x4)] [.int v20]
  refine z_if_ne (y := 0) (tgt := 43) d_Mo_merge_38 (by decide) E (fun E => ?_) (fun E => ?_)
  · refine z_aload_n 0 d_Mo_merge_43 rfl rfl ?_
    refine z_iconst (v := (0 : Int32)) d_Mo_merge_44 (by decide) ?_
    refine z_putI (ci := 4) (j := 4) rfl (by decide) zf_Mo_54 rfl rfl d_Mo_merge_45 E (fun h21 _ E => ?_)
    refine z_iconst (v := (0 : Int32)) d_Mo_merge_48 (by decide) ?_
    refine z_istore (lv2 := [(5, .int (0 : Int32)), (0, .ref x0), (1, .int x1), (2, .int x2), (3, .int x3), (4, .int x4)]) d_Mo_merge_49 (Nat.le_of_ble_eq_true rfl) rfl ?_
    refine z_lv [1, 2, 3, 4, 5, 0] rfl ?_
    exact (w_Mo_merge_b51 hQ G) x0 x1 x2 x3 x4 (0 : Int32) h21 E
  · refine z_iconst (v := (0 : Int32)) d_Mo_merge_41 (by decide) ?_
    exact z_ireturn hQ rfl z00 d_Mo_merge_42 E
set_option maxRecDepth 100000 in
set_option maxHeartbeats 4000000 in
theorem w_Mo_merge_b0 {X : zX} {r : pR} {G : Nat} (hQ : zQ X r) : ∀ (x0 : Nat) (x1 : Int32) (x2 : Int32) (x3 : Int32) (x4 : Int32) (h : pH), f_Mo_merge G x0 x1 x2 x3 x4 h = some r → Z X M_Mo_merge 0 0 h 0 [(0, .ref x0), (1, .int x1), (2, .int x2), (3, .int x3), (4, .int x4)] [] := by
  intro x0 x1 x2 x3 x4 h E
  rw [f_Mo_merge_eq] at E
  refine z_aload_n 0 d_Mo_merge_0 rfl rfl ?_
  refine z_iload_n 1 d_Mo_merge_1 rfl rfl ?_
  obtain ⟨g2, v4, h1, e3, E⟩ := cI_some E
  refine z_invS (y := y_Mo_isGraph) (Mc := M_Mo_isGraph) (av := [.int x1]) (rest := [.ref x0]) ⟨zt_750, zt_751, zt_52⟩ zk_Mo_isGraph zy_Mo_isGraph (by decide) (Nat.le_of_ble_eq_true rfl) z00 rfl (Nat.le_of_ble_eq_true rfl) d_Mo_merge_2 (m_Mo_isGraph e3) ?_
  show Z X M_Mo_merge 0 0 h1 5 [(0, .ref x0), (1, .int x1), (2, .int x2), (3, .int x3), (4, .int x4)] [.int v4, .ref x0]
  refine z_if_eq (y := 0) (tgt := 34) d_Mo_merge_5 (by decide) E (fun E => ?_) (fun E => ?_)
  · exact (w_Mo_merge_b34 hQ (w_Mo_merge_b35 hQ)) x0 x1 x2 x3 x4 x0 h1 E
  · refine z_iload_n 2 d_Mo_merge_8 rfl rfl ?_
    obtain ⟨g6, v8, h5, e7, E⟩ := cI_some E
    refine z_invS (y := y_Mo_isGraph) (Mc := M_Mo_isGraph) (av := [.int x2]) (rest := [.ref x0]) ⟨zt_750, zt_751, zt_52⟩ zk_Mo_isGraph zy_Mo_isGraph (by decide) (Nat.le_of_ble_eq_true rfl) z00 rfl (Nat.le_of_ble_eq_true rfl) d_Mo_merge_9 (m_Mo_isGraph e7) ?_
    show Z X M_Mo_merge 0 0 h5 12 [(0, .ref x0), (1, .int x1), (2, .int x2), (3, .int x3), (4, .int x4)] [.int v8, .ref x0]
    refine z_if_eq (y := 0) (tgt := 34) d_Mo_merge_12 (by decide) E (fun E => ?_) (fun E => ?_)
    · exact (w_Mo_merge_b34 hQ (w_Mo_merge_b35 hQ)) x0 x1 x2 x3 x4 x0 h5 E
    · refine z_iload_n 3 d_Mo_merge_15 rfl rfl ?_
      obtain ⟨g10, v12, h9, e11, E⟩ := cI_some E
      refine z_invS (y := y_Mo_isGraph) (Mc := M_Mo_isGraph) (av := [.int x3]) (rest := [.ref x0]) ⟨zt_750, zt_751, zt_52⟩ zk_Mo_isGraph zy_Mo_isGraph (by decide) (Nat.le_of_ble_eq_true rfl) z00 rfl (Nat.le_of_ble_eq_true rfl) d_Mo_merge_16 (m_Mo_isGraph e11) ?_
      show Z X M_Mo_merge 0 0 h9 19 [(0, .ref x0), (1, .int x1), (2, .int x2), (3, .int x3), (4, .int x4)] [.int v12, .ref x0]
      refine z_if_eq (y := 0) (tgt := 34) d_Mo_merge_19 (by decide) E (fun E => ?_) (fun E => ?_)
      · exact (w_Mo_merge_b34 hQ (w_Mo_merge_b35 hQ)) x0 x1 x2 x3 x4 x0 h9 E
      · refine z_iload 4 d_Mo_merge_22 rfl ?_
        obtain ⟨g14, v16, h13, e15, E⟩ := cI_some E
        refine z_invS (y := y_Mo_isGraph) (Mc := M_Mo_isGraph) (av := [.int x4]) (rest := [.ref x0]) ⟨zt_750, zt_751, zt_52⟩ zk_Mo_isGraph zy_Mo_isGraph (by decide) (Nat.le_of_ble_eq_true rfl) z00 rfl (Nat.le_of_ble_eq_true rfl) d_Mo_merge_24 (m_Mo_isGraph e15) ?_
        show Z X M_Mo_merge 0 0 h13 27 [(0, .ref x0), (1, .int x1), (2, .int x2), (3, .int x3), (4, .int x4)] [.int v16, .ref x0]
        refine z_if_eq (y := 0) (tgt := 34) d_Mo_merge_27 (by decide) E (fun E => ?_) (fun E => ?_)
        · exact (w_Mo_merge_b34 hQ (w_Mo_merge_b35 hQ)) x0 x1 x2 x3 x4 x0 h13 E
        · refine z_iconst (v := (1 : Int32)) d_Mo_merge_30 (by decide) ?_
          refine z_goto (tgt := 35) d_Mo_merge_31 (by decide) ?_
          exact (w_Mo_merge_b35 hQ) x0 x1 x2 x3 x4 x0 (1 : Int32) h13 E
theorem m_Mo_merge {l : Launch} {G : Nat} {x0 : Nat} {x1 : Int32} {x2 : Int32} {x3 : Int32} {x4 : Int32} {h : pH} {r : pR} (E : f_Mo_merge G x0 x1 x2 x3 x4 h = some r) : zMet l y_Mo_merge M_Mo_merge 0 0 [.ref x0, .int x1, .int x2, .int x3, .int x4] h r :=
  zMet_of (by decide) rfl (Nat.le_of_ble_eq_true rfl) (fun p e s m args below meth c D0 cT => w_Mo_merge_b0 (X := (p, l, e, s, m, args, below, meth, c, D0, cT, h, _, 0, 0)) rfl x0 x1 x2 x3 x4 h E)
def f_Mo_clash_b54 (G : Nat) (s0 : Int32) (h : pH) : Option pR := some (some (.int s0), h)
theorem f_Mo_clash_b54_eq (G : Nat) (s0 : Int32) (h : pH) : f_Mo_clash_b54 G s0 h = (some (some (.int s0), h)) := rfl
def f_Mo_clash_b26 (G : Nat) (k27 : Nat → Int32 → Int32 → Nat → Int32 → pH → Option pR) (x0 : Nat) (x1 : Int32) (x2 : Int32) (s0 : Nat) (h : pH) : Option pR := k27 x0 x1 x2 s0 (0 : Int32) h
theorem f_Mo_clash_b26_eq (G : Nat) (k27 : Nat → Int32 → Int32 → Nat → Int32 → pH → Option pR) (x0 : Nat) (x1 : Int32) (x2 : Int32) (s0 : Nat) (h : pH) : f_Mo_clash_b26 G k27 x0 x1 x2 s0 h = (k27 x0 x1 x2 s0 (0 : Int32) h) := rfl
def f_Mo_clash_b27 (G : Nat) (x0 : Nat) (x1 : Int32) (x2 : Int32) (s0 : Nat) (s1 : Int32) (h : pH) : Option pR := cI (oC h s0 4) (f_Mo_there G s0 s1 h) fun v5 h2 => if v5 = 0 then (some (some (.int (0 : Int32)), h2)) else (if x2 = 0 then ((gR h2 x0 4 13).bind fun v8 => (aI h2 v8 x1).bind fun v9 => (f_Mo_clash_b54 G) v9 h2) else ((gR h2 x0 4 14).bind fun v6 => (aI h2 v6 x1).bind fun v7 => (f_Mo_clash_b54 G) v7 h2))
theorem f_Mo_clash_b27_eq (G : Nat) (x0 : Nat) (x1 : Int32) (x2 : Int32) (s0 : Nat) (s1 : Int32) (h : pH) : f_Mo_clash_b27 G x0 x1 x2 s0 s1 h = (cI (oC h s0 4) (f_Mo_there G s0 s1 h) fun v5 h2 => if v5 = 0 then (some (some (.int (0 : Int32)), h2)) else (if x2 = 0 then ((gR h2 x0 4 13).bind fun v8 => (aI h2 v8 x1).bind fun v9 => (f_Mo_clash_b54 G) v9 h2) else ((gR h2 x0 4 14).bind fun v6 => (aI h2 v6 x1).bind fun v7 => (f_Mo_clash_b54 G) v7 h2))) := rfl
def f_Mo_clash (G : Nat) (x0 : Nat) (x1 : Int32) (x2 : Int32) (h : pH) : Option pR := if x1 < 0 then ((f_Mo_clash_b26 G (f_Mo_clash_b27 G)) x0 x1 x2 x0 h) else ((gI h x0 4 12).bind fun v1 => if v1 ≤ x1 then ((f_Mo_clash_b26 G (f_Mo_clash_b27 G)) x0 x1 x2 x0 h) else (if x2 < 0 then ((f_Mo_clash_b26 G (f_Mo_clash_b27 G)) x0 x1 x2 x0 h) else (if (1 : Int32) < x2 then ((f_Mo_clash_b26 G (f_Mo_clash_b27 G)) x0 x1 x2 x0 h) else ((f_Mo_clash_b27 G) x0 x1 x2 x0 (1 : Int32) h))))
theorem f_Mo_clash_eq (G : Nat) (x0 : Nat) (x1 : Int32) (x2 : Int32) (h : pH) : f_Mo_clash G x0 x1 x2 h = (if x1 < 0 then ((f_Mo_clash_b26 G (f_Mo_clash_b27 G)) x0 x1 x2 x0 h) else ((gI h x0 4 12).bind fun v1 => if v1 ≤ x1 then ((f_Mo_clash_b26 G (f_Mo_clash_b27 G)) x0 x1 x2 x0 h) else (if x2 < 0 then ((f_Mo_clash_b26 G (f_Mo_clash_b27 G)) x0 x1 x2 x0 h) else (if (1 : Int32) < x2 then ((f_Mo_clash_b26 G (f_Mo_clash_b27 G)) x0 x1 x2 x0 h) else ((f_Mo_clash_b27 G) x0 x1 x2 x0 (1 : Int32) h))))) := rfl
set_option maxRecDepth 100000 in
set_option maxHeartbeats 4000000 in
theorem w_Mo_clash_b54 {X : zX} {r : pR} {G : Nat} (hQ : zQ X r) : ∀ (s0 : Int32) (h : pH), f_Mo_clash_b54 G s0 h = some r → Z X M_Mo_clash 0 0 h 54 [] [.int s0] := by
  intro s0 h E
  rw [f_Mo_clash_b54_eq] at E
  exact z_ireturn hQ rfl z00 d_Mo_clash_54 E
set_option maxRecDepth 100000 in
set_option maxHeartbeats 4000000 in
theorem w_Mo_clash_b26 {X : zX} {r : pR} {G : Nat} {k27 : Nat → Int32 → Int32 → Nat → Int32 → pH → Option pR} (hQ : zQ X r) (hk27 : ∀ (x0 : Nat) (x1 : Int32) (x2 : Int32) (s0 : Nat) (s1 : Int32) (h : pH), k27 x0 x1 x2 s0 s1 h = some r → Z X M_Mo_clash 0 0 h 27 [(0, .ref x0), (1, .int x1), (2, .int x2)] [.int s1, .ref s0]) : ∀ (x0 : Nat) (x1 : Int32) (x2 : Int32) (s0 : Nat) (h : pH), f_Mo_clash_b26 G k27 x0 x1 x2 s0 h = some r → Z X M_Mo_clash 0 0 h 26 [(0, .ref x0), (1, .int x1), (2, .int x2)] [.ref s0] := by
  intro x0 x1 x2 s0 h E
  rw [f_Mo_clash_b26_eq] at E
  refine z_iconst (v := (0 : Int32)) d_Mo_clash_26 (by decide) ?_
  exact hk27 x0 x1 x2 s0 (0 : Int32) h E
set_option maxRecDepth 100000 in
set_option maxHeartbeats 4000000 in
theorem w_Mo_clash_b27 {X : zX} {r : pR} {G : Nat} (hQ : zQ X r) : ∀ (x0 : Nat) (x1 : Int32) (x2 : Int32) (s0 : Nat) (s1 : Int32) (h : pH), f_Mo_clash_b27 G x0 x1 x2 s0 s1 h = some r → Z X M_Mo_clash 0 0 h 27 [(0, .ref x0), (1, .int x1), (2, .int x2)] [.int s1, .ref s0] := by
  intro x0 x1 x2 s0 s1 h E
  rw [f_Mo_clash_b27_eq] at E
  obtain ⟨g3, v5, h2, e4, E⟩ := cI_some E
  refine z_invV (ci := 4) (y := y_Mo_there) (Mc := M_Mo_there) (av := [.int s1]) (rest := []) rfl rfl ⟨zt_780, zt_782, zt_30, zt_52⟩ zk_Mo_there zy_Mo_there (by decide) (Nat.le_of_ble_eq_true rfl) z00 rfl (Nat.le_of_ble_eq_true rfl) d_Mo_clash_27 g3 (m_Mo_there e4) ?_
  show Z X M_Mo_clash 0 0 h2 30 [(0, .ref x0), (1, .int x1), (2, .int x2)] [.int v5]
  refine z_if_ne (y := 0) (tgt := 35) d_Mo_clash_30 (by decide) E (fun E => ?_) (fun E => ?_)
  · refine z_iload_n 2 d_Mo_clash_35 rfl rfl ?_
    refine z_if_ne (y := 0) (tgt := 48) d_Mo_clash_36 (by decide) E (fun E => ?_) (fun E => ?_)
    · refine z_aload_n 0 d_Mo_clash_48 rfl rfl ?_
      refine z_getR (ci := 4) (j := 14) rfl (by decide) zf_Mo_37 d_Mo_clash_49 E (fun v6 _ E => ?_)
      refine z_iload_n 1 d_Mo_clash_52 rfl rfl ?_
      refine z_iaload d_Mo_clash_53 E (fun v7 _ E => ?_)
      refine z_lv [] rfl ?_
      exact (w_Mo_clash_b54 hQ) v7 h2 E
    · refine z_aload_n 0 d_Mo_clash_39 rfl rfl ?_
      refine z_getR (ci := 4) (j := 13) rfl (by decide) zf_Mo_34 d_Mo_clash_40 E (fun v8 _ E => ?_)
      refine z_iload_n 1 d_Mo_clash_43 rfl rfl ?_
      refine z_iaload d_Mo_clash_44 E (fun v9 _ E => ?_)
      refine z_goto (tgt := 54) d_Mo_clash_45 (by decide) ?_
      refine z_lv [] rfl ?_
      exact (w_Mo_clash_b54 hQ) v9 h2 E
  · refine z_iconst (v := (0 : Int32)) d_Mo_clash_33 (by decide) ?_
    exact z_ireturn hQ rfl z00 d_Mo_clash_34 E
set_option maxRecDepth 100000 in
set_option maxHeartbeats 4000000 in
theorem w_Mo_clash_b0 {X : zX} {r : pR} {G : Nat} (hQ : zQ X r) : ∀ (x0 : Nat) (x1 : Int32) (x2 : Int32) (h : pH), f_Mo_clash G x0 x1 x2 h = some r → Z X M_Mo_clash 0 0 h 0 [(0, .ref x0), (1, .int x1), (2, .int x2)] [] := by
  intro x0 x1 x2 h E
  rw [f_Mo_clash_eq] at E
  refine z_aload_n 0 d_Mo_clash_0 rfl rfl ?_
  refine z_iload_n 1 d_Mo_clash_1 rfl rfl ?_
  refine z_if_lt (y := 0) (tgt := 26) d_Mo_clash_2 (by decide) E (fun E => ?_) (fun E => ?_)
  · exact (w_Mo_clash_b26 hQ (w_Mo_clash_b27 hQ)) x0 x1 x2 x0 h E
  · refine z_iload_n 1 d_Mo_clash_5 rfl rfl ?_
    refine z_aload_n 0 d_Mo_clash_6 rfl rfl ?_
    refine z_getI (ci := 4) (j := 12) rfl (by decide) zf_Mo_139 d_Mo_clash_7 E (fun v1 _ E => ?_)
    refine z_ic_ge (tgt := 26) d_Mo_clash_10 (by decide) E (fun E => ?_) (fun E => ?_)
    · exact (w_Mo_clash_b26 hQ (w_Mo_clash_b27 hQ)) x0 x1 x2 x0 h E
    · refine z_iload_n 2 d_Mo_clash_13 rfl rfl ?_
      refine z_if_lt (y := 0) (tgt := 26) d_Mo_clash_14 (by decide) E (fun E => ?_) (fun E => ?_)
      · exact (w_Mo_clash_b26 hQ (w_Mo_clash_b27 hQ)) x0 x1 x2 x0 h E
      · refine z_iload_n 2 d_Mo_clash_17 rfl rfl ?_
        refine z_iconst (v := (1 : Int32)) d_Mo_clash_18 (by decide) ?_
        refine z_ic_gt (tgt := 26) d_Mo_clash_19 (by decide) E (fun E => ?_) (fun E => ?_)
        · exact (w_Mo_clash_b26 hQ (w_Mo_clash_b27 hQ)) x0 x1 x2 x0 h E
        · refine z_iconst (v := (1 : Int32)) d_Mo_clash_22 (by decide) ?_
          refine z_goto (tgt := 27) d_Mo_clash_23 (by decide) ?_
          exact (w_Mo_clash_b27 hQ) x0 x1 x2 x0 (1 : Int32) h E
theorem m_Mo_clash {l : Launch} {G : Nat} {x0 : Nat} {x1 : Int32} {x2 : Int32} {h : pH} {r : pR} (E : f_Mo_clash G x0 x1 x2 h = some r) : zMet l y_Mo_clash M_Mo_clash 0 0 [.ref x0, .int x1, .int x2] h r :=
  zMet_of (by decide) rfl (Nat.le_of_ble_eq_true rfl) (fun p e s m args below meth c D0 cT => w_Mo_clash_b0 (X := (p, l, e, s, m, args, below, meth, c, D0, cT, h, _, 0, 0)) rfl x0 x1 x2 h E)
def f_Mo_change_b146 (G : Nat) (k97 : Nat → Int32 → Int32 → Int32 → pH → Option pR) (x0 : Nat) (x1 : Int32) (x2 : Int32) (x3 : Int32) (h : pH) : Option pR := k97 x0 x1 x2 (x3 + 1) h
theorem f_Mo_change_b146_eq (G : Nat) (k97 : Nat → Int32 → Int32 → Int32 → pH → Option pR) (x0 : Nat) (x1 : Int32) (x2 : Int32) (x3 : Int32) (h : pH) : f_Mo_change_b146 G k97 x0 x1 x2 x3 h = (k97 x0 x1 x2 (x3 + 1) h) := rfl
def f_Mo_change_b89 (G : Nat) (k40 : Nat → Int32 → Int32 → Int32 → pH → Option pR) (x0 : Nat) (x1 : Int32) (x2 : Int32) (x3 : Int32) (h : pH) : Option pR := k40 x0 x1 x2 (x3 + 1) h
theorem f_Mo_change_b89_eq (G : Nat) (k40 : Nat → Int32 → Int32 → Int32 → pH → Option pR) (x0 : Nat) (x1 : Int32) (x2 : Int32) (x3 : Int32) (h : pH) : f_Mo_change_b89 G k40 x0 x1 x2 x3 h = (k40 x0 x1 x2 (x3 + 1) h) := rfl
def f_Mo_change_b97 (G : Nat) : Nat → Nat → Int32 → Int32 → Int32 → pH → Option pR
  | 0 => fun _ _ _ _ _ => none
  | F + 1 => fun x0 x1 x2 x3 h => (gR h x0 4 2).bind fun v34 => (aI h v34 x2).bind fun v35 => if v35 ≤ x3 then ((gI h x0 4 15).bind fun v36 => (gI h x0 4 16).bind fun v37 => some (some (.int (v36 + v37)), h)) else (cI (oC h x0 4) (f_Mo_numberOf G x0 x2 x3 h) fun v41 h38 => cI (oC h38 x0 4) (f_Mo_has G x0 x1 v41 h38) fun v45 h42 => if v45 = 0 then ((gR h42 x0 4 18).bind fun v46 => (gI h42 x0 4 16).bind fun v47 => cI (oC h42 x0 4) (f_Mo_numberOf G x0 x2 x3 h42) fun v51 h48 => (sI h48 v46 v47 v51).bind fun h52 => (gI h52 x0 4 16).bind fun v53 => (oP h52 x0 4 16 (.int (v53 + (1 : Int32)))).bind fun h54 => (f_Mo_change_b146 G (f_Mo_change_b97 G F)) x0 x1 x2 x3 h54) else ((f_Mo_change_b146 G (f_Mo_change_b97 G F)) x0 x1 x2 x3 h42))
theorem f_Mo_change_b97_eq (G : Nat) (F : Nat) (x0 : Nat) (x1 : Int32) (x2 : Int32) (x3 : Int32) (h : pH) : f_Mo_change_b97 G (F + 1) x0 x1 x2 x3 h = ((gR h x0 4 2).bind fun v34 => (aI h v34 x2).bind fun v35 => if v35 ≤ x3 then ((gI h x0 4 15).bind fun v36 => (gI h x0 4 16).bind fun v37 => some (some (.int (v36 + v37)), h)) else (cI (oC h x0 4) (f_Mo_numberOf G x0 x2 x3 h) fun v41 h38 => cI (oC h38 x0 4) (f_Mo_has G x0 x1 v41 h38) fun v45 h42 => if v45 = 0 then ((gR h42 x0 4 18).bind fun v46 => (gI h42 x0 4 16).bind fun v47 => cI (oC h42 x0 4) (f_Mo_numberOf G x0 x2 x3 h42) fun v51 h48 => (sI h48 v46 v47 v51).bind fun h52 => (gI h52 x0 4 16).bind fun v53 => (oP h52 x0 4 16 (.int (v53 + (1 : Int32)))).bind fun h54 => (f_Mo_change_b146 G (f_Mo_change_b97 G F)) x0 x1 x2 x3 h54) else ((f_Mo_change_b146 G (f_Mo_change_b97 G F)) x0 x1 x2 x3 h42))) := rfl
def f_Mo_change_b40 (G : Nat) : Nat → Nat → Int32 → Int32 → Int32 → pH → Option pR
  | 0 => fun _ _ _ _ _ => none
  | F + 1 => fun x0 x1 x2 x3 h => (gR h x0 4 2).bind fun v15 => (aI h v15 x1).bind fun v16 => if v16 ≤ x3 then ((f_Mo_change_b97 G G) x0 x1 x2 (0 : Int32) h) else (cI (oC h x0 4) (f_Mo_numberOf G x0 x1 x3 h) fun v20 h17 => cI (oC h17 x0 4) (f_Mo_has G x0 x2 v20 h17) fun v24 h21 => if v24 = 0 then ((gR h21 x0 4 17).bind fun v25 => (gI h21 x0 4 15).bind fun v26 => cI (oC h21 x0 4) (f_Mo_numberOf G x0 x1 x3 h21) fun v30 h27 => (sI h27 v25 v26 v30).bind fun h31 => (gI h31 x0 4 15).bind fun v32 => (oP h31 x0 4 15 (.int (v32 + (1 : Int32)))).bind fun h33 => (f_Mo_change_b89 G (f_Mo_change_b40 G F)) x0 x1 x2 x3 h33) else ((f_Mo_change_b89 G (f_Mo_change_b40 G F)) x0 x1 x2 x3 h21))
theorem f_Mo_change_b40_eq (G : Nat) (F : Nat) (x0 : Nat) (x1 : Int32) (x2 : Int32) (x3 : Int32) (h : pH) : f_Mo_change_b40 G (F + 1) x0 x1 x2 x3 h = ((gR h x0 4 2).bind fun v15 => (aI h v15 x1).bind fun v16 => if v16 ≤ x3 then ((f_Mo_change_b97 G G) x0 x1 x2 (0 : Int32) h) else (cI (oC h x0 4) (f_Mo_numberOf G x0 x1 x3 h) fun v20 h17 => cI (oC h17 x0 4) (f_Mo_has G x0 x2 v20 h17) fun v24 h21 => if v24 = 0 then ((gR h21 x0 4 17).bind fun v25 => (gI h21 x0 4 15).bind fun v26 => cI (oC h21 x0 4) (f_Mo_numberOf G x0 x1 x3 h21) fun v30 h27 => (sI h27 v25 v26 v30).bind fun h31 => (gI h31 x0 4 15).bind fun v32 => (oP h31 x0 4 15 (.int (v32 + (1 : Int32)))).bind fun h33 => (f_Mo_change_b89 G (f_Mo_change_b40 G F)) x0 x1 x2 x3 h33) else ((f_Mo_change_b89 G (f_Mo_change_b40 G F)) x0 x1 x2 x3 h21))) := rfl
def f_Mo_change_b19 (G : Nat) (k20 : Nat → Int32 → Int32 → Nat → Int32 → pH → Option pR) (x0 : Nat) (x1 : Int32) (x2 : Int32) (s0 : Nat) (h : pH) : Option pR := k20 x0 x1 x2 s0 (0 : Int32) h
theorem f_Mo_change_b19_eq (G : Nat) (k20 : Nat → Int32 → Int32 → Nat → Int32 → pH → Option pR) (x0 : Nat) (x1 : Int32) (x2 : Int32) (s0 : Nat) (h : pH) : f_Mo_change_b19 G k20 x0 x1 x2 s0 h = (k20 x0 x1 x2 s0 (0 : Int32) h) := rfl
def f_Mo_change_b20 (G : Nat) (x0 : Nat) (x1 : Int32) (x2 : Int32) (s0 : Nat) (s1 : Int32) (h : pH) : Option pR := cI (oC h s0 4) (f_Mo_there G s0 s1 h) fun v12 h9 => if v12 = 0 then (some (some (.int (0 : Int32)), h9)) else ((oP h9 x0 4 15 (.int (0 : Int32))).bind fun h13 => (oP h13 x0 4 16 (.int (0 : Int32))).bind fun h14 => (f_Mo_change_b40 G G) x0 x1 x2 (0 : Int32) h14)
theorem f_Mo_change_b20_eq (G : Nat) (x0 : Nat) (x1 : Int32) (x2 : Int32) (s0 : Nat) (s1 : Int32) (h : pH) : f_Mo_change_b20 G x0 x1 x2 s0 s1 h = (cI (oC h s0 4) (f_Mo_there G s0 s1 h) fun v12 h9 => if v12 = 0 then (some (some (.int (0 : Int32)), h9)) else ((oP h9 x0 4 15 (.int (0 : Int32))).bind fun h13 => (oP h13 x0 4 16 (.int (0 : Int32))).bind fun h14 => (f_Mo_change_b40 G G) x0 x1 x2 (0 : Int32) h14)) := rfl
def f_Mo_change (G : Nat) (x0 : Nat) (x1 : Int32) (x2 : Int32) (h : pH) : Option pR := cI true (f_Mo_isGraph G x1 h) fun v4 h1 => if v4 = 0 then ((f_Mo_change_b19 G (f_Mo_change_b20 G)) x0 x1 x2 x0 h1) else (cI true (f_Mo_isGraph G x2 h1) fun v8 h5 => if v8 = 0 then ((f_Mo_change_b19 G (f_Mo_change_b20 G)) x0 x1 x2 x0 h5) else ((f_Mo_change_b20 G) x0 x1 x2 x0 (1 : Int32) h5))
theorem f_Mo_change_eq (G : Nat) (x0 : Nat) (x1 : Int32) (x2 : Int32) (h : pH) : f_Mo_change G x0 x1 x2 h = (cI true (f_Mo_isGraph G x1 h) fun v4 h1 => if v4 = 0 then ((f_Mo_change_b19 G (f_Mo_change_b20 G)) x0 x1 x2 x0 h1) else (cI true (f_Mo_isGraph G x2 h1) fun v8 h5 => if v8 = 0 then ((f_Mo_change_b19 G (f_Mo_change_b20 G)) x0 x1 x2 x0 h5) else ((f_Mo_change_b20 G) x0 x1 x2 x0 (1 : Int32) h5))) := rfl
set_option maxRecDepth 100000 in
set_option maxHeartbeats 4000000 in
theorem w_Mo_change_b146 {X : zX} {r : pR} {G : Nat} {k97 : Nat → Int32 → Int32 → Int32 → pH → Option pR} (hQ : zQ X r) (hk97 : ∀ (x0 : Nat) (x1 : Int32) (x2 : Int32) (x3 : Int32) (h : pH), k97 x0 x1 x2 x3 h = some r → Z X M_Mo_change 0 0 h 97 [(0, .ref x0), (1, .int x1), (2, .int x2), (3, .int x3)] []) : ∀ (x0 : Nat) (x1 : Int32) (x2 : Int32) (x3 : Int32) (h : pH), f_Mo_change_b146 G k97 x0 x1 x2 x3 h = some r → Z X M_Mo_change 0 0 h 146 [(0, .ref x0), (1, .int x1), (2, .int x2), (3, .int x3)] [] := by
  intro x0 x1 x2 x3 h E
  rw [f_Mo_change_b146_eq] at E
  refine z_iinc (v := (x3 + 1)) (lv2 := [(3, .int (x3 + 1)), (0, .ref x0), (1, .int x1), (2, .int x2)]) 3 d_Mo_change_146 rfl rfl (Nat.le_of_ble_eq_true rfl) rfl ?_
  refine z_goto (tgt := 97) d_Mo_change_149 (by decide) ?_
  refine z_lv [1, 2, 3, 0] rfl ?_
  exact hk97 x0 x1 x2 (x3 + 1) h E
set_option maxRecDepth 100000 in
set_option maxHeartbeats 4000000 in
theorem w_Mo_change_b89 {X : zX} {r : pR} {G : Nat} {k40 : Nat → Int32 → Int32 → Int32 → pH → Option pR} (hQ : zQ X r) (hk40 : ∀ (x0 : Nat) (x1 : Int32) (x2 : Int32) (x3 : Int32) (h : pH), k40 x0 x1 x2 x3 h = some r → Z X M_Mo_change 0 0 h 40 [(0, .ref x0), (1, .int x1), (2, .int x2), (3, .int x3)] []) : ∀ (x0 : Nat) (x1 : Int32) (x2 : Int32) (x3 : Int32) (h : pH), f_Mo_change_b89 G k40 x0 x1 x2 x3 h = some r → Z X M_Mo_change 0 0 h 89 [(0, .ref x0), (1, .int x1), (2, .int x2), (3, .int x3)] [] := by
  intro x0 x1 x2 x3 h E
  rw [f_Mo_change_b89_eq] at E
  refine z_iinc (v := (x3 + 1)) (lv2 := [(3, .int (x3 + 1)), (0, .ref x0), (1, .int x1), (2, .int x2)]) 3 d_Mo_change_89 rfl rfl (Nat.le_of_ble_eq_true rfl) rfl ?_
  refine z_goto (tgt := 40) d_Mo_change_92 (by decide) ?_
  refine z_lv [1, 2, 3, 0] rfl ?_
  exact hk40 x0 x1 x2 (x3 + 1) h E
set_option maxRecDepth 100000 in
set_option maxHeartbeats 4000000 in
theorem w_Mo_change_b97 {X : zX} {r : pR} {G : Nat} (hQ : zQ X r) : ∀ (F : Nat) (x0 : Nat) (x1 : Int32) (x2 : Int32) (x3 : Int32) (h : pH), f_Mo_change_b97 G F x0 x1 x2 x3 h = some r → Z X M_Mo_change 0 0 h 97 [(0, .ref x0), (1, .int x1), (2, .int x2), (3, .int x3)] [] := by
  intro F
  induction F with
  | zero => intro x0 x1 x2 x3 h E; exact nomatch (show (none : Option pR) = some _ from E)
  | succ F ih =>
    intro x0 x1 x2 x3 h E
    rw [f_Mo_change_b97_eq] at E
    refine z_iload_n 3 d_Mo_change_97 rfl rfl ?_
    refine z_aload_n 0 d_Mo_change_98 rfl rfl ?_
    refine z_getR (ci := 4) (j := 2) rfl (by decide) zf_Mo_13 d_Mo_change_99 E (fun v34 _ E => ?_)
    refine z_iload_n 2 d_Mo_change_102 rfl rfl ?_
    refine z_iaload d_Mo_change_103 E (fun v35 _ E => ?_)
    refine z_ic_ge (tgt := 152) d_Mo_change_104 (by decide) E (fun E => ?_) (fun E => ?_)
    · refine z_aload_n 0 d_Mo_change_152 rfl rfl ?_
      refine z_getI (ci := 4) (j := 15) rfl (by decide) zf_Mo_150 d_Mo_change_153 E (fun v36 _ E => ?_)
      refine z_aload_n 0 d_Mo_change_156 rfl rfl ?_
      refine z_getI (ci := 4) (j := 16) rfl (by decide) zf_Mo_153 d_Mo_change_157 E (fun v37 _ E => ?_)
      refine z_iadd d_Mo_change_160 ?_
      exact z_ireturn hQ rfl z00 d_Mo_change_161 E
    · refine z_aload_n 0 d_Mo_change_107 rfl rfl ?_
      refine z_iload_n 1 d_Mo_change_108 rfl rfl ?_
      refine z_aload_n 0 d_Mo_change_109 rfl rfl ?_
      refine z_iload_n 2 d_Mo_change_110 rfl rfl ?_
      refine z_iload_n 3 d_Mo_change_111 rfl rfl ?_
      obtain ⟨g39, v41, h38, e40, E⟩ := cI_some E
      refine z_invV (ci := 4) (y := y_Mo_numberOf) (Mc := M_Mo_numberOf) (av := [.int x2, .int x3]) (rest := [.int x1, .ref x0]) rfl rfl ⟨zt_760, zt_762, zt_27, zt_52⟩ zk_Mo_numberOf zy_Mo_numberOf (by decide) (Nat.le_of_ble_eq_true rfl) z00 rfl (Nat.le_of_ble_eq_true rfl) d_Mo_change_112 g39 (m_Mo_numberOf e40) ?_
      show Z X M_Mo_change 0 0 h38 115 [(0, .ref x0), (1, .int x1), (2, .int x2), (3, .int x3)] [.int v41, .int x1, .ref x0]
      obtain ⟨g43, v45, h42, e44, E⟩ := cI_some E
      refine z_invV (ci := 4) (y := y_Mo_has) (Mc := M_Mo_has) (av := [.int x1, .int v41]) (rest := []) rfl rfl ⟨zt_756, zt_758, zt_26, zt_52⟩ zk_Mo_has zy_Mo_has (by decide) (Nat.le_of_ble_eq_true rfl) z00 rfl (Nat.le_of_ble_eq_true rfl) d_Mo_change_115 g43 (m_Mo_has e44) ?_
      show Z X M_Mo_change 0 0 h42 118 [(0, .ref x0), (1, .int x1), (2, .int x2), (3, .int x3)] [.int v45]
      refine z_if_ne (y := 0) (tgt := 146) d_Mo_change_118 (by decide) E (fun E => ?_) (fun E => ?_)
      · exact (w_Mo_change_b146 hQ ih) x0 x1 x2 x3 h42 E
      · refine z_aload_n 0 d_Mo_change_121 rfl rfl ?_
        refine z_getR (ci := 4) (j := 18) rfl (by decide) zf_Mo_43 d_Mo_change_122 E (fun v46 _ E => ?_)
        refine z_aload_n 0 d_Mo_change_125 rfl rfl ?_
        refine z_getI (ci := 4) (j := 16) rfl (by decide) zf_Mo_153 d_Mo_change_126 E (fun v47 _ E => ?_)
        refine z_aload_n 0 d_Mo_change_129 rfl rfl ?_
        refine z_iload_n 2 d_Mo_change_130 rfl rfl ?_
        refine z_iload_n 3 d_Mo_change_131 rfl rfl ?_
        obtain ⟨g49, v51, h48, e50, E⟩ := cI_some E
        refine z_invV (ci := 4) (y := y_Mo_numberOf) (Mc := M_Mo_numberOf) (av := [.int x2, .int x3]) (rest := [.int v47, .ref v46]) rfl rfl ⟨zt_760, zt_762, zt_27, zt_52⟩ zk_Mo_numberOf zy_Mo_numberOf (by decide) (Nat.le_of_ble_eq_true rfl) z00 rfl (Nat.le_of_ble_eq_true rfl) d_Mo_change_132 g49 (m_Mo_numberOf e50) ?_
        show Z X M_Mo_change 0 0 h48 135 [(0, .ref x0), (1, .int x1), (2, .int x2), (3, .int x3)] [.int v51, .int v47, .ref v46]
        refine z_iastore d_Mo_change_135 E (fun h52 _ E => ?_)
        refine z_aload_n 0 d_Mo_change_136 rfl rfl ?_
        refine z_dup d_Mo_change_137 rfl ?_
        refine z_getI (ci := 4) (j := 16) rfl (by decide) zf_Mo_153 d_Mo_change_138 E (fun v53 _ E => ?_)
        refine z_iconst (v := (1 : Int32)) d_Mo_change_141 (by decide) ?_
        refine z_iadd d_Mo_change_142 ?_
        refine z_putI (ci := 4) (j := 16) rfl (by decide) zf_Mo_153 rfl rfl d_Mo_change_143 E (fun h54 _ E => ?_)
        exact (w_Mo_change_b146 hQ ih) x0 x1 x2 x3 h54 E
set_option maxRecDepth 100000 in
set_option maxHeartbeats 4000000 in
theorem w_Mo_change_b40 {X : zX} {r : pR} {G : Nat} (hQ : zQ X r) : ∀ (F : Nat) (x0 : Nat) (x1 : Int32) (x2 : Int32) (x3 : Int32) (h : pH), f_Mo_change_b40 G F x0 x1 x2 x3 h = some r → Z X M_Mo_change 0 0 h 40 [(0, .ref x0), (1, .int x1), (2, .int x2), (3, .int x3)] [] := by
  intro F
  induction F with
  | zero => intro x0 x1 x2 x3 h E; exact nomatch (show (none : Option pR) = some _ from E)
  | succ F ih =>
    intro x0 x1 x2 x3 h E
    rw [f_Mo_change_b40_eq] at E
    refine z_iload_n 3 d_Mo_change_40 rfl rfl ?_
    refine z_aload_n 0 d_Mo_change_41 rfl rfl ?_
    refine z_getR (ci := 4) (j := 2) rfl (by decide) zf_Mo_13 d_Mo_change_42 E (fun v15 _ E => ?_)
    refine z_iload_n 1 d_Mo_change_45 rfl rfl ?_
    refine z_iaload d_Mo_change_46 E (fun v16 _ E => ?_)
    refine z_ic_ge (tgt := 95) d_Mo_change_47 (by decide) E (fun E => ?_) (fun E => ?_)
    · refine z_iconst (v := (0 : Int32)) d_Mo_change_95 (by decide) ?_
      refine z_istore_n (lv2 := [(3, .int (0 : Int32)), (0, .ref x0), (1, .int x1), (2, .int x2)]) d_Mo_change_96 rfl (Nat.le_of_ble_eq_true rfl) rfl ?_
      refine z_lv [1, 2, 3, 0] rfl ?_
      exact (w_Mo_change_b97 hQ G) x0 x1 x2 (0 : Int32) h E
    · refine z_aload_n 0 d_Mo_change_50 rfl rfl ?_
      refine z_iload_n 2 d_Mo_change_51 rfl rfl ?_
      refine z_aload_n 0 d_Mo_change_52 rfl rfl ?_
      refine z_iload_n 1 d_Mo_change_53 rfl rfl ?_
      refine z_iload_n 3 d_Mo_change_54 rfl rfl ?_
      obtain ⟨g18, v20, h17, e19, E⟩ := cI_some E
      refine z_invV (ci := 4) (y := y_Mo_numberOf) (Mc := M_Mo_numberOf) (av := [.int x1, .int x3]) (rest := [.int x2, .ref x0]) rfl rfl ⟨zt_760, zt_762, zt_27, zt_52⟩ zk_Mo_numberOf zy_Mo_numberOf (by decide) (Nat.le_of_ble_eq_true rfl) z00 rfl (Nat.le_of_ble_eq_true rfl) d_Mo_change_55 g18 (m_Mo_numberOf e19) ?_
      show Z X M_Mo_change 0 0 h17 58 [(0, .ref x0), (1, .int x1), (2, .int x2), (3, .int x3)] [.int v20, .int x2, .ref x0]
      obtain ⟨g22, v24, h21, e23, E⟩ := cI_some E
      refine z_invV (ci := 4) (y := y_Mo_has) (Mc := M_Mo_has) (av := [.int x2, .int v20]) (rest := []) rfl rfl ⟨zt_756, zt_758, zt_26, zt_52⟩ zk_Mo_has zy_Mo_has (by decide) (Nat.le_of_ble_eq_true rfl) z00 rfl (Nat.le_of_ble_eq_true rfl) d_Mo_change_58 g22 (m_Mo_has e23) ?_
      show Z X M_Mo_change 0 0 h21 61 [(0, .ref x0), (1, .int x1), (2, .int x2), (3, .int x3)] [.int v24]
      refine z_if_ne (y := 0) (tgt := 89) d_Mo_change_61 (by decide) E (fun E => ?_) (fun E => ?_)
      · exact (w_Mo_change_b89 hQ ih) x0 x1 x2 x3 h21 E
      · refine z_aload_n 0 d_Mo_change_64 rfl rfl ?_
        refine z_getR (ci := 4) (j := 17) rfl (by decide) zf_Mo_40 d_Mo_change_65 E (fun v25 _ E => ?_)
        refine z_aload_n 0 d_Mo_change_68 rfl rfl ?_
        refine z_getI (ci := 4) (j := 15) rfl (by decide) zf_Mo_150 d_Mo_change_69 E (fun v26 _ E => ?_)
        refine z_aload_n 0 d_Mo_change_72 rfl rfl ?_
        refine z_iload_n 1 d_Mo_change_73 rfl rfl ?_
        refine z_iload_n 3 d_Mo_change_74 rfl rfl ?_
        obtain ⟨g28, v30, h27, e29, E⟩ := cI_some E
        refine z_invV (ci := 4) (y := y_Mo_numberOf) (Mc := M_Mo_numberOf) (av := [.int x1, .int x3]) (rest := [.int v26, .ref v25]) rfl rfl ⟨zt_760, zt_762, zt_27, zt_52⟩ zk_Mo_numberOf zy_Mo_numberOf (by decide) (Nat.le_of_ble_eq_true rfl) z00 rfl (Nat.le_of_ble_eq_true rfl) d_Mo_change_75 g28 (m_Mo_numberOf e29) ?_
        show Z X M_Mo_change 0 0 h27 78 [(0, .ref x0), (1, .int x1), (2, .int x2), (3, .int x3)] [.int v30, .int v26, .ref v25]
        refine z_iastore d_Mo_change_78 E (fun h31 _ E => ?_)
        refine z_aload_n 0 d_Mo_change_79 rfl rfl ?_
        refine z_dup d_Mo_change_80 rfl ?_
        refine z_getI (ci := 4) (j := 15) rfl (by decide) zf_Mo_150 d_Mo_change_81 E (fun v32 _ E => ?_)
        refine z_iconst (v := (1 : Int32)) d_Mo_change_84 (by decide) ?_
        refine z_iadd d_Mo_change_85 ?_
        refine z_putI (ci := 4) (j := 15) rfl (by decide) zf_Mo_150 rfl rfl d_Mo_change_86 E (fun h33 _ E => ?_)
        exact (w_Mo_change_b89 hQ ih) x0 x1 x2 x3 h33 E
set_option maxRecDepth 100000 in
set_option maxHeartbeats 4000000 in
theorem w_Mo_change_b19 {X : zX} {r : pR} {G : Nat} {k20 : Nat → Int32 → Int32 → Nat → Int32 → pH → Option pR} (hQ : zQ X r) (hk20 : ∀ (x0 : Nat) (x1 : Int32) (x2 : Int32) (s0 : Nat) (s1 : Int32) (h : pH), k20 x0 x1 x2 s0 s1 h = some r → Z X M_Mo_change 0 0 h 20 [(0, .ref x0), (1, .int x1), (2, .int x2)] [.int s1, .ref s0]) : ∀ (x0 : Nat) (x1 : Int32) (x2 : Int32) (s0 : Nat) (h : pH), f_Mo_change_b19 G k20 x0 x1 x2 s0 h = some r → Z X M_Mo_change 0 0 h 19 [(0, .ref x0), (1, .int x1), (2, .int x2)] [.ref s0] := by
  intro x0 x1 x2 s0 h E
  rw [f_Mo_change_b19_eq] at E
  refine z_iconst (v := (0 : Int32)) d_Mo_change_19 (by decide) ?_
  exact hk20 x0 x1 x2 s0 (0 : Int32) h E
set_option maxRecDepth 100000 in
set_option maxHeartbeats 4000000 in
theorem w_Mo_change_b20 {X : zX} {r : pR} {G : Nat} (hQ : zQ X r) : ∀ (x0 : Nat) (x1 : Int32) (x2 : Int32) (s0 : Nat) (s1 : Int32) (h : pH), f_Mo_change_b20 G x0 x1 x2 s0 s1 h = some r → Z X M_Mo_change 0 0 h 20 [(0, .ref x0), (1, .int x1), (2, .int x2)] [.int s1, .ref s0] := by
  intro x0 x1 x2 s0 s1 h E
  rw [f_Mo_change_b20_eq] at E
  obtain ⟨g10, v12, h9, e11, E⟩ := cI_some E
  refine z_invV (ci := 4) (y := y_Mo_there) (Mc := M_Mo_there) (av := [.int s1]) (rest := []) rfl rfl ⟨zt_780, zt_782, zt_30, zt_52⟩ zk_Mo_there zy_Mo_there (by decide) (Nat.le_of_ble_eq_true rfl) z00 rfl (Nat.le_of_ble_eq_true rfl) d_Mo_change_20 g10 (m_Mo_there e11) ?_
  show Z X M_Mo_change 0 0 h9 23 [(0, .ref x0), (1, .int x1), (2, .int x2)] [.int v12]
  refine z_if_ne (y := 0) (tgt := 28) d_Mo_change_23 (by decide) E (fun E => ?_) (fun E => ?_)
  · refine z_aload_n 0 d_Mo_change_28 rfl rfl ?_
    refine z_iconst (v := (0 : Int32)) d_Mo_change_29 (by decide) ?_
    refine z_putI (ci := 4) (j := 15) rfl (by decide) zf_Mo_150 rfl rfl d_Mo_change_30 E (fun h13 _ E => ?_)
    refine z_aload_n 0 d_Mo_change_33 rfl rfl ?_
    refine z_iconst (v := (0 : Int32)) d_Mo_change_34 (by decide) ?_
    refine z_putI (ci := 4) (j := 16) rfl (by decide) zf_Mo_153 rfl rfl d_Mo_change_35 E (fun h14 _ E => ?_)
    refine z_iconst (v := (0 : Int32)) d_Mo_change_38 (by decide) ?_
    refine z_istore_n (lv2 := [(3, .int (0 : Int32)), (0, .ref x0), (1, .int x1), (2, .int x2)]) d_Mo_change_39 rfl (Nat.le_of_ble_eq_true rfl) rfl ?_
    refine z_lv [1, 2, 3, 0] rfl ?_
    exact (w_Mo_change_b40 hQ G) x0 x1 x2 (0 : Int32) h14 E
  · refine z_iconst (v := (0 : Int32)) d_Mo_change_26 (by decide) ?_
    exact z_ireturn hQ rfl z00 d_Mo_change_27 E
set_option maxRecDepth 100000 in
set_option maxHeartbeats 4000000 in
theorem w_Mo_change_b0 {X : zX} {r : pR} {G : Nat} (hQ : zQ X r) : ∀ (x0 : Nat) (x1 : Int32) (x2 : Int32) (h : pH), f_Mo_change G x0 x1 x2 h = some r → Z X M_Mo_change 0 0 h 0 [(0, .ref x0), (1, .int x1), (2, .int x2)] [] := by
  intro x0 x1 x2 h E
  rw [f_Mo_change_eq] at E
  refine z_aload_n 0 d_Mo_change_0 rfl rfl ?_
  refine z_iload_n 1 d_Mo_change_1 rfl rfl ?_
  obtain ⟨g2, v4, h1, e3, E⟩ := cI_some E
  refine z_invS (y := y_Mo_isGraph) (Mc := M_Mo_isGraph) (av := [.int x1]) (rest := [.ref x0]) ⟨zt_750, zt_751, zt_52⟩ zk_Mo_isGraph zy_Mo_isGraph (by decide) (Nat.le_of_ble_eq_true rfl) z00 rfl (Nat.le_of_ble_eq_true rfl) d_Mo_change_2 (m_Mo_isGraph e3) ?_
  show Z X M_Mo_change 0 0 h1 5 [(0, .ref x0), (1, .int x1), (2, .int x2)] [.int v4, .ref x0]
  refine z_if_eq (y := 0) (tgt := 19) d_Mo_change_5 (by decide) E (fun E => ?_) (fun E => ?_)
  · exact (w_Mo_change_b19 hQ (w_Mo_change_b20 hQ)) x0 x1 x2 x0 h1 E
  · refine z_iload_n 2 d_Mo_change_8 rfl rfl ?_
    obtain ⟨g6, v8, h5, e7, E⟩ := cI_some E
    refine z_invS (y := y_Mo_isGraph) (Mc := M_Mo_isGraph) (av := [.int x2]) (rest := [.ref x0]) ⟨zt_750, zt_751, zt_52⟩ zk_Mo_isGraph zy_Mo_isGraph (by decide) (Nat.le_of_ble_eq_true rfl) z00 rfl (Nat.le_of_ble_eq_true rfl) d_Mo_change_9 (m_Mo_isGraph e7) ?_
    show Z X M_Mo_change 0 0 h5 12 [(0, .ref x0), (1, .int x1), (2, .int x2)] [.int v8, .ref x0]
    refine z_if_eq (y := 0) (tgt := 19) d_Mo_change_12 (by decide) E (fun E => ?_) (fun E => ?_)
    · exact (w_Mo_change_b19 hQ (w_Mo_change_b20 hQ)) x0 x1 x2 x0 h5 E
    · refine z_iconst (v := (1 : Int32)) d_Mo_change_15 (by decide) ?_
      refine z_goto (tgt := 20) d_Mo_change_16 (by decide) ?_
      exact (w_Mo_change_b20 hQ) x0 x1 x2 x0 (1 : Int32) h5 E
theorem m_Mo_change {l : Launch} {G : Nat} {x0 : Nat} {x1 : Int32} {x2 : Int32} {h : pH} {r : pR} (E : f_Mo_change G x0 x1 x2 h = some r) : zMet l y_Mo_change M_Mo_change 0 0 [.ref x0, .int x1, .int x2] h r :=
  zMet_of (by decide) rfl (Nat.le_of_ble_eq_true rfl) (fun p e s m args below meth c D0 cT => w_Mo_change_b0 (X := (p, l, e, s, m, args, below, meth, c, D0, cT, h, _, 0, 0)) rfl x0 x1 x2 h E)
def f_Mo_part_b69 (G : Nat) (s0 : Int32) (h : pH) : Option pR := some (some (.int s0), h)
theorem f_Mo_part_b69_eq (G : Nat) (s0 : Int32) (h : pH) : f_Mo_part_b69 G s0 h = (some (some (.int s0), h)) := rfl
def f_Mo_part_b43 (G : Nat) (x0 : Nat) (x1 : Int32) (x2 : Int32) (s0 : Int32) (s1 : Int32) (h : pH) : Option pR := if s0 < s1 then (if x1 = 0 then ((gR h x0 4 17).bind fun v9 => (aI h v9 x2).bind fun v10 => (f_Mo_part_b69 G) v10 h) else ((gR h x0 4 18).bind fun v7 => (aI h v7 x2).bind fun v8 => (f_Mo_part_b69 G) v8 h)) else ((f_Mo_part_b69 G) (-1 : Int32) h)
theorem f_Mo_part_b43_eq (G : Nat) (x0 : Nat) (x1 : Int32) (x2 : Int32) (s0 : Int32) (s1 : Int32) (h : pH) : f_Mo_part_b43 G x0 x1 x2 s0 s1 h = (if s0 < s1 then (if x1 = 0 then ((gR h x0 4 17).bind fun v9 => (aI h v9 x2).bind fun v10 => (f_Mo_part_b69 G) v10 h) else ((gR h x0 4 18).bind fun v7 => (aI h v7 x2).bind fun v8 => (f_Mo_part_b69 G) v8 h)) else ((f_Mo_part_b69 G) (-1 : Int32) h)) := rfl
def f_Mo_part_b18 (G : Nat) (k19 : Nat → Int32 → Int32 → Nat → Int32 → pH → Option pR) (x0 : Nat) (x1 : Int32) (x2 : Int32) (s0 : Nat) (h : pH) : Option pR := k19 x0 x1 x2 s0 (0 : Int32) h
theorem f_Mo_part_b18_eq (G : Nat) (k19 : Nat → Int32 → Int32 → Nat → Int32 → pH → Option pR) (x0 : Nat) (x1 : Int32) (x2 : Int32) (s0 : Nat) (h : pH) : f_Mo_part_b18 G k19 x0 x1 x2 s0 h = (k19 x0 x1 x2 s0 (0 : Int32) h) := rfl
def f_Mo_part_b19 (G : Nat) (x0 : Nat) (x1 : Int32) (x2 : Int32) (s0 : Nat) (s1 : Int32) (h : pH) : Option pR := cI (oC h s0 4) (f_Mo_there G s0 s1 h) fun v4 h1 => if v4 = 0 then (some (some (.int (0 : Int32)), h1)) else (if x1 = 0 then ((gI h1 x0 4 15).bind fun v6 => (f_Mo_part_b43 G) x0 x1 x2 x2 v6 h1) else ((gI h1 x0 4 16).bind fun v5 => (f_Mo_part_b43 G) x0 x1 x2 x2 v5 h1))
theorem f_Mo_part_b19_eq (G : Nat) (x0 : Nat) (x1 : Int32) (x2 : Int32) (s0 : Nat) (s1 : Int32) (h : pH) : f_Mo_part_b19 G x0 x1 x2 s0 s1 h = (cI (oC h s0 4) (f_Mo_there G s0 s1 h) fun v4 h1 => if v4 = 0 then (some (some (.int (0 : Int32)), h1)) else (if x1 = 0 then ((gI h1 x0 4 15).bind fun v6 => (f_Mo_part_b43 G) x0 x1 x2 x2 v6 h1) else ((gI h1 x0 4 16).bind fun v5 => (f_Mo_part_b43 G) x0 x1 x2 x2 v5 h1))) := rfl
def f_Mo_part (G : Nat) (x0 : Nat) (x1 : Int32) (x2 : Int32) (h : pH) : Option pR := if x1 < 0 then ((f_Mo_part_b18 G (f_Mo_part_b19 G)) x0 x1 x2 x0 h) else (if (1 : Int32) < x1 then ((f_Mo_part_b18 G (f_Mo_part_b19 G)) x0 x1 x2 x0 h) else (if x2 < 0 then ((f_Mo_part_b18 G (f_Mo_part_b19 G)) x0 x1 x2 x0 h) else ((f_Mo_part_b19 G) x0 x1 x2 x0 (1 : Int32) h)))
theorem f_Mo_part_eq (G : Nat) (x0 : Nat) (x1 : Int32) (x2 : Int32) (h : pH) : f_Mo_part G x0 x1 x2 h = (if x1 < 0 then ((f_Mo_part_b18 G (f_Mo_part_b19 G)) x0 x1 x2 x0 h) else (if (1 : Int32) < x1 then ((f_Mo_part_b18 G (f_Mo_part_b19 G)) x0 x1 x2 x0 h) else (if x2 < 0 then ((f_Mo_part_b18 G (f_Mo_part_b19 G)) x0 x1 x2 x0 h) else ((f_Mo_part_b19 G) x0 x1 x2 x0 (1 : Int32) h)))) := rfl
set_option maxRecDepth 100000 in
set_option maxHeartbeats 4000000 in
theorem w_Mo_part_b69 {X : zX} {r : pR} {G : Nat} (hQ : zQ X r) : ∀ (s0 : Int32) (h : pH), f_Mo_part_b69 G s0 h = some r → Z X M_Mo_part 0 0 h 69 [] [.int s0] := by
  intro s0 h E
  rw [f_Mo_part_b69_eq] at E
  exact z_ireturn hQ rfl z00 d_Mo_part_69 E
set_option maxRecDepth 100000 in
set_option maxHeartbeats 4000000 in
theorem w_Mo_part_b43 {X : zX} {r : pR} {G : Nat} (hQ : zQ X r) : ∀ (x0 : Nat) (x1 : Int32) (x2 : Int32) (s0 : Int32) (s1 : Int32) (h : pH), f_Mo_part_b43 G x0 x1 x2 s0 s1 h = some r → Z X M_Mo_part 0 0 h 43 [(0, .ref x0), (1, .int x1), (2, .int x2)] [.int s1, .int s0] := by
  intro x0 x1 x2 s0 s1 h E
  rw [f_Mo_part_b43_eq] at E
  refine z_ic_lt (tgt := 50) d_Mo_part_43 (by decide) E (fun E => ?_) (fun E => ?_)
  · refine z_iload_n 1 d_Mo_part_50 rfl rfl ?_
    refine z_if_ne (y := 0) (tgt := 63) d_Mo_part_51 (by decide) E (fun E => ?_) (fun E => ?_)
    · refine z_aload_n 0 d_Mo_part_63 rfl rfl ?_
      refine z_getR (ci := 4) (j := 18) rfl (by decide) zf_Mo_43 d_Mo_part_64 E (fun v7 _ E => ?_)
      refine z_iload_n 2 d_Mo_part_67 rfl rfl ?_
      refine z_iaload d_Mo_part_68 E (fun v8 _ E => ?_)
      refine z_lv [] rfl ?_
      exact (w_Mo_part_b69 hQ) v8 h E
    · refine z_aload_n 0 d_Mo_part_54 rfl rfl ?_
      refine z_getR (ci := 4) (j := 17) rfl (by decide) zf_Mo_40 d_Mo_part_55 E (fun v9 _ E => ?_)
      refine z_iload_n 2 d_Mo_part_58 rfl rfl ?_
      refine z_iaload d_Mo_part_59 E (fun v10 _ E => ?_)
      refine z_goto (tgt := 69) d_Mo_part_60 (by decide) ?_
      refine z_lv [] rfl ?_
      exact (w_Mo_part_b69 hQ) v10 h E
  · refine z_iconst (v := (-1 : Int32)) d_Mo_part_46 (by decide) ?_
    refine z_goto (tgt := 69) d_Mo_part_47 (by decide) ?_
    refine z_lv [] rfl ?_
    exact (w_Mo_part_b69 hQ) (-1 : Int32) h E
set_option maxRecDepth 100000 in
set_option maxHeartbeats 4000000 in
theorem w_Mo_part_b18 {X : zX} {r : pR} {G : Nat} {k19 : Nat → Int32 → Int32 → Nat → Int32 → pH → Option pR} (hQ : zQ X r) (hk19 : ∀ (x0 : Nat) (x1 : Int32) (x2 : Int32) (s0 : Nat) (s1 : Int32) (h : pH), k19 x0 x1 x2 s0 s1 h = some r → Z X M_Mo_part 0 0 h 19 [(0, .ref x0), (1, .int x1), (2, .int x2)] [.int s1, .ref s0]) : ∀ (x0 : Nat) (x1 : Int32) (x2 : Int32) (s0 : Nat) (h : pH), f_Mo_part_b18 G k19 x0 x1 x2 s0 h = some r → Z X M_Mo_part 0 0 h 18 [(0, .ref x0), (1, .int x1), (2, .int x2)] [.ref s0] := by
  intro x0 x1 x2 s0 h E
  rw [f_Mo_part_b18_eq] at E
  refine z_iconst (v := (0 : Int32)) d_Mo_part_18 (by decide) ?_
  exact hk19 x0 x1 x2 s0 (0 : Int32) h E
set_option maxRecDepth 100000 in
set_option maxHeartbeats 4000000 in
theorem w_Mo_part_b19 {X : zX} {r : pR} {G : Nat} (hQ : zQ X r) : ∀ (x0 : Nat) (x1 : Int32) (x2 : Int32) (s0 : Nat) (s1 : Int32) (h : pH), f_Mo_part_b19 G x0 x1 x2 s0 s1 h = some r → Z X M_Mo_part 0 0 h 19 [(0, .ref x0), (1, .int x1), (2, .int x2)] [.int s1, .ref s0] := by
  intro x0 x1 x2 s0 s1 h E
  rw [f_Mo_part_b19_eq] at E
  obtain ⟨g2, v4, h1, e3, E⟩ := cI_some E
  refine z_invV (ci := 4) (y := y_Mo_there) (Mc := M_Mo_there) (av := [.int s1]) (rest := []) rfl rfl ⟨zt_780, zt_782, zt_30, zt_52⟩ zk_Mo_there zy_Mo_there (by decide) (Nat.le_of_ble_eq_true rfl) z00 rfl (Nat.le_of_ble_eq_true rfl) d_Mo_part_19 g2 (m_Mo_there e3) ?_
  show Z X M_Mo_part 0 0 h1 22 [(0, .ref x0), (1, .int x1), (2, .int x2)] [.int v4]
  refine z_if_ne (y := 0) (tgt := 27) d_Mo_part_22 (by decide) E (fun E => ?_) (fun E => ?_)
  · refine z_iload_n 2 d_Mo_part_27 rfl rfl ?_
    refine z_iload_n 1 d_Mo_part_28 rfl rfl ?_
    refine z_if_ne (y := 0) (tgt := 39) d_Mo_part_29 (by decide) E (fun E => ?_) (fun E => ?_)
    · refine z_aload_n 0 d_Mo_part_39 rfl rfl ?_
      refine z_getI (ci := 4) (j := 16) rfl (by decide) zf_Mo_153 d_Mo_part_40 E (fun v5 _ E => ?_)
      exact (w_Mo_part_b43 hQ) x0 x1 x2 x2 v5 h1 E
    · refine z_aload_n 0 d_Mo_part_32 rfl rfl ?_
      refine z_getI (ci := 4) (j := 15) rfl (by decide) zf_Mo_150 d_Mo_part_33 E (fun v6 _ E => ?_)
      refine z_goto (tgt := 43) d_Mo_part_36 (by decide) ?_
      exact (w_Mo_part_b43 hQ) x0 x1 x2 x2 v6 h1 E
  · refine z_iconst (v := (0 : Int32)) d_Mo_part_25 (by decide) ?_
    exact z_ireturn hQ rfl z00 d_Mo_part_26 E
set_option maxRecDepth 100000 in
set_option maxHeartbeats 4000000 in
theorem w_Mo_part_b0 {X : zX} {r : pR} {G : Nat} (hQ : zQ X r) : ∀ (x0 : Nat) (x1 : Int32) (x2 : Int32) (h : pH), f_Mo_part G x0 x1 x2 h = some r → Z X M_Mo_part 0 0 h 0 [(0, .ref x0), (1, .int x1), (2, .int x2)] [] := by
  intro x0 x1 x2 h E
  rw [f_Mo_part_eq] at E
  refine z_aload_n 0 d_Mo_part_0 rfl rfl ?_
  refine z_iload_n 1 d_Mo_part_1 rfl rfl ?_
  refine z_if_lt (y := 0) (tgt := 18) d_Mo_part_2 (by decide) E (fun E => ?_) (fun E => ?_)
  · exact (w_Mo_part_b18 hQ (w_Mo_part_b19 hQ)) x0 x1 x2 x0 h E
  · refine z_iload_n 1 d_Mo_part_5 rfl rfl ?_
    refine z_iconst (v := (1 : Int32)) d_Mo_part_6 (by decide) ?_
    refine z_ic_gt (tgt := 18) d_Mo_part_7 (by decide) E (fun E => ?_) (fun E => ?_)
    · exact (w_Mo_part_b18 hQ (w_Mo_part_b19 hQ)) x0 x1 x2 x0 h E
    · refine z_iload_n 2 d_Mo_part_10 rfl rfl ?_
      refine z_if_lt (y := 0) (tgt := 18) d_Mo_part_11 (by decide) E (fun E => ?_) (fun E => ?_)
      · exact (w_Mo_part_b18 hQ (w_Mo_part_b19 hQ)) x0 x1 x2 x0 h E
      · refine z_iconst (v := (1 : Int32)) d_Mo_part_14 (by decide) ?_
        refine z_goto (tgt := 19) d_Mo_part_15 (by decide) ?_
        exact (w_Mo_part_b19 hQ) x0 x1 x2 x0 (1 : Int32) h E
theorem m_Mo_part {l : Launch} {G : Nat} {x0 : Nat} {x1 : Int32} {x2 : Int32} {h : pH} {r : pR} (E : f_Mo_part G x0 x1 x2 h = some r) : zMet l y_Mo_part M_Mo_part 0 0 [.ref x0, .int x1, .int x2] h r :=
  zMet_of (by decide) rfl (Nat.le_of_ble_eq_true rfl) (fun p e s m args below meth c D0 cT => w_Mo_part_b0 (X := (p, l, e, s, m, args, below, meth, c, D0, cT, h, _, 0, 0)) rfl x0 x1 x2 h E)
def f_Mo_mayGo_b90 (G : Nat) (k91 : Nat → Int32 → Int32 → Int32 → Int32 → pH → Option pR) (x0 : Nat) (x1 : Int32) (x2 : Int32) (x4 : Int32) (h : pH) : Option pR := k91 x0 x1 x2 x4 (0 : Int32) h
theorem f_Mo_mayGo_b90_eq (G : Nat) (k91 : Nat → Int32 → Int32 → Int32 → Int32 → pH → Option pR) (x0 : Nat) (x1 : Int32) (x2 : Int32) (x4 : Int32) (h : pH) : f_Mo_mayGo_b90 G k91 x0 x1 x2 x4 h = (k91 x0 x1 x2 x4 (0 : Int32) h) := rfl
def f_Mo_mayGo_b91 (G : Nat) (k57 : Nat → Int32 → Int32 → Int32 → Int32 → pH → Option pR) (x0 : Nat) (x1 : Int32) (x2 : Int32) (x4 : Int32) (s0 : Int32) (h : pH) : Option pR := k57 x0 x1 x2 s0 (x4 + 1) h
theorem f_Mo_mayGo_b91_eq (G : Nat) (k57 : Nat → Int32 → Int32 → Int32 → Int32 → pH → Option pR) (x0 : Nat) (x1 : Int32) (x2 : Int32) (x4 : Int32) (s0 : Int32) (h : pH) : f_Mo_mayGo_b91 G k57 x0 x1 x2 x4 s0 h = (k57 x0 x1 x2 s0 (x4 + 1) h) := rfl
def f_Mo_mayGo_b133 (G : Nat) (k143 : pH → Option pR) (k144 : Int32 → pH → Option pR) (s0 : Int32) (s1 : Int32) (h : pH) : Option pR := if (30 : Int32) < (s0 + s1) then (k143 h) else (k144 (1 : Int32) h)
theorem f_Mo_mayGo_b133_eq (G : Nat) (k143 : pH → Option pR) (k144 : Int32 → pH → Option pR) (s0 : Int32) (s1 : Int32) (h : pH) : f_Mo_mayGo_b133 G k143 k144 s0 s1 h = (if (30 : Int32) < (s0 + s1) then (k143 h) else (k144 (1 : Int32) h)) := rfl
def f_Mo_mayGo_b143 (G : Nat) (k144 : Int32 → pH → Option pR) (h : pH) : Option pR := k144 (0 : Int32) h
theorem f_Mo_mayGo_b143_eq (G : Nat) (k144 : Int32 → pH → Option pR) (h : pH) : f_Mo_mayGo_b143 G k144 h = (k144 (0 : Int32) h) := rfl
def f_Mo_mayGo_b144 (G : Nat) (s0 : Int32) (h : pH) : Option pR := (if isZ s0 = true then some (some (.int s0), h) else none)
theorem f_Mo_mayGo_b144_eq (G : Nat) (s0 : Int32) (h : pH) : f_Mo_mayGo_b144 G s0 h = ((if isZ s0 = true then some (some (.int s0), h) else none)) := rfl
def f_Mo_mayGo_b39 (G : Nat) (k46 : Nat → Int32 → Int32 → Int32 → pH → Option pR) (k47 : Nat → Int32 → Int32 → Int32 → Int32 → pH → Option pR) (x0 : Nat) (x1 : Int32) (x2 : Int32) (x4 : Int32) (s0 : Int32) (s1 : Int32) (h : pH) : Option pR := if s0 = s1 then (k47 x0 x1 x2 x4 (1 : Int32) h) else (k46 x0 x1 x2 x4 h)
theorem f_Mo_mayGo_b39_eq (G : Nat) (k46 : Nat → Int32 → Int32 → Int32 → pH → Option pR) (k47 : Nat → Int32 → Int32 → Int32 → Int32 → pH → Option pR) (x0 : Nat) (x1 : Int32) (x2 : Int32) (x4 : Int32) (s0 : Int32) (s1 : Int32) (h : pH) : f_Mo_mayGo_b39 G k46 k47 x0 x1 x2 x4 s0 s1 h = (if s0 = s1 then (k47 x0 x1 x2 x4 (1 : Int32) h) else (k46 x0 x1 x2 x4 h)) := rfl
def f_Mo_mayGo_b46 (G : Nat) (k47 : Nat → Int32 → Int32 → Int32 → Int32 → pH → Option pR) (x0 : Nat) (x1 : Int32) (x2 : Int32) (x4 : Int32) (h : pH) : Option pR := k47 x0 x1 x2 x4 (0 : Int32) h
theorem f_Mo_mayGo_b46_eq (G : Nat) (k47 : Nat → Int32 → Int32 → Int32 → Int32 → pH → Option pR) (x0 : Nat) (x1 : Int32) (x2 : Int32) (x4 : Int32) (h : pH) : f_Mo_mayGo_b46 G k47 x0 x1 x2 x4 h = (k47 x0 x1 x2 x4 (0 : Int32) h) := rfl
def f_Mo_mayGo_b47 (G : Nat) (k5 : Nat → Int32 → Int32 → Int32 → Int32 → pH → Option pR) (x0 : Nat) (x1 : Int32) (x2 : Int32) (x4 : Int32) (s0 : Int32) (h : pH) : Option pR := k5 x0 x1 x2 s0 (x4 + 1) h
theorem f_Mo_mayGo_b47_eq (G : Nat) (k5 : Nat → Int32 → Int32 → Int32 → Int32 → pH → Option pR) (x0 : Nat) (x1 : Int32) (x2 : Int32) (x4 : Int32) (s0 : Int32) (h : pH) : f_Mo_mayGo_b47 G k5 x0 x1 x2 x4 s0 h = (k5 x0 x1 x2 s0 (x4 + 1) h) := rfl
def f_Mo_mayGo_b57 (G : Nat) : Nat → Nat → Int32 → Int32 → Int32 → Int32 → pH → Option pR
  | 0 => fun _ _ _ _ _ _ => none
  | F + 1 => fun x0 x1 x2 x3 x4 h => (gI h x0 4 16).bind fun v8 => if v8 ≤ x4 then (if x3 = 0 then ((f_Mo_mayGo_b143 G (f_Mo_mayGo_b144 G)) h) else ((gR h x0 4 2).bind fun v9 => (aI h v9 x1).bind fun v10 => if x2 = 0 then ((gI h x0 4 16).bind fun v11 => (gI h x0 4 15).bind fun v12 => (f_Mo_mayGo_b133 G (f_Mo_mayGo_b143 G (f_Mo_mayGo_b144 G)) (f_Mo_mayGo_b144 G)) v10 (v11 - v12) h) else ((gI h x0 4 15).bind fun v13 => (gI h x0 4 16).bind fun v14 => (f_Mo_mayGo_b133 G (f_Mo_mayGo_b143 G (f_Mo_mayGo_b144 G)) (f_Mo_mayGo_b144 G)) v10 (v13 - v14) h))) else (if x3 = 0 then ((f_Mo_mayGo_b90 G (f_Mo_mayGo_b91 G (f_Mo_mayGo_b57 G F))) x0 x1 x2 x4 h) else ((gR h x0 4 18).bind fun v15 => (aI h v15 x4).bind fun v16 => cI (oC h x0 4) (f_Mo_has G x0 x1 v16 h) fun v20 h17 => if v20 = x2 then ((f_Mo_mayGo_b91 G (f_Mo_mayGo_b57 G F)) x0 x1 x2 x4 (1 : Int32) h17) else ((f_Mo_mayGo_b90 G (f_Mo_mayGo_b91 G (f_Mo_mayGo_b57 G F))) x0 x1 x2 x4 h17)))
theorem f_Mo_mayGo_b57_eq (G : Nat) (F : Nat) (x0 : Nat) (x1 : Int32) (x2 : Int32) (x3 : Int32) (x4 : Int32) (h : pH) : f_Mo_mayGo_b57 G (F + 1) x0 x1 x2 x3 x4 h = ((gI h x0 4 16).bind fun v8 => if v8 ≤ x4 then (if x3 = 0 then ((f_Mo_mayGo_b143 G (f_Mo_mayGo_b144 G)) h) else ((gR h x0 4 2).bind fun v9 => (aI h v9 x1).bind fun v10 => if x2 = 0 then ((gI h x0 4 16).bind fun v11 => (gI h x0 4 15).bind fun v12 => (f_Mo_mayGo_b133 G (f_Mo_mayGo_b143 G (f_Mo_mayGo_b144 G)) (f_Mo_mayGo_b144 G)) v10 (v11 - v12) h) else ((gI h x0 4 15).bind fun v13 => (gI h x0 4 16).bind fun v14 => (f_Mo_mayGo_b133 G (f_Mo_mayGo_b143 G (f_Mo_mayGo_b144 G)) (f_Mo_mayGo_b144 G)) v10 (v13 - v14) h))) else (if x3 = 0 then ((f_Mo_mayGo_b90 G (f_Mo_mayGo_b91 G (f_Mo_mayGo_b57 G F))) x0 x1 x2 x4 h) else ((gR h x0 4 18).bind fun v15 => (aI h v15 x4).bind fun v16 => cI (oC h x0 4) (f_Mo_has G x0 x1 v16 h) fun v20 h17 => if v20 = x2 then ((f_Mo_mayGo_b91 G (f_Mo_mayGo_b57 G F)) x0 x1 x2 x4 (1 : Int32) h17) else ((f_Mo_mayGo_b90 G (f_Mo_mayGo_b91 G (f_Mo_mayGo_b57 G F))) x0 x1 x2 x4 h17)))) := rfl
def f_Mo_mayGo_b5 (G : Nat) : Nat → Nat → Int32 → Int32 → Int32 → Int32 → pH → Option pR
  | 0 => fun _ _ _ _ _ _ => none
  | F + 1 => fun x0 x1 x2 x3 x4 h => (gI h x0 4 15).bind fun v1 => if v1 ≤ x4 then ((f_Mo_mayGo_b57 G G) x0 x1 x2 x3 (0 : Int32) h) else (if x3 = 0 then ((f_Mo_mayGo_b46 G (f_Mo_mayGo_b47 G (f_Mo_mayGo_b5 G F))) x0 x1 x2 x4 h) else ((gR h x0 4 17).bind fun v2 => (aI h v2 x4).bind fun v3 => cI (oC h x0 4) (f_Mo_has G x0 x1 v3 h) fun v7 h4 => if x2 = 0 then ((f_Mo_mayGo_b39 G (f_Mo_mayGo_b46 G (f_Mo_mayGo_b47 G (f_Mo_mayGo_b5 G F))) (f_Mo_mayGo_b47 G (f_Mo_mayGo_b5 G F))) x0 x1 x2 x4 v7 (1 : Int32) h4) else ((f_Mo_mayGo_b39 G (f_Mo_mayGo_b46 G (f_Mo_mayGo_b47 G (f_Mo_mayGo_b5 G F))) (f_Mo_mayGo_b47 G (f_Mo_mayGo_b5 G F))) x0 x1 x2 x4 v7 (0 : Int32) h4)))
theorem f_Mo_mayGo_b5_eq (G : Nat) (F : Nat) (x0 : Nat) (x1 : Int32) (x2 : Int32) (x3 : Int32) (x4 : Int32) (h : pH) : f_Mo_mayGo_b5 G (F + 1) x0 x1 x2 x3 x4 h = ((gI h x0 4 15).bind fun v1 => if v1 ≤ x4 then ((f_Mo_mayGo_b57 G G) x0 x1 x2 x3 (0 : Int32) h) else (if x3 = 0 then ((f_Mo_mayGo_b46 G (f_Mo_mayGo_b47 G (f_Mo_mayGo_b5 G F))) x0 x1 x2 x4 h) else ((gR h x0 4 17).bind fun v2 => (aI h v2 x4).bind fun v3 => cI (oC h x0 4) (f_Mo_has G x0 x1 v3 h) fun v7 h4 => if x2 = 0 then ((f_Mo_mayGo_b39 G (f_Mo_mayGo_b46 G (f_Mo_mayGo_b47 G (f_Mo_mayGo_b5 G F))) (f_Mo_mayGo_b47 G (f_Mo_mayGo_b5 G F))) x0 x1 x2 x4 v7 (1 : Int32) h4) else ((f_Mo_mayGo_b39 G (f_Mo_mayGo_b46 G (f_Mo_mayGo_b47 G (f_Mo_mayGo_b5 G F))) (f_Mo_mayGo_b47 G (f_Mo_mayGo_b5 G F))) x0 x1 x2 x4 v7 (0 : Int32) h4)))) := rfl
def f_Mo_mayGo (G : Nat) (x0 : Nat) (x1 : Int32) (x2 : Int32) (h : pH) : Option pR := (f_Mo_mayGo_b5 G G) x0 x1 x2 (1 : Int32) (0 : Int32) h
theorem f_Mo_mayGo_eq (G : Nat) (x0 : Nat) (x1 : Int32) (x2 : Int32) (h : pH) : f_Mo_mayGo G x0 x1 x2 h = ((f_Mo_mayGo_b5 G G) x0 x1 x2 (1 : Int32) (0 : Int32) h) := rfl
set_option maxRecDepth 100000 in
set_option maxHeartbeats 4000000 in
theorem w_Mo_mayGo_b90 {X : zX} {r : pR} {G : Nat} {k91 : Nat → Int32 → Int32 → Int32 → Int32 → pH → Option pR} (hQ : zQ X r) (hk91 : ∀ (x0 : Nat) (x1 : Int32) (x2 : Int32) (x4 : Int32) (s0 : Int32) (h : pH), k91 x0 x1 x2 x4 s0 h = some r → Z X M_Mo_mayGo 0 0 h 91 [(0, .ref x0), (1, .int x1), (2, .int x2), (4, .int x4)] [.int s0]) : ∀ (x0 : Nat) (x1 : Int32) (x2 : Int32) (x4 : Int32) (h : pH), f_Mo_mayGo_b90 G k91 x0 x1 x2 x4 h = some r → Z X M_Mo_mayGo 0 0 h 90 [(0, .ref x0), (1, .int x1), (2, .int x2), (4, .int x4)] [] := by
  intro x0 x1 x2 x4 h E
  rw [f_Mo_mayGo_b90_eq] at E
  refine z_iconst (v := (0 : Int32)) d_Mo_mayGo_90 (by decide) ?_
  exact hk91 x0 x1 x2 x4 (0 : Int32) h E
set_option maxRecDepth 100000 in
set_option maxHeartbeats 4000000 in
theorem w_Mo_mayGo_b91 {X : zX} {r : pR} {G : Nat} {k57 : Nat → Int32 → Int32 → Int32 → Int32 → pH → Option pR} (hQ : zQ X r) (hk57 : ∀ (x0 : Nat) (x1 : Int32) (x2 : Int32) (x3 : Int32) (x4 : Int32) (h : pH), k57 x0 x1 x2 x3 x4 h = some r → Z X M_Mo_mayGo 0 0 h 57 [(0, .ref x0), (1, .int x1), (2, .int x2), (3, .int x3), (4, .int x4)] []) : ∀ (x0 : Nat) (x1 : Int32) (x2 : Int32) (x4 : Int32) (s0 : Int32) (h : pH), f_Mo_mayGo_b91 G k57 x0 x1 x2 x4 s0 h = some r → Z X M_Mo_mayGo 0 0 h 91 [(0, .ref x0), (1, .int x1), (2, .int x2), (4, .int x4)] [.int s0] := by
  intro x0 x1 x2 x4 s0 h E
  rw [f_Mo_mayGo_b91_eq] at E
  refine z_istore_n (lv2 := [(3, .int s0), (0, .ref x0), (1, .int x1), (2, .int x2), (4, .int x4)]) d_Mo_mayGo_91 rfl (Nat.le_of_ble_eq_true rfl) rfl ?_
  refine z_iinc (v := (x4 + 1)) (lv2 := [(4, .int (x4 + 1)), (3, .int s0), (0, .ref x0), (1, .int x1), (2, .int x2)]) 4 d_Mo_mayGo_92 rfl rfl (Nat.le_of_ble_eq_true rfl) rfl ?_
  refine z_goto (tgt := 57) d_Mo_mayGo_95 (by decide) ?_
  refine z_lv [2, 3, 4, 1, 0] rfl ?_
  exact hk57 x0 x1 x2 s0 (x4 + 1) h E
set_option maxRecDepth 100000 in
set_option maxHeartbeats 4000000 in
theorem w_Mo_mayGo_b133 {X : zX} {r : pR} {G : Nat} {k143 : pH → Option pR} {k144 : Int32 → pH → Option pR} (hQ : zQ X r) (hk143 : ∀ (h : pH), k143 h = some r → Z X M_Mo_mayGo 0 0 h 143 [] []) (hk144 : ∀ (s0 : Int32) (h : pH), k144 s0 h = some r → Z X M_Mo_mayGo 0 0 h 144 [] [.int s0]) : ∀ (s0 : Int32) (s1 : Int32) (h : pH), f_Mo_mayGo_b133 G k143 k144 s0 s1 h = some r → Z X M_Mo_mayGo 0 0 h 133 [] [.int s1, .int s0] := by
  intro s0 s1 h E
  rw [f_Mo_mayGo_b133_eq] at E
  refine z_iadd d_Mo_mayGo_133 ?_
  refine z_bipush (v := (30 : Int32)) d_Mo_mayGo_134 (by decide) ?_
  refine z_ic_gt (tgt := 143) d_Mo_mayGo_136 (by decide) E (fun E => ?_) (fun E => ?_)
  · exact hk143 h E
  · refine z_iconst (v := (1 : Int32)) d_Mo_mayGo_139 (by decide) ?_
    refine z_goto (tgt := 144) d_Mo_mayGo_140 (by decide) ?_
    exact hk144 (1 : Int32) h E
set_option maxRecDepth 100000 in
set_option maxHeartbeats 4000000 in
theorem w_Mo_mayGo_b143 {X : zX} {r : pR} {G : Nat} {k144 : Int32 → pH → Option pR} (hQ : zQ X r) (hk144 : ∀ (s0 : Int32) (h : pH), k144 s0 h = some r → Z X M_Mo_mayGo 0 0 h 144 [] [.int s0]) : ∀ (h : pH), f_Mo_mayGo_b143 G k144 h = some r → Z X M_Mo_mayGo 0 0 h 143 [] [] := by
  intro h E
  rw [f_Mo_mayGo_b143_eq] at E
  refine z_iconst (v := (0 : Int32)) d_Mo_mayGo_143 (by decide) ?_
  exact hk144 (0 : Int32) h E
set_option maxRecDepth 100000 in
set_option maxHeartbeats 4000000 in
theorem w_Mo_mayGo_b144 {X : zX} {r : pR} {G : Nat} (hQ : zQ X r) : ∀ (s0 : Int32) (h : pH), f_Mo_mayGo_b144 G s0 h = some r → Z X M_Mo_mayGo 0 0 h 144 [] [.int s0] := by
  intro s0 h E
  rw [f_Mo_mayGo_b144_eq] at E
  exact z_zreturn hQ rfl z00 d_Mo_mayGo_144 E
set_option maxRecDepth 100000 in
set_option maxHeartbeats 4000000 in
theorem w_Mo_mayGo_b39 {X : zX} {r : pR} {G : Nat} {k46 : Nat → Int32 → Int32 → Int32 → pH → Option pR} {k47 : Nat → Int32 → Int32 → Int32 → Int32 → pH → Option pR} (hQ : zQ X r) (hk46 : ∀ (x0 : Nat) (x1 : Int32) (x2 : Int32) (x4 : Int32) (h : pH), k46 x0 x1 x2 x4 h = some r → Z X M_Mo_mayGo 0 0 h 46 [(0, .ref x0), (1, .int x1), (2, .int x2), (4, .int x4)] []) (hk47 : ∀ (x0 : Nat) (x1 : Int32) (x2 : Int32) (x4 : Int32) (s0 : Int32) (h : pH), k47 x0 x1 x2 x4 s0 h = some r → Z X M_Mo_mayGo 0 0 h 47 [(0, .ref x0), (1, .int x1), (2, .int x2), (4, .int x4)] [.int s0]) : ∀ (x0 : Nat) (x1 : Int32) (x2 : Int32) (x4 : Int32) (s0 : Int32) (s1 : Int32) (h : pH), f_Mo_mayGo_b39 G k46 k47 x0 x1 x2 x4 s0 s1 h = some r → Z X M_Mo_mayGo 0 0 h 39 [(0, .ref x0), (1, .int x1), (2, .int x2), (4, .int x4)] [.int s1, .int s0] := by
  intro x0 x1 x2 x4 s0 s1 h E
  rw [f_Mo_mayGo_b39_eq] at E
  refine z_ic_ne (tgt := 46) d_Mo_mayGo_39 (by decide) E (fun E => ?_) (fun E => ?_)
  · exact hk46 x0 x1 x2 x4 h E
  · refine z_iconst (v := (1 : Int32)) d_Mo_mayGo_42 (by decide) ?_
    refine z_goto (tgt := 47) d_Mo_mayGo_43 (by decide) ?_
    exact hk47 x0 x1 x2 x4 (1 : Int32) h E
set_option maxRecDepth 100000 in
set_option maxHeartbeats 4000000 in
theorem w_Mo_mayGo_b46 {X : zX} {r : pR} {G : Nat} {k47 : Nat → Int32 → Int32 → Int32 → Int32 → pH → Option pR} (hQ : zQ X r) (hk47 : ∀ (x0 : Nat) (x1 : Int32) (x2 : Int32) (x4 : Int32) (s0 : Int32) (h : pH), k47 x0 x1 x2 x4 s0 h = some r → Z X M_Mo_mayGo 0 0 h 47 [(0, .ref x0), (1, .int x1), (2, .int x2), (4, .int x4)] [.int s0]) : ∀ (x0 : Nat) (x1 : Int32) (x2 : Int32) (x4 : Int32) (h : pH), f_Mo_mayGo_b46 G k47 x0 x1 x2 x4 h = some r → Z X M_Mo_mayGo 0 0 h 46 [(0, .ref x0), (1, .int x1), (2, .int x2), (4, .int x4)] [] := by
  intro x0 x1 x2 x4 h E
  rw [f_Mo_mayGo_b46_eq] at E
  refine z_iconst (v := (0 : Int32)) d_Mo_mayGo_46 (by decide) ?_
  exact hk47 x0 x1 x2 x4 (0 : Int32) h E
set_option maxRecDepth 100000 in
set_option maxHeartbeats 4000000 in
theorem w_Mo_mayGo_b47 {X : zX} {r : pR} {G : Nat} {k5 : Nat → Int32 → Int32 → Int32 → Int32 → pH → Option pR} (hQ : zQ X r) (hk5 : ∀ (x0 : Nat) (x1 : Int32) (x2 : Int32) (x3 : Int32) (x4 : Int32) (h : pH), k5 x0 x1 x2 x3 x4 h = some r → Z X M_Mo_mayGo 0 0 h 5 [(0, .ref x0), (1, .int x1), (2, .int x2), (3, .int x3), (4, .int x4)] []) : ∀ (x0 : Nat) (x1 : Int32) (x2 : Int32) (x4 : Int32) (s0 : Int32) (h : pH), f_Mo_mayGo_b47 G k5 x0 x1 x2 x4 s0 h = some r → Z X M_Mo_mayGo 0 0 h 47 [(0, .ref x0), (1, .int x1), (2, .int x2), (4, .int x4)] [.int s0] := by
  intro x0 x1 x2 x4 s0 h E
  rw [f_Mo_mayGo_b47_eq] at E
  refine z_istore_n (lv2 := [(3, .int s0), (0, .ref x0), (1, .int x1), (2, .int x2), (4, .int x4)]) d_Mo_mayGo_47 rfl (Nat.le_of_ble_eq_true rfl) rfl ?_
  refine z_iinc (v := (x4 + 1)) (lv2 := [(4, .int (x4 + 1)), (3, .int s0), (0, .ref x0), (1, .int x1), (2, .int x2)]) 4 d_Mo_mayGo_48 rfl rfl (Nat.le_of_ble_eq_true rfl) rfl ?_
  refine z_goto (tgt := 5) d_Mo_mayGo_51 (by decide) ?_
  refine z_lv [2, 3, 4, 1, 0] rfl ?_
  exact hk5 x0 x1 x2 s0 (x4 + 1) h E
set_option maxRecDepth 100000 in
set_option maxHeartbeats 4000000 in
theorem w_Mo_mayGo_b57 {X : zX} {r : pR} {G : Nat} (hQ : zQ X r) : ∀ (F : Nat) (x0 : Nat) (x1 : Int32) (x2 : Int32) (x3 : Int32) (x4 : Int32) (h : pH), f_Mo_mayGo_b57 G F x0 x1 x2 x3 x4 h = some r → Z X M_Mo_mayGo 0 0 h 57 [(0, .ref x0), (1, .int x1), (2, .int x2), (3, .int x3), (4, .int x4)] [] := by
  intro F
  induction F with
  | zero => intro x0 x1 x2 x3 x4 h E; exact nomatch (show (none : Option pR) = some _ from E)
  | succ F ih =>
    intro x0 x1 x2 x3 x4 h E
    rw [f_Mo_mayGo_b57_eq] at E
    refine z_iload 4 d_Mo_mayGo_57 rfl ?_
    refine z_aload_n 0 d_Mo_mayGo_59 rfl rfl ?_
    refine z_getI (ci := 4) (j := 16) rfl (by decide) zf_Mo_153 d_Mo_mayGo_60 E (fun v8 _ E => ?_)
    refine z_ic_ge (tgt := 98) d_Mo_mayGo_63 (by decide) E (fun E => ?_) (fun E => ?_)
    · refine z_iload_n 3 d_Mo_mayGo_98 rfl rfl ?_
      refine z_if_eq (y := 0) (tgt := 143) d_Mo_mayGo_99 (by decide) E (fun E => ?_) (fun E => ?_)
      · refine z_lv [] rfl ?_
        exact (w_Mo_mayGo_b143 hQ (w_Mo_mayGo_b144 hQ)) h E
      · refine z_aload_n 0 d_Mo_mayGo_102 rfl rfl ?_
        refine z_getR (ci := 4) (j := 2) rfl (by decide) zf_Mo_13 d_Mo_mayGo_103 E (fun v9 _ E => ?_)
        refine z_iload_n 1 d_Mo_mayGo_106 rfl rfl ?_
        refine z_iaload d_Mo_mayGo_107 E (fun v10 _ E => ?_)
        refine z_iload_n 2 d_Mo_mayGo_108 rfl rfl ?_
        refine z_if_eq (y := 0) (tgt := 124) d_Mo_mayGo_109 (by decide) E (fun E => ?_) (fun E => ?_)
        · refine z_aload_n 0 d_Mo_mayGo_124 rfl rfl ?_
          refine z_getI (ci := 4) (j := 16) rfl (by decide) zf_Mo_153 d_Mo_mayGo_125 E (fun v11 _ E => ?_)
          refine z_aload_n 0 d_Mo_mayGo_128 rfl rfl ?_
          refine z_getI (ci := 4) (j := 15) rfl (by decide) zf_Mo_150 d_Mo_mayGo_129 E (fun v12 _ E => ?_)
          refine z_isub d_Mo_mayGo_132 ?_
          refine z_lv [] rfl ?_
          exact (w_Mo_mayGo_b133 hQ (w_Mo_mayGo_b143 hQ (w_Mo_mayGo_b144 hQ)) (w_Mo_mayGo_b144 hQ)) v10 (v11 - v12) h E
        · refine z_aload_n 0 d_Mo_mayGo_112 rfl rfl ?_
          refine z_getI (ci := 4) (j := 15) rfl (by decide) zf_Mo_150 d_Mo_mayGo_113 E (fun v13 _ E => ?_)
          refine z_aload_n 0 d_Mo_mayGo_116 rfl rfl ?_
          refine z_getI (ci := 4) (j := 16) rfl (by decide) zf_Mo_153 d_Mo_mayGo_117 E (fun v14 _ E => ?_)
          refine z_isub d_Mo_mayGo_120 ?_
          refine z_goto (tgt := 133) d_Mo_mayGo_121 (by decide) ?_
          refine z_lv [] rfl ?_
          exact (w_Mo_mayGo_b133 hQ (w_Mo_mayGo_b143 hQ (w_Mo_mayGo_b144 hQ)) (w_Mo_mayGo_b144 hQ)) v10 (v13 - v14) h E
    · refine z_iload_n 3 d_Mo_mayGo_66 rfl rfl ?_
      refine z_if_eq (y := 0) (tgt := 90) d_Mo_mayGo_67 (by decide) E (fun E => ?_) (fun E => ?_)
      · refine z_lv [0, 1, 2, 4] rfl ?_
        exact (w_Mo_mayGo_b90 hQ (w_Mo_mayGo_b91 hQ ih)) x0 x1 x2 x4 h E
      · refine z_aload_n 0 d_Mo_mayGo_70 rfl rfl ?_
        refine z_iload_n 1 d_Mo_mayGo_71 rfl rfl ?_
        refine z_aload_n 0 d_Mo_mayGo_72 rfl rfl ?_
        refine z_getR (ci := 4) (j := 18) rfl (by decide) zf_Mo_43 d_Mo_mayGo_73 E (fun v15 _ E => ?_)
        refine z_iload 4 d_Mo_mayGo_76 rfl ?_
        refine z_iaload d_Mo_mayGo_78 E (fun v16 _ E => ?_)
        obtain ⟨g18, v20, h17, e19, E⟩ := cI_some E
        refine z_invV (ci := 4) (y := y_Mo_has) (Mc := M_Mo_has) (av := [.int x1, .int v16]) (rest := []) rfl rfl ⟨zt_756, zt_758, zt_26, zt_52⟩ zk_Mo_has zy_Mo_has (by decide) (Nat.le_of_ble_eq_true rfl) z00 rfl (Nat.le_of_ble_eq_true rfl) d_Mo_mayGo_79 g18 (m_Mo_has e19) ?_
        show Z X M_Mo_mayGo 0 0 h17 82 [(0, .ref x0), (1, .int x1), (2, .int x2), (3, .int x3), (4, .int x4)] [.int v20]
        refine z_iload_n 2 d_Mo_mayGo_82 rfl rfl ?_
        refine z_ic_ne (tgt := 90) d_Mo_mayGo_83 (by decide) E (fun E => ?_) (fun E => ?_)
        · refine z_lv [0, 1, 2, 4] rfl ?_
          exact (w_Mo_mayGo_b90 hQ (w_Mo_mayGo_b91 hQ ih)) x0 x1 x2 x4 h17 E
        · refine z_iconst (v := (1 : Int32)) d_Mo_mayGo_86 (by decide) ?_
          refine z_goto (tgt := 91) d_Mo_mayGo_87 (by decide) ?_
          refine z_lv [0, 1, 2, 4] rfl ?_
          exact (w_Mo_mayGo_b91 hQ ih) x0 x1 x2 x4 (1 : Int32) h17 E
set_option maxRecDepth 100000 in
set_option maxHeartbeats 4000000 in
theorem w_Mo_mayGo_b5 {X : zX} {r : pR} {G : Nat} (hQ : zQ X r) : ∀ (F : Nat) (x0 : Nat) (x1 : Int32) (x2 : Int32) (x3 : Int32) (x4 : Int32) (h : pH), f_Mo_mayGo_b5 G F x0 x1 x2 x3 x4 h = some r → Z X M_Mo_mayGo 0 0 h 5 [(0, .ref x0), (1, .int x1), (2, .int x2), (3, .int x3), (4, .int x4)] [] := by
  intro F
  induction F with
  | zero => intro x0 x1 x2 x3 x4 h E; exact nomatch (show (none : Option pR) = some _ from E)
  | succ F ih =>
    intro x0 x1 x2 x3 x4 h E
    rw [f_Mo_mayGo_b5_eq] at E
    refine z_iload 4 d_Mo_mayGo_5 rfl ?_
    refine z_aload_n 0 d_Mo_mayGo_7 rfl rfl ?_
    refine z_getI (ci := 4) (j := 15) rfl (by decide) zf_Mo_150 d_Mo_mayGo_8 E (fun v1 _ E => ?_)
    refine z_ic_ge (tgt := 54) d_Mo_mayGo_11 (by decide) E (fun E => ?_) (fun E => ?_)
    · refine z_iconst (v := (0 : Int32)) d_Mo_mayGo_54 (by decide) ?_
      refine z_istore (lv2 := [(4, .int (0 : Int32)), (0, .ref x0), (1, .int x1), (2, .int x2), (3, .int x3)]) d_Mo_mayGo_55 (Nat.le_of_ble_eq_true rfl) rfl ?_
      refine z_lv [1, 2, 3, 4, 0] rfl ?_
      exact (w_Mo_mayGo_b57 hQ G) x0 x1 x2 x3 (0 : Int32) h E
    · refine z_iload_n 3 d_Mo_mayGo_14 rfl rfl ?_
      refine z_if_eq (y := 0) (tgt := 46) d_Mo_mayGo_15 (by decide) E (fun E => ?_) (fun E => ?_)
      · refine z_lv [0, 1, 2, 4] rfl ?_
        exact (w_Mo_mayGo_b46 hQ (w_Mo_mayGo_b47 hQ ih)) x0 x1 x2 x4 h E
      · refine z_aload_n 0 d_Mo_mayGo_18 rfl rfl ?_
        refine z_iload_n 1 d_Mo_mayGo_19 rfl rfl ?_
        refine z_aload_n 0 d_Mo_mayGo_20 rfl rfl ?_
        refine z_getR (ci := 4) (j := 17) rfl (by decide) zf_Mo_40 d_Mo_mayGo_21 E (fun v2 _ E => ?_)
        refine z_iload 4 d_Mo_mayGo_24 rfl ?_
        refine z_iaload d_Mo_mayGo_26 E (fun v3 _ E => ?_)
        obtain ⟨g5, v7, h4, e6, E⟩ := cI_some E
        refine z_invV (ci := 4) (y := y_Mo_has) (Mc := M_Mo_has) (av := [.int x1, .int v3]) (rest := []) rfl rfl ⟨zt_756, zt_758, zt_26, zt_52⟩ zk_Mo_has zy_Mo_has (by decide) (Nat.le_of_ble_eq_true rfl) z00 rfl (Nat.le_of_ble_eq_true rfl) d_Mo_mayGo_27 g5 (m_Mo_has e6) ?_
        show Z X M_Mo_mayGo 0 0 h4 30 [(0, .ref x0), (1, .int x1), (2, .int x2), (3, .int x3), (4, .int x4)] [.int v7]
        refine z_iload_n 2 d_Mo_mayGo_30 rfl rfl ?_
        refine z_if_ne (y := 0) (tgt := 38) d_Mo_mayGo_31 (by decide) E (fun E => ?_) (fun E => ?_)
        · refine z_iconst (v := (0 : Int32)) d_Mo_mayGo_38 (by decide) ?_
          refine z_lv [0, 1, 2, 4] rfl ?_
          exact (w_Mo_mayGo_b39 hQ (w_Mo_mayGo_b46 hQ (w_Mo_mayGo_b47 hQ ih)) (w_Mo_mayGo_b47 hQ ih)) x0 x1 x2 x4 v7 (0 : Int32) h4 E
        · refine z_iconst (v := (1 : Int32)) d_Mo_mayGo_34 (by decide) ?_
          refine z_goto (tgt := 39) d_Mo_mayGo_35 (by decide) ?_
          refine z_lv [0, 1, 2, 4] rfl ?_
          exact (w_Mo_mayGo_b39 hQ (w_Mo_mayGo_b46 hQ (w_Mo_mayGo_b47 hQ ih)) (w_Mo_mayGo_b47 hQ ih)) x0 x1 x2 x4 v7 (1 : Int32) h4 E
set_option maxRecDepth 100000 in
set_option maxHeartbeats 4000000 in
theorem w_Mo_mayGo_b0 {X : zX} {r : pR} {G : Nat} (hQ : zQ X r) : ∀ (x0 : Nat) (x1 : Int32) (x2 : Int32) (h : pH), f_Mo_mayGo G x0 x1 x2 h = some r → Z X M_Mo_mayGo 0 0 h 0 [(0, .ref x0), (1, .int x1), (2, .int x2)] [] := by
  intro x0 x1 x2 h E
  rw [f_Mo_mayGo_eq] at E
  refine z_iconst (v := (1 : Int32)) d_Mo_mayGo_0 (by decide) ?_
  refine z_istore_n (lv2 := [(3, .int (1 : Int32)), (0, .ref x0), (1, .int x1), (2, .int x2)]) d_Mo_mayGo_1 rfl (Nat.le_of_ble_eq_true rfl) rfl ?_
  refine z_iconst (v := (0 : Int32)) d_Mo_mayGo_2 (by decide) ?_
  refine z_istore (lv2 := [(4, .int (0 : Int32)), (3, .int (1 : Int32)), (0, .ref x0), (1, .int x1), (2, .int x2)]) d_Mo_mayGo_3 (Nat.le_of_ble_eq_true rfl) rfl ?_
  refine z_lv [2, 3, 4, 1, 0] rfl ?_
  exact (w_Mo_mayGo_b5 hQ G) x0 x1 x2 (1 : Int32) (0 : Int32) h E
theorem m_Mo_mayGo {l : Launch} {G : Nat} {x0 : Nat} {x1 : Int32} {x2 : Int32} {h : pH} {r : pR} (E : f_Mo_mayGo G x0 x1 x2 h = some r) : zMet l y_Mo_mayGo M_Mo_mayGo 0 0 [.ref x0, .int x1, .int x2] h r :=
  zMet_of (by decide) rfl (Nat.le_of_ble_eq_true rfl) (fun p e s m args below meth c D0 cT => w_Mo_mayGo_b0 (X := (p, l, e, s, m, args, below, meth, c, D0, cT, h, _, 0, 0)) rfl x0 x1 x2 h E)
def f_Mo_apply_b151 (G : Nat) (k154 : Nat → Int32 → Int32 → Int32 → Int32 → Int32 → pH → Option pR) (k159 : Nat → Int32 → Int32 → Int32 → Int32 → Int32 → Int32 → pH → Option pR) (x0 : Nat) (x1 : Int32) (x2 : Int32) (x3 : Int32) (x4 : Int32) (x6 : Int32) (s0 : Int32) (s1 : Int32) (h : pH) : Option pR := if s0 = s1 then (k154 x0 x1 x2 x3 x4 x6 h) else (k159 x0 x1 x2 x3 x4 x6 (0 : Int32) h)
theorem f_Mo_apply_b151_eq (G : Nat) (k154 : Nat → Int32 → Int32 → Int32 → Int32 → Int32 → pH → Option pR) (k159 : Nat → Int32 → Int32 → Int32 → Int32 → Int32 → Int32 → pH → Option pR) (x0 : Nat) (x1 : Int32) (x2 : Int32) (x3 : Int32) (x4 : Int32) (x6 : Int32) (s0 : Int32) (s1 : Int32) (h : pH) : f_Mo_apply_b151 G k154 k159 x0 x1 x2 x3 x4 x6 s0 s1 h = (if s0 = s1 then (k154 x0 x1 x2 x3 x4 x6 h) else (k159 x0 x1 x2 x3 x4 x6 (0 : Int32) h)) := rfl
def f_Mo_apply_b154 (G : Nat) (k159 : Nat → Int32 → Int32 → Int32 → Int32 → Int32 → Int32 → pH → Option pR) (x0 : Nat) (x1 : Int32) (x2 : Int32) (x3 : Int32) (x4 : Int32) (x6 : Int32) (h : pH) : Option pR := k159 x0 x1 x2 x3 x4 x6 (1 : Int32) h
theorem f_Mo_apply_b154_eq (G : Nat) (k159 : Nat → Int32 → Int32 → Int32 → Int32 → Int32 → Int32 → pH → Option pR) (x0 : Nat) (x1 : Int32) (x2 : Int32) (x3 : Int32) (x4 : Int32) (x6 : Int32) (h : pH) : f_Mo_apply_b154 G k159 x0 x1 x2 x3 x4 x6 h = (k159 x0 x1 x2 x3 x4 x6 (1 : Int32) h) := rfl
def f_Mo_apply_b159 (G : Nat) (k103 : Nat → Int32 → Int32 → Int32 → Int32 → Int32 → Int32 → pH → Option pR) (x0 : Nat) (x1 : Int32) (x2 : Int32) (x3 : Int32) (x4 : Int32) (x6 : Int32) (s0 : Int32) (h : pH) : Option pR := k103 x0 x1 x2 x3 x4 s0 (x6 + 1) h
theorem f_Mo_apply_b159_eq (G : Nat) (k103 : Nat → Int32 → Int32 → Int32 → Int32 → Int32 → Int32 → pH → Option pR) (x0 : Nat) (x1 : Int32) (x2 : Int32) (x3 : Int32) (x4 : Int32) (x6 : Int32) (s0 : Int32) (h : pH) : f_Mo_apply_b159 G k103 x0 x1 x2 x3 x4 x6 s0 h = (k103 x0 x1 x2 x3 x4 s0 (x6 + 1) h) := rfl
def f_Mo_apply_b178 (G : Nat) (k79 : Nat → Int32 → Int32 → Int32 → pH → Option pR) (x0 : Nat) (x1 : Int32) (x2 : Int32) (x3 : Int32) (h : pH) : Option pR := k79 x0 x1 x2 (x3 + 1) h
theorem f_Mo_apply_b178_eq (G : Nat) (k79 : Nat → Int32 → Int32 → Int32 → pH → Option pR) (x0 : Nat) (x1 : Int32) (x2 : Int32) (x3 : Int32) (h : pH) : f_Mo_apply_b178 G k79 x0 x1 x2 x3 h = (k79 x0 x1 x2 (x3 + 1) h) := rfl
def f_Mo_apply_b120 (G : Nat) (k79 : Nat → Int32 → Int32 → Int32 → pH → Option pR) (k103 : Nat → Int32 → Int32 → Int32 → Int32 → Int32 → Int32 → pH → Option pR) (x0 : Nat) (x1 : Int32) (x2 : Int32) (x3 : Int32) (x4 : Int32) (x5 : Int32) (x6 : Int32) (s0 : Int32) (s1 : Int32) (h : pH) : Option pR := if s1 ≤ s0 then (if x5 = 0 then (cV (oC h x0 4) (f_Mo_add G x0 x4 h) fun h34 => (f_Mo_apply_b178 G k79) x0 x1 x2 x3 h34) else ((f_Mo_apply_b178 G k79) x0 x1 x2 x3 h)) else (if x5 = 0 then (if x2 = 0 then ((gR h x0 4 17).bind fun v37 => (aI h v37 x6).bind fun v38 => (f_Mo_apply_b151 G (f_Mo_apply_b154 G (f_Mo_apply_b159 G k103)) (f_Mo_apply_b159 G k103)) x0 x1 x2 x3 x4 x6 x4 v38 h) else ((gR h x0 4 18).bind fun v39 => (aI h v39 x6).bind fun v40 => (f_Mo_apply_b151 G (f_Mo_apply_b154 G (f_Mo_apply_b159 G k103)) (f_Mo_apply_b159 G k103)) x0 x1 x2 x3 x4 x6 x4 v40 h)) else ((f_Mo_apply_b154 G (f_Mo_apply_b159 G k103)) x0 x1 x2 x3 x4 x6 h))
theorem f_Mo_apply_b120_eq (G : Nat) (k79 : Nat → Int32 → Int32 → Int32 → pH → Option pR) (k103 : Nat → Int32 → Int32 → Int32 → Int32 → Int32 → Int32 → pH → Option pR) (x0 : Nat) (x1 : Int32) (x2 : Int32) (x3 : Int32) (x4 : Int32) (x5 : Int32) (x6 : Int32) (s0 : Int32) (s1 : Int32) (h : pH) : f_Mo_apply_b120 G k79 k103 x0 x1 x2 x3 x4 x5 x6 s0 s1 h = (if s1 ≤ s0 then (if x5 = 0 then (cV (oC h x0 4) (f_Mo_add G x0 x4 h) fun h34 => (f_Mo_apply_b178 G k79) x0 x1 x2 x3 h34) else ((f_Mo_apply_b178 G k79) x0 x1 x2 x3 h)) else (if x5 = 0 then (if x2 = 0 then ((gR h x0 4 17).bind fun v37 => (aI h v37 x6).bind fun v38 => (f_Mo_apply_b151 G (f_Mo_apply_b154 G (f_Mo_apply_b159 G k103)) (f_Mo_apply_b159 G k103)) x0 x1 x2 x3 x4 x6 x4 v38 h) else ((gR h x0 4 18).bind fun v39 => (aI h v39 x6).bind fun v40 => (f_Mo_apply_b151 G (f_Mo_apply_b154 G (f_Mo_apply_b159 G k103)) (f_Mo_apply_b159 G k103)) x0 x1 x2 x3 x4 x6 x4 v40 h)) else ((f_Mo_apply_b154 G (f_Mo_apply_b159 G k103)) x0 x1 x2 x3 x4 x6 h))) := rfl
def f_Mo_apply_b103 (G : Nat) (k79 : Nat → Int32 → Int32 → Int32 → pH → Option pR) : Nat → Nat → Int32 → Int32 → Int32 → Int32 → Int32 → Int32 → pH → Option pR
  | 0 => fun _ _ _ _ _ _ _ _ => none
  | F + 1 => fun x0 x1 x2 x3 x4 x5 x6 h => if x2 = 0 then ((gI h x0 4 15).bind fun v32 => (f_Mo_apply_b120 G k79 (f_Mo_apply_b103 G k79 F)) x0 x1 x2 x3 x4 x5 x6 x6 v32 h) else ((gI h x0 4 16).bind fun v33 => (f_Mo_apply_b120 G k79 (f_Mo_apply_b103 G k79 F)) x0 x1 x2 x3 x4 x5 x6 x6 v33 h)
theorem f_Mo_apply_b103_eq (G : Nat) (k79 : Nat → Int32 → Int32 → Int32 → pH → Option pR) (F : Nat) (x0 : Nat) (x1 : Int32) (x2 : Int32) (x3 : Int32) (x4 : Int32) (x5 : Int32) (x6 : Int32) (h : pH) : f_Mo_apply_b103 G k79 (F + 1) x0 x1 x2 x3 x4 x5 x6 h = (if x2 = 0 then ((gI h x0 4 15).bind fun v32 => (f_Mo_apply_b120 G k79 (f_Mo_apply_b103 G k79 F)) x0 x1 x2 x3 x4 x5 x6 x6 v32 h) else ((gI h x0 4 16).bind fun v33 => (f_Mo_apply_b120 G k79 (f_Mo_apply_b103 G k79 F)) x0 x1 x2 x3 x4 x5 x6 x6 v33 h)) := rfl
def f_Mo_apply_b68 (G : Nat) (k29 : Nat → Int32 → Int32 → Int32 → pH → Option pR) (x0 : Nat) (x1 : Int32) (x2 : Int32) (x3 : Int32) (s0 : Nat) (s1 : Int32) (h : pH) : Option pR := cV (oC h s0 4) (f_Mo_add G s0 s1 h) fun h29 => k29 x0 x1 x2 (x3 + 1) h29
theorem f_Mo_apply_b68_eq (G : Nat) (k29 : Nat → Int32 → Int32 → Int32 → pH → Option pR) (x0 : Nat) (x1 : Int32) (x2 : Int32) (x3 : Int32) (s0 : Nat) (s1 : Int32) (h : pH) : f_Mo_apply_b68 G k29 x0 x1 x2 x3 s0 s1 h = (cV (oC h s0 4) (f_Mo_add G s0 s1 h) fun h29 => k29 x0 x1 x2 (x3 + 1) h29) := rfl
def f_Mo_apply_b79 (G : Nat) : Nat → Nat → Int32 → Int32 → Int32 → pH → Option pR
  | 0 => fun _ _ _ _ _ => none
  | F + 1 => fun x0 x1 x2 x3 h => (gR h x0 4 2).bind fun v20 => (aI h v20 x1).bind fun v21 => if v21 ≤ x3 then (cV (oC h x0 4) (f_Mo_keep G x0 x1 h) fun h22 => some (some (.int (1 : Int32)), h22)) else (cI (oC h x0 4) (f_Mo_numberOf G x0 x1 x3 h) fun v28 h25 => (f_Mo_apply_b103 G (f_Mo_apply_b79 G F) G) x0 x1 x2 x3 v28 (0 : Int32) (0 : Int32) h25)
theorem f_Mo_apply_b79_eq (G : Nat) (F : Nat) (x0 : Nat) (x1 : Int32) (x2 : Int32) (x3 : Int32) (h : pH) : f_Mo_apply_b79 G (F + 1) x0 x1 x2 x3 h = ((gR h x0 4 2).bind fun v20 => (aI h v20 x1).bind fun v21 => if v21 ≤ x3 then (cV (oC h x0 4) (f_Mo_keep G x0 x1 h) fun h22 => some (some (.int (1 : Int32)), h22)) else (cI (oC h x0 4) (f_Mo_numberOf G x0 x1 x3 h) fun v28 h25 => (f_Mo_apply_b103 G (f_Mo_apply_b79 G F) G) x0 x1 x2 x3 v28 (0 : Int32) (0 : Int32) h25)) := rfl
def f_Mo_apply_b45 (G : Nat) (k29 : Nat → Int32 → Int32 → Int32 → pH → Option pR) (x0 : Nat) (x1 : Int32) (x2 : Int32) (x3 : Int32) (s0 : Int32) (s1 : Int32) (h : pH) : Option pR := if s1 ≤ s0 then ((f_Mo_apply_b79 G G) x0 x1 x2 (0 : Int32) h) else (if x2 = 0 then ((gR h x0 4 18).bind fun v16 => (aI h v16 x3).bind fun v17 => (f_Mo_apply_b68 G k29) x0 x1 x2 x3 x0 v17 h) else ((gR h x0 4 17).bind fun v18 => (aI h v18 x3).bind fun v19 => (f_Mo_apply_b68 G k29) x0 x1 x2 x3 x0 v19 h))
theorem f_Mo_apply_b45_eq (G : Nat) (k29 : Nat → Int32 → Int32 → Int32 → pH → Option pR) (x0 : Nat) (x1 : Int32) (x2 : Int32) (x3 : Int32) (s0 : Int32) (s1 : Int32) (h : pH) : f_Mo_apply_b45 G k29 x0 x1 x2 x3 s0 s1 h = (if s1 ≤ s0 then ((f_Mo_apply_b79 G G) x0 x1 x2 (0 : Int32) h) else (if x2 = 0 then ((gR h x0 4 18).bind fun v16 => (aI h v16 x3).bind fun v17 => (f_Mo_apply_b68 G k29) x0 x1 x2 x3 x0 v17 h) else ((gR h x0 4 17).bind fun v18 => (aI h v18 x3).bind fun v19 => (f_Mo_apply_b68 G k29) x0 x1 x2 x3 x0 v19 h))) := rfl
def f_Mo_apply_b20 (G : Nat) (h : pH) : Option pR := some (some (.int (0 : Int32)), h)
theorem f_Mo_apply_b20_eq (G : Nat) (h : pH) : f_Mo_apply_b20 G h = (some (some (.int (0 : Int32)), h)) := rfl
def f_Mo_apply_b29 (G : Nat) : Nat → Nat → Int32 → Int32 → Int32 → pH → Option pR
  | 0 => fun _ _ _ _ _ => none
  | F + 1 => fun x0 x1 x2 x3 h => if x2 = 0 then ((gI h x0 4 16).bind fun v14 => (f_Mo_apply_b45 G (f_Mo_apply_b29 G F)) x0 x1 x2 x3 x3 v14 h) else ((gI h x0 4 15).bind fun v15 => (f_Mo_apply_b45 G (f_Mo_apply_b29 G F)) x0 x1 x2 x3 x3 v15 h)
theorem f_Mo_apply_b29_eq (G : Nat) (F : Nat) (x0 : Nat) (x1 : Int32) (x2 : Int32) (x3 : Int32) (h : pH) : f_Mo_apply_b29 G (F + 1) x0 x1 x2 x3 h = (if x2 = 0 then ((gI h x0 4 16).bind fun v14 => (f_Mo_apply_b45 G (f_Mo_apply_b29 G F)) x0 x1 x2 x3 x3 v14 h) else ((gI h x0 4 15).bind fun v15 => (f_Mo_apply_b45 G (f_Mo_apply_b29 G F)) x0 x1 x2 x3 x3 v15 h)) := rfl
def f_Mo_apply (G : Nat) (x0 : Nat) (x1 : Int32) (x2 : Int32) (h : pH) : Option pR := cI true (f_Mo_isGraph G x1 h) fun v4 h1 => cI (oC h1 x0 4) (f_Mo_there G x0 v4 h1) fun v8 h5 => if v8 = 0 then ((f_Mo_apply_b20 G) h5) else (cI (oC h5 x0 4) (f_Mo_mayGo G x0 x1 x2 h5) fun v12 h9 => if v12 = 0 then ((f_Mo_apply_b20 G) h9) else ((oP h9 x0 4 4 (.int (0 : Int32))).bind fun h13 => (f_Mo_apply_b29 G G) x0 x1 x2 (0 : Int32) h13))
theorem f_Mo_apply_eq (G : Nat) (x0 : Nat) (x1 : Int32) (x2 : Int32) (h : pH) : f_Mo_apply G x0 x1 x2 h = (cI true (f_Mo_isGraph G x1 h) fun v4 h1 => cI (oC h1 x0 4) (f_Mo_there G x0 v4 h1) fun v8 h5 => if v8 = 0 then ((f_Mo_apply_b20 G) h5) else (cI (oC h5 x0 4) (f_Mo_mayGo G x0 x1 x2 h5) fun v12 h9 => if v12 = 0 then ((f_Mo_apply_b20 G) h9) else ((oP h9 x0 4 4 (.int (0 : Int32))).bind fun h13 => (f_Mo_apply_b29 G G) x0 x1 x2 (0 : Int32) h13))) := rfl
set_option maxRecDepth 100000 in
set_option maxHeartbeats 4000000 in
theorem w_Mo_apply_b151 {X : zX} {r : pR} {G : Nat} {k154 : Nat → Int32 → Int32 → Int32 → Int32 → Int32 → pH → Option pR} {k159 : Nat → Int32 → Int32 → Int32 → Int32 → Int32 → Int32 → pH → Option pR} (hQ : zQ X r) (hk154 : ∀ (x0 : Nat) (x1 : Int32) (x2 : Int32) (x3 : Int32) (x4 : Int32) (x6 : Int32) (h : pH), k154 x0 x1 x2 x3 x4 x6 h = some r → Z X M_Mo_apply 0 0 h 154 [(0, .ref x0), (1, .int x1), (2, .int x2), (3, .int x3), (4, .int x4), (6, .int x6)] []) (hk159 : ∀ (x0 : Nat) (x1 : Int32) (x2 : Int32) (x3 : Int32) (x4 : Int32) (x6 : Int32) (s0 : Int32) (h : pH), k159 x0 x1 x2 x3 x4 x6 s0 h = some r → Z X M_Mo_apply 0 0 h 159 [(0, .ref x0), (1, .int x1), (2, .int x2), (3, .int x3), (4, .int x4), (6, .int x6)] [.int s0]) : ∀ (x0 : Nat) (x1 : Int32) (x2 : Int32) (x3 : Int32) (x4 : Int32) (x6 : Int32) (s0 : Int32) (s1 : Int32) (h : pH), f_Mo_apply_b151 G k154 k159 x0 x1 x2 x3 x4 x6 s0 s1 h = some r → Z X M_Mo_apply 0 0 h 151 [(0, .ref x0), (1, .int x1), (2, .int x2), (3, .int x3), (4, .int x4), (6, .int x6)] [.int s1, .int s0] := by
  intro x0 x1 x2 x3 x4 x6 s0 s1 h E
  rw [f_Mo_apply_b151_eq] at E
  refine z_ic_ne (tgt := 158) d_Mo_apply_151 (by decide) E (fun E => ?_) (fun E => ?_)
  · refine z_iconst (v := (0 : Int32)) d_Mo_apply_158 (by decide) ?_
    exact hk159 x0 x1 x2 x3 x4 x6 (0 : Int32) h E
  · exact hk154 x0 x1 x2 x3 x4 x6 h E
set_option maxRecDepth 100000 in
set_option maxHeartbeats 4000000 in
theorem w_Mo_apply_b154 {X : zX} {r : pR} {G : Nat} {k159 : Nat → Int32 → Int32 → Int32 → Int32 → Int32 → Int32 → pH → Option pR} (hQ : zQ X r) (hk159 : ∀ (x0 : Nat) (x1 : Int32) (x2 : Int32) (x3 : Int32) (x4 : Int32) (x6 : Int32) (s0 : Int32) (h : pH), k159 x0 x1 x2 x3 x4 x6 s0 h = some r → Z X M_Mo_apply 0 0 h 159 [(0, .ref x0), (1, .int x1), (2, .int x2), (3, .int x3), (4, .int x4), (6, .int x6)] [.int s0]) : ∀ (x0 : Nat) (x1 : Int32) (x2 : Int32) (x3 : Int32) (x4 : Int32) (x6 : Int32) (h : pH), f_Mo_apply_b154 G k159 x0 x1 x2 x3 x4 x6 h = some r → Z X M_Mo_apply 0 0 h 154 [(0, .ref x0), (1, .int x1), (2, .int x2), (3, .int x3), (4, .int x4), (6, .int x6)] [] := by
  intro x0 x1 x2 x3 x4 x6 h E
  rw [f_Mo_apply_b154_eq] at E
  refine z_iconst (v := (1 : Int32)) d_Mo_apply_154 (by decide) ?_
  refine z_goto (tgt := 159) d_Mo_apply_155 (by decide) ?_
  exact hk159 x0 x1 x2 x3 x4 x6 (1 : Int32) h E
set_option maxRecDepth 100000 in
set_option maxHeartbeats 4000000 in
theorem w_Mo_apply_b159 {X : zX} {r : pR} {G : Nat} {k103 : Nat → Int32 → Int32 → Int32 → Int32 → Int32 → Int32 → pH → Option pR} (hQ : zQ X r) (hk103 : ∀ (x0 : Nat) (x1 : Int32) (x2 : Int32) (x3 : Int32) (x4 : Int32) (x5 : Int32) (x6 : Int32) (h : pH), k103 x0 x1 x2 x3 x4 x5 x6 h = some r → Z X M_Mo_apply 0 0 h 103 [(0, .ref x0), (1, .int x1), (2, .int x2), (3, .int x3), (4, .int x4), (5, .int x5), (6, .int x6)] []) : ∀ (x0 : Nat) (x1 : Int32) (x2 : Int32) (x3 : Int32) (x4 : Int32) (x6 : Int32) (s0 : Int32) (h : pH), f_Mo_apply_b159 G k103 x0 x1 x2 x3 x4 x6 s0 h = some r → Z X M_Mo_apply 0 0 h 159 [(0, .ref x0), (1, .int x1), (2, .int x2), (3, .int x3), (4, .int x4), (6, .int x6)] [.int s0] := by
  intro x0 x1 x2 x3 x4 x6 s0 h E
  rw [f_Mo_apply_b159_eq] at E
  refine z_istore (lv2 := [(5, .int s0), (0, .ref x0), (1, .int x1), (2, .int x2), (3, .int x3), (4, .int x4), (6, .int x6)]) d_Mo_apply_159 (Nat.le_of_ble_eq_true rfl) rfl ?_
  refine z_iinc (v := (x6 + 1)) (lv2 := [(6, .int (x6 + 1)), (5, .int s0), (0, .ref x0), (1, .int x1), (2, .int x2), (3, .int x3), (4, .int x4)]) 6 d_Mo_apply_161 rfl rfl (Nat.le_of_ble_eq_true rfl) rfl ?_
  refine z_goto (tgt := 103) d_Mo_apply_164 (by decide) ?_
  refine z_lv [2, 3, 4, 5, 6, 1, 0] rfl ?_
  exact hk103 x0 x1 x2 x3 x4 s0 (x6 + 1) h E
set_option maxRecDepth 100000 in
set_option maxHeartbeats 4000000 in
theorem w_Mo_apply_b178 {X : zX} {r : pR} {G : Nat} {k79 : Nat → Int32 → Int32 → Int32 → pH → Option pR} (hQ : zQ X r) (hk79 : ∀ (x0 : Nat) (x1 : Int32) (x2 : Int32) (x3 : Int32) (h : pH), k79 x0 x1 x2 x3 h = some r → Z X M_Mo_apply 0 0 h 79 [(0, .ref x0), (1, .int x1), (2, .int x2), (3, .int x3)] []) : ∀ (x0 : Nat) (x1 : Int32) (x2 : Int32) (x3 : Int32) (h : pH), f_Mo_apply_b178 G k79 x0 x1 x2 x3 h = some r → Z X M_Mo_apply 0 0 h 178 [(0, .ref x0), (1, .int x1), (2, .int x2), (3, .int x3)] [] := by
  intro x0 x1 x2 x3 h E
  rw [f_Mo_apply_b178_eq] at E
  refine z_iinc (v := (x3 + 1)) (lv2 := [(3, .int (x3 + 1)), (0, .ref x0), (1, .int x1), (2, .int x2)]) 3 d_Mo_apply_178 rfl rfl (Nat.le_of_ble_eq_true rfl) rfl ?_
  refine z_goto (tgt := 79) d_Mo_apply_181 (by decide) ?_
  refine z_lv [1, 2, 3, 0] rfl ?_
  exact hk79 x0 x1 x2 (x3 + 1) h E
set_option maxRecDepth 100000 in
set_option maxHeartbeats 4000000 in
theorem w_Mo_apply_b120 {X : zX} {r : pR} {G : Nat} {k79 : Nat → Int32 → Int32 → Int32 → pH → Option pR} {k103 : Nat → Int32 → Int32 → Int32 → Int32 → Int32 → Int32 → pH → Option pR} (hQ : zQ X r) (hk79 : ∀ (x0 : Nat) (x1 : Int32) (x2 : Int32) (x3 : Int32) (h : pH), k79 x0 x1 x2 x3 h = some r → Z X M_Mo_apply 0 0 h 79 [(0, .ref x0), (1, .int x1), (2, .int x2), (3, .int x3)] []) (hk103 : ∀ (x0 : Nat) (x1 : Int32) (x2 : Int32) (x3 : Int32) (x4 : Int32) (x5 : Int32) (x6 : Int32) (h : pH), k103 x0 x1 x2 x3 x4 x5 x6 h = some r → Z X M_Mo_apply 0 0 h 103 [(0, .ref x0), (1, .int x1), (2, .int x2), (3, .int x3), (4, .int x4), (5, .int x5), (6, .int x6)] []) : ∀ (x0 : Nat) (x1 : Int32) (x2 : Int32) (x3 : Int32) (x4 : Int32) (x5 : Int32) (x6 : Int32) (s0 : Int32) (s1 : Int32) (h : pH), f_Mo_apply_b120 G k79 k103 x0 x1 x2 x3 x4 x5 x6 s0 s1 h = some r → Z X M_Mo_apply 0 0 h 120 [(0, .ref x0), (1, .int x1), (2, .int x2), (3, .int x3), (4, .int x4), (5, .int x5), (6, .int x6)] [.int s1, .int s0] := by
  intro x0 x1 x2 x3 x4 x5 x6 s0 s1 h E
  rw [f_Mo_apply_b120_eq] at E
  refine z_ic_ge (tgt := 167) d_Mo_apply_120 (by decide) E (fun E => ?_) (fun E => ?_)
  · refine z_iload 5 d_Mo_apply_167 rfl ?_
    refine z_if_ne (y := 0) (tgt := 178) d_Mo_apply_169 (by decide) E (fun E => ?_) (fun E => ?_)
    · refine z_lv [0, 1, 2, 3] rfl ?_
      exact (w_Mo_apply_b178 hQ hk79) x0 x1 x2 x3 h E
    · refine z_aload_n 0 d_Mo_apply_172 rfl rfl ?_
      refine z_iload 4 d_Mo_apply_173 rfl ?_
      obtain ⟨g35, h34, e36, E⟩ := cV_some E
      refine z_invV (ci := 4) (y := y_Mo_add) (Mc := M_Mo_add) (av := [.int x4]) (rest := []) rfl rfl ⟨zt_764, zt_766, zt_28, zt_52⟩ zk_Mo_add zy_Mo_add (by decide) (Nat.le_of_ble_eq_true rfl) z00 rfl (Nat.le_of_ble_eq_true rfl) d_Mo_apply_175 g35 (m_Mo_add e36) ?_
      show Z X M_Mo_apply 0 0 h34 178 [(0, .ref x0), (1, .int x1), (2, .int x2), (3, .int x3), (4, .int x4), (5, .int x5), (6, .int x6)] []
      refine z_lv [0, 1, 2, 3] rfl ?_
      exact (w_Mo_apply_b178 hQ hk79) x0 x1 x2 x3 h34 E
  · refine z_iload 5 d_Mo_apply_123 rfl ?_
    refine z_if_ne (y := 0) (tgt := 154) d_Mo_apply_125 (by decide) E (fun E => ?_) (fun E => ?_)
    · refine z_lv [0, 1, 2, 3, 4, 6] rfl ?_
      exact (w_Mo_apply_b154 hQ (w_Mo_apply_b159 hQ hk103)) x0 x1 x2 x3 x4 x6 h E
    · refine z_iload 4 d_Mo_apply_128 rfl ?_
      refine z_iload_n 2 d_Mo_apply_130 rfl rfl ?_
      refine z_if_eq (y := 0) (tgt := 144) d_Mo_apply_131 (by decide) E (fun E => ?_) (fun E => ?_)
      · refine z_aload_n 0 d_Mo_apply_144 rfl rfl ?_
        refine z_getR (ci := 4) (j := 17) rfl (by decide) zf_Mo_40 d_Mo_apply_145 E (fun v37 _ E => ?_)
        refine z_iload 6 d_Mo_apply_148 rfl ?_
        refine z_iaload d_Mo_apply_150 E (fun v38 _ E => ?_)
        refine z_lv [0, 1, 2, 3, 4, 6] rfl ?_
        exact (w_Mo_apply_b151 hQ (w_Mo_apply_b154 hQ (w_Mo_apply_b159 hQ hk103)) (w_Mo_apply_b159 hQ hk103)) x0 x1 x2 x3 x4 x6 x4 v38 h E
      · refine z_aload_n 0 d_Mo_apply_134 rfl rfl ?_
        refine z_getR (ci := 4) (j := 18) rfl (by decide) zf_Mo_43 d_Mo_apply_135 E (fun v39 _ E => ?_)
        refine z_iload 6 d_Mo_apply_138 rfl ?_
        refine z_iaload d_Mo_apply_140 E (fun v40 _ E => ?_)
        refine z_goto (tgt := 151) d_Mo_apply_141 (by decide) ?_
        refine z_lv [0, 1, 2, 3, 4, 6] rfl ?_
        exact (w_Mo_apply_b151 hQ (w_Mo_apply_b154 hQ (w_Mo_apply_b159 hQ hk103)) (w_Mo_apply_b159 hQ hk103)) x0 x1 x2 x3 x4 x6 x4 v40 h E
set_option maxRecDepth 100000 in
set_option maxHeartbeats 4000000 in
theorem w_Mo_apply_b103 {X : zX} {r : pR} {G : Nat} {k79 : Nat → Int32 → Int32 → Int32 → pH → Option pR} (hQ : zQ X r) (hk79 : ∀ (x0 : Nat) (x1 : Int32) (x2 : Int32) (x3 : Int32) (h : pH), k79 x0 x1 x2 x3 h = some r → Z X M_Mo_apply 0 0 h 79 [(0, .ref x0), (1, .int x1), (2, .int x2), (3, .int x3)] []) : ∀ (F : Nat) (x0 : Nat) (x1 : Int32) (x2 : Int32) (x3 : Int32) (x4 : Int32) (x5 : Int32) (x6 : Int32) (h : pH), f_Mo_apply_b103 G k79 F x0 x1 x2 x3 x4 x5 x6 h = some r → Z X M_Mo_apply 0 0 h 103 [(0, .ref x0), (1, .int x1), (2, .int x2), (3, .int x3), (4, .int x4), (5, .int x5), (6, .int x6)] [] := by
  intro F
  induction F with
  | zero => intro x0 x1 x2 x3 x4 x5 x6 h E; exact nomatch (show (none : Option pR) = some _ from E)
  | succ F ih =>
    intro x0 x1 x2 x3 x4 x5 x6 h E
    rw [f_Mo_apply_b103_eq] at E
    refine z_iload 6 d_Mo_apply_103 rfl ?_
    refine z_iload_n 2 d_Mo_apply_105 rfl rfl ?_
    refine z_if_eq (y := 0) (tgt := 116) d_Mo_apply_106 (by decide) E (fun E => ?_) (fun E => ?_)
    · refine z_aload_n 0 d_Mo_apply_116 rfl rfl ?_
      refine z_getI (ci := 4) (j := 15) rfl (by decide) zf_Mo_150 d_Mo_apply_117 E (fun v32 _ E => ?_)
      exact (w_Mo_apply_b120 hQ hk79 ih) x0 x1 x2 x3 x4 x5 x6 x6 v32 h E
    · refine z_aload_n 0 d_Mo_apply_109 rfl rfl ?_
      refine z_getI (ci := 4) (j := 16) rfl (by decide) zf_Mo_153 d_Mo_apply_110 E (fun v33 _ E => ?_)
      refine z_goto (tgt := 120) d_Mo_apply_113 (by decide) ?_
      exact (w_Mo_apply_b120 hQ hk79 ih) x0 x1 x2 x3 x4 x5 x6 x6 v33 h E
set_option maxRecDepth 100000 in
set_option maxHeartbeats 4000000 in
theorem w_Mo_apply_b68 {X : zX} {r : pR} {G : Nat} {k29 : Nat → Int32 → Int32 → Int32 → pH → Option pR} (hQ : zQ X r) (hk29 : ∀ (x0 : Nat) (x1 : Int32) (x2 : Int32) (x3 : Int32) (h : pH), k29 x0 x1 x2 x3 h = some r → Z X M_Mo_apply 0 0 h 29 [(0, .ref x0), (1, .int x1), (2, .int x2), (3, .int x3)] []) : ∀ (x0 : Nat) (x1 : Int32) (x2 : Int32) (x3 : Int32) (s0 : Nat) (s1 : Int32) (h : pH), f_Mo_apply_b68 G k29 x0 x1 x2 x3 s0 s1 h = some r → Z X M_Mo_apply 0 0 h 68 [(0, .ref x0), (1, .int x1), (2, .int x2), (3, .int x3)] [.int s1, .ref s0] := by
  intro x0 x1 x2 x3 s0 s1 h E
  rw [f_Mo_apply_b68_eq] at E
  obtain ⟨g30, h29, e31, E⟩ := cV_some E
  refine z_invV (ci := 4) (y := y_Mo_add) (Mc := M_Mo_add) (av := [.int s1]) (rest := []) rfl rfl ⟨zt_764, zt_766, zt_28, zt_52⟩ zk_Mo_add zy_Mo_add (by decide) (Nat.le_of_ble_eq_true rfl) z00 rfl (Nat.le_of_ble_eq_true rfl) d_Mo_apply_68 g30 (m_Mo_add e31) ?_
  show Z X M_Mo_apply 0 0 h29 71 [(0, .ref x0), (1, .int x1), (2, .int x2), (3, .int x3)] []
  refine z_iinc (v := (x3 + 1)) (lv2 := [(3, .int (x3 + 1)), (0, .ref x0), (1, .int x1), (2, .int x2)]) 3 d_Mo_apply_71 rfl rfl (Nat.le_of_ble_eq_true rfl) rfl ?_
  refine z_goto (tgt := 29) d_Mo_apply_74 (by decide) ?_
  refine z_lv [1, 2, 3, 0] rfl ?_
  exact hk29 x0 x1 x2 (x3 + 1) h29 E
set_option maxRecDepth 100000 in
set_option maxHeartbeats 4000000 in
theorem w_Mo_apply_b79 {X : zX} {r : pR} {G : Nat} (hQ : zQ X r) : ∀ (F : Nat) (x0 : Nat) (x1 : Int32) (x2 : Int32) (x3 : Int32) (h : pH), f_Mo_apply_b79 G F x0 x1 x2 x3 h = some r → Z X M_Mo_apply 0 0 h 79 [(0, .ref x0), (1, .int x1), (2, .int x2), (3, .int x3)] [] := by
  intro F
  induction F with
  | zero => intro x0 x1 x2 x3 h E; exact nomatch (show (none : Option pR) = some _ from E)
  | succ F ih =>
    intro x0 x1 x2 x3 h E
    rw [f_Mo_apply_b79_eq] at E
    refine z_iload_n 3 d_Mo_apply_79 rfl rfl ?_
    refine z_aload_n 0 d_Mo_apply_80 rfl rfl ?_
    refine z_getR (ci := 4) (j := 2) rfl (by decide) zf_Mo_13 d_Mo_apply_81 E (fun v20 _ E => ?_)
    refine z_iload_n 1 d_Mo_apply_84 rfl rfl ?_
    refine z_iaload d_Mo_apply_85 E (fun v21 _ E => ?_)
    refine z_ic_ge (tgt := 184) d_Mo_apply_86 (by decide) E (fun E => ?_) (fun E => ?_)
    · refine z_aload_n 0 d_Mo_apply_184 rfl rfl ?_
      refine z_iload_n 1 d_Mo_apply_185 rfl rfl ?_
      obtain ⟨g23, h22, e24, E⟩ := cV_some E
      refine z_invV (ci := 4) (y := y_Mo_keep) (Mc := M_Mo_keep) (av := [.int x1]) (rest := []) rfl rfl ⟨zt_768, zt_770, zt_29, zt_52⟩ zk_Mo_keep zy_Mo_keep (by decide) (Nat.le_of_ble_eq_true rfl) z00 rfl (Nat.le_of_ble_eq_true rfl) d_Mo_apply_186 g23 (m_Mo_keep e24) ?_
      show Z X M_Mo_apply 0 0 h22 189 [(0, .ref x0), (1, .int x1), (2, .int x2), (3, .int x3)] []
      refine z_iconst (v := (1 : Int32)) d_Mo_apply_189 (by decide) ?_
      exact z_ireturn hQ rfl z00 d_Mo_apply_190 E
    · refine z_aload_n 0 d_Mo_apply_89 rfl rfl ?_
      refine z_iload_n 1 d_Mo_apply_90 rfl rfl ?_
      refine z_iload_n 3 d_Mo_apply_91 rfl rfl ?_
      obtain ⟨g26, v28, h25, e27, E⟩ := cI_some E
      refine z_invV (ci := 4) (y := y_Mo_numberOf) (Mc := M_Mo_numberOf) (av := [.int x1, .int x3]) (rest := []) rfl rfl ⟨zt_760, zt_762, zt_27, zt_52⟩ zk_Mo_numberOf zy_Mo_numberOf (by decide) (Nat.le_of_ble_eq_true rfl) z00 rfl (Nat.le_of_ble_eq_true rfl) d_Mo_apply_92 g26 (m_Mo_numberOf e27) ?_
      show Z X M_Mo_apply 0 0 h25 95 [(0, .ref x0), (1, .int x1), (2, .int x2), (3, .int x3)] [.int v28]
      refine z_istore (lv2 := [(4, .int v28), (0, .ref x0), (1, .int x1), (2, .int x2), (3, .int x3)]) d_Mo_apply_95 (Nat.le_of_ble_eq_true rfl) rfl ?_
      refine z_iconst (v := (0 : Int32)) d_Mo_apply_97 (by decide) ?_
      refine z_istore (lv2 := [(5, .int (0 : Int32)), (4, .int v28), (0, .ref x0), (1, .int x1), (2, .int x2), (3, .int x3)]) d_Mo_apply_98 (Nat.le_of_ble_eq_true rfl) rfl ?_
      refine z_iconst (v := (0 : Int32)) d_Mo_apply_100 (by decide) ?_
      refine z_istore (lv2 := [(6, .int (0 : Int32)), (5, .int (0 : Int32)), (4, .int v28), (0, .ref x0), (1, .int x1), (2, .int x2), (3, .int x3)]) d_Mo_apply_101 (Nat.le_of_ble_eq_true rfl) rfl ?_
      refine z_lv [3, 4, 5, 6, 2, 1, 0] rfl ?_
      exact (w_Mo_apply_b103 hQ ih G) x0 x1 x2 x3 v28 (0 : Int32) (0 : Int32) h25 E
set_option maxRecDepth 100000 in
set_option maxHeartbeats 4000000 in
theorem w_Mo_apply_b45 {X : zX} {r : pR} {G : Nat} {k29 : Nat → Int32 → Int32 → Int32 → pH → Option pR} (hQ : zQ X r) (hk29 : ∀ (x0 : Nat) (x1 : Int32) (x2 : Int32) (x3 : Int32) (h : pH), k29 x0 x1 x2 x3 h = some r → Z X M_Mo_apply 0 0 h 29 [(0, .ref x0), (1, .int x1), (2, .int x2), (3, .int x3)] []) : ∀ (x0 : Nat) (x1 : Int32) (x2 : Int32) (x3 : Int32) (s0 : Int32) (s1 : Int32) (h : pH), f_Mo_apply_b45 G k29 x0 x1 x2 x3 s0 s1 h = some r → Z X M_Mo_apply 0 0 h 45 [(0, .ref x0), (1, .int x1), (2, .int x2), (3, .int x3)] [.int s1, .int s0] := by
  intro x0 x1 x2 x3 s0 s1 h E
  rw [f_Mo_apply_b45_eq] at E
  refine z_ic_ge (tgt := 77) d_Mo_apply_45 (by decide) E (fun E => ?_) (fun E => ?_)
  · refine z_iconst (v := (0 : Int32)) d_Mo_apply_77 (by decide) ?_
    refine z_istore_n (lv2 := [(3, .int (0 : Int32)), (0, .ref x0), (1, .int x1), (2, .int x2)]) d_Mo_apply_78 rfl (Nat.le_of_ble_eq_true rfl) rfl ?_
    refine z_lv [1, 2, 3, 0] rfl ?_
    exact (w_Mo_apply_b79 hQ G) x0 x1 x2 (0 : Int32) h E
  · refine z_aload_n 0 d_Mo_apply_48 rfl rfl ?_
    refine z_iload_n 2 d_Mo_apply_49 rfl rfl ?_
    refine z_if_eq (y := 0) (tgt := 62) d_Mo_apply_50 (by decide) E (fun E => ?_) (fun E => ?_)
    · refine z_aload_n 0 d_Mo_apply_62 rfl rfl ?_
      refine z_getR (ci := 4) (j := 18) rfl (by decide) zf_Mo_43 d_Mo_apply_63 E (fun v16 _ E => ?_)
      refine z_iload_n 3 d_Mo_apply_66 rfl rfl ?_
      refine z_iaload d_Mo_apply_67 E (fun v17 _ E => ?_)
      exact (w_Mo_apply_b68 hQ hk29) x0 x1 x2 x3 x0 v17 h E
    · refine z_aload_n 0 d_Mo_apply_53 rfl rfl ?_
      refine z_getR (ci := 4) (j := 17) rfl (by decide) zf_Mo_40 d_Mo_apply_54 E (fun v18 _ E => ?_)
      refine z_iload_n 3 d_Mo_apply_57 rfl rfl ?_
      refine z_iaload d_Mo_apply_58 E (fun v19 _ E => ?_)
      refine z_goto (tgt := 68) d_Mo_apply_59 (by decide) ?_
      exact (w_Mo_apply_b68 hQ hk29) x0 x1 x2 x3 x0 v19 h E
set_option maxRecDepth 100000 in
set_option maxHeartbeats 4000000 in
theorem w_Mo_apply_b20 {X : zX} {r : pR} {G : Nat} (hQ : zQ X r) : ∀ (h : pH), f_Mo_apply_b20 G h = some r → Z X M_Mo_apply 0 0 h 20 [] [] := by
  intro h E
  rw [f_Mo_apply_b20_eq] at E
  refine z_iconst (v := (0 : Int32)) d_Mo_apply_20 (by decide) ?_
  exact z_ireturn hQ rfl z00 d_Mo_apply_21 E
set_option maxRecDepth 100000 in
set_option maxHeartbeats 4000000 in
theorem w_Mo_apply_b29 {X : zX} {r : pR} {G : Nat} (hQ : zQ X r) : ∀ (F : Nat) (x0 : Nat) (x1 : Int32) (x2 : Int32) (x3 : Int32) (h : pH), f_Mo_apply_b29 G F x0 x1 x2 x3 h = some r → Z X M_Mo_apply 0 0 h 29 [(0, .ref x0), (1, .int x1), (2, .int x2), (3, .int x3)] [] := by
  intro F
  induction F with
  | zero => intro x0 x1 x2 x3 h E; exact nomatch (show (none : Option pR) = some _ from E)
  | succ F ih =>
    intro x0 x1 x2 x3 h E
    rw [f_Mo_apply_b29_eq] at E
    refine z_iload_n 3 d_Mo_apply_29 rfl rfl ?_
    refine z_iload_n 2 d_Mo_apply_30 rfl rfl ?_
    refine z_if_eq (y := 0) (tgt := 41) d_Mo_apply_31 (by decide) E (fun E => ?_) (fun E => ?_)
    · refine z_aload_n 0 d_Mo_apply_41 rfl rfl ?_
      refine z_getI (ci := 4) (j := 16) rfl (by decide) zf_Mo_153 d_Mo_apply_42 E (fun v14 _ E => ?_)
      exact (w_Mo_apply_b45 hQ ih) x0 x1 x2 x3 x3 v14 h E
    · refine z_aload_n 0 d_Mo_apply_34 rfl rfl ?_
      refine z_getI (ci := 4) (j := 15) rfl (by decide) zf_Mo_150 d_Mo_apply_35 E (fun v15 _ E => ?_)
      refine z_goto (tgt := 45) d_Mo_apply_38 (by decide) ?_
      exact (w_Mo_apply_b45 hQ ih) x0 x1 x2 x3 x3 v15 h E
set_option maxRecDepth 100000 in
set_option maxHeartbeats 4000000 in
theorem w_Mo_apply_b0 {X : zX} {r : pR} {G : Nat} (hQ : zQ X r) : ∀ (x0 : Nat) (x1 : Int32) (x2 : Int32) (h : pH), f_Mo_apply G x0 x1 x2 h = some r → Z X M_Mo_apply 0 0 h 0 [(0, .ref x0), (1, .int x1), (2, .int x2)] [] := by
  intro x0 x1 x2 h E
  rw [f_Mo_apply_eq] at E
  refine z_aload_n 0 d_Mo_apply_0 rfl rfl ?_
  refine z_iload_n 1 d_Mo_apply_1 rfl rfl ?_
  obtain ⟨g2, v4, h1, e3, E⟩ := cI_some E
  refine z_invS (y := y_Mo_isGraph) (Mc := M_Mo_isGraph) (av := [.int x1]) (rest := [.ref x0]) ⟨zt_750, zt_751, zt_52⟩ zk_Mo_isGraph zy_Mo_isGraph (by decide) (Nat.le_of_ble_eq_true rfl) z00 rfl (Nat.le_of_ble_eq_true rfl) d_Mo_apply_2 (m_Mo_isGraph e3) ?_
  show Z X M_Mo_apply 0 0 h1 5 [(0, .ref x0), (1, .int x1), (2, .int x2)] [.int v4, .ref x0]
  obtain ⟨g6, v8, h5, e7, E⟩ := cI_some E
  refine z_invV (ci := 4) (y := y_Mo_there) (Mc := M_Mo_there) (av := [.int v4]) (rest := []) rfl rfl ⟨zt_780, zt_782, zt_30, zt_52⟩ zk_Mo_there zy_Mo_there (by decide) (Nat.le_of_ble_eq_true rfl) z00 rfl (Nat.le_of_ble_eq_true rfl) d_Mo_apply_5 g6 (m_Mo_there e7) ?_
  show Z X M_Mo_apply 0 0 h5 8 [(0, .ref x0), (1, .int x1), (2, .int x2)] [.int v8]
  refine z_if_eq (y := 0) (tgt := 20) d_Mo_apply_8 (by decide) E (fun E => ?_) (fun E => ?_)
  · refine z_lv [] rfl ?_
    exact (w_Mo_apply_b20 hQ) h5 E
  · refine z_aload_n 0 d_Mo_apply_11 rfl rfl ?_
    refine z_iload_n 1 d_Mo_apply_12 rfl rfl ?_
    refine z_iload_n 2 d_Mo_apply_13 rfl rfl ?_
    obtain ⟨g10, v12, h9, e11, E⟩ := cI_some E
    refine z_invV (ci := 4) (y := y_Mo_mayGo) (Mc := M_Mo_mayGo) (av := [.int x1, .int x2]) (rest := []) rfl rfl ⟨zt_910, zt_912, zt_46, zt_52⟩ zk_Mo_mayGo zy_Mo_mayGo (by decide) (Nat.le_of_ble_eq_true rfl) z00 rfl (Nat.le_of_ble_eq_true rfl) d_Mo_apply_14 g10 (m_Mo_mayGo e11) ?_
    show Z X M_Mo_apply 0 0 h9 17 [(0, .ref x0), (1, .int x1), (2, .int x2)] [.int v12]
    refine z_if_ne (y := 0) (tgt := 22) d_Mo_apply_17 (by decide) E (fun E => ?_) (fun E => ?_)
    · refine z_aload_n 0 d_Mo_apply_22 rfl rfl ?_
      refine z_iconst (v := (0 : Int32)) d_Mo_apply_23 (by decide) ?_
      refine z_putI (ci := 4) (j := 4) rfl (by decide) zf_Mo_54 rfl rfl d_Mo_apply_24 E (fun h13 _ E => ?_)
      refine z_iconst (v := (0 : Int32)) d_Mo_apply_27 (by decide) ?_
      refine z_istore_n (lv2 := [(3, .int (0 : Int32)), (0, .ref x0), (1, .int x1), (2, .int x2)]) d_Mo_apply_28 rfl (Nat.le_of_ble_eq_true rfl) rfl ?_
      refine z_lv [1, 2, 3, 0] rfl ?_
      exact (w_Mo_apply_b29 hQ G) x0 x1 x2 (0 : Int32) h13 E
    · refine z_lv [] rfl ?_
      exact (w_Mo_apply_b20 hQ) h9 E
theorem m_Mo_apply {l : Launch} {G : Nat} {x0 : Nat} {x1 : Int32} {x2 : Int32} {h : pH} {r : pR} (E : f_Mo_apply G x0 x1 x2 h = some r) : zMet l y_Mo_apply M_Mo_apply 0 0 [.ref x0, .int x1, .int x2] h r :=
  zMet_of (by decide) rfl (Nat.le_of_ble_eq_true rfl) (fun p e s m args below meth c D0 cT => w_Mo_apply_b0 (X := (p, l, e, s, m, args, below, meth, c, D0, cT, h, _, 0, 0)) rfl x0 x1 x2 h E)

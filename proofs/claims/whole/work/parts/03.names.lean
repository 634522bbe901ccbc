def nR0 : String := "MergeGraphs$Graph"
def nT0 : u_T := fun k => match k with
  | 0 => ("MergeGraphs$Graph", "numbers", "[I", true)
  | _ => ("MergeGraphs$Graph", "count", "I", false)
def nY0 : Nat → FieldType := fun k => match k with
  | 0 => .array .int
  | _ => .int
theorem nn0 : ∀ a, a < 2 → ∀ b, b < 2 → a ≠ b → (nT0 a).2.1 ≠ (nT0 b).2.1 := by decide +kernel
theorem nt0 : ∀ k, k < 2 → parseFieldDescriptor (nT0 k).2.2.1 = some (nY0 k) := by decide +kernel
def nR1 : String := "MergeGraphs$Search"
def nT1 : u_T := fun k => match k with
  | 0 => ("MergeGraphs$Search", "pattern", "LMergeGraphs$Graph;", true)
  | 1 => ("MergeGraphs$Search", "keepsApart", "Z", false)
  | 2 => ("MergeGraphs$Search", "links", "[I", true)
  | 3 => ("MergeGraphs$Search", "linkCount", "I", false)
  | 4 => ("MergeGraphs$Search", "choices", "[[J", true)
  | 5 => ("MergeGraphs$Search", "objects", "[J", true)
  | 6 => ("MergeGraphs$Search", "subjects", "[J", true)
  | _ => ("MergeGraphs$Search", "row", "[I", true)
def nY1 : Nat → FieldType := fun k => match k with
  | 0 => .object "MergeGraphs$Graph"
  | 1 => .boolean
  | 2 => .array .int
  | 3 => .int
  | 4 => .array (.array .long)
  | 5 => .array .long
  | 6 => .array .long
  | _ => .array .int
theorem nn1 : ∀ a, a < 8 → ∀ b, b < 8 → a ≠ b → (nT1 a).2.1 ≠ (nT1 b).2.1 := by decide +kernel
theorem nt1 : ∀ k, k < 8 → parseFieldDescriptor (nT1 k).2.2.1 = some (nY1 k) := by decide +kernel
def nR2 : String := "MergeGraphs$FormFinder"
def nT2 : u_T := fun k => match k with
  | 0 => ("MergeGraphs$FormFinder", "source", "LMergeGraphs$Graph;", true)
  | 1 => ("MergeGraphs$FormFinder", "labels", "[I", true)
  | 2 => ("MergeGraphs$FormFinder", "row", "[I", true)
  | 3 => ("MergeGraphs$FormFinder", "best", "[I", true)
  | 4 => ("MergeGraphs$FormFinder", "hasBest", "Z", false)
  | _ => ("MergeGraphs$FormFinder", "twins", "[I", true)
def nY2 : Nat → FieldType := fun k => match k with
  | 0 => .object "MergeGraphs$Graph"
  | 1 => .array .int
  | 2 => .array .int
  | 3 => .array .int
  | 4 => .boolean
  | _ => .array .int
theorem nn2 : ∀ a, a < 6 → ∀ b, b < 6 → a ≠ b → (nT2 a).2.1 ≠ (nT2 b).2.1 := by decide +kernel
theorem nt2 : ∀ k, k < 6 → parseFieldDescriptor (nT2 k).2.2.1 = some (nY2 k) := by decide +kernel
def nR3 : String := "MergeGraphs"
def nT3 : u_T := fun k => match k with
  | 0 => ("MergeGraphs", "graphs", "[LMergeGraphs$Graph;", true)
  | 1 => ("MergeGraphs", "draft", "LMergeGraphs$Graph;", true)
  | 2 => ("MergeGraphs", "goes", "LMergeGraphs$Graph;", true)
  | 3 => ("MergeGraphs", "comes", "LMergeGraphs$Graph;", true)
  | 4 => ("MergeGraphs", "clashes", "[I", true)
  | 5 => ("MergeGraphs", "clashCount", "I", false)
  | 6 => ("MergeGraphs", "newTerms", "[I", true)
  | 7 => ("MergeGraphs", "search", "LMergeGraphs$Search;", true)
  | _ => ("MergeGraphs", "formFinder", "LMergeGraphs$FormFinder;", true)
def nY3 : Nat → FieldType := fun k => match k with
  | 0 => .array (.object "MergeGraphs$Graph")
  | 1 => .object "MergeGraphs$Graph"
  | 2 => .object "MergeGraphs$Graph"
  | 3 => .object "MergeGraphs$Graph"
  | 4 => .array .int
  | 5 => .int
  | 6 => .array .int
  | 7 => .object "MergeGraphs$Search"
  | _ => .object "MergeGraphs$FormFinder"
theorem nn3 : ∀ a, a < 9 → ∀ b, b < 9 → a ≠ b → (nT3 a).2.1 ≠ (nT3 b).2.1 := by decide +kernel
theorem nt3 : ∀ k, k < 9 → parseFieldDescriptor (nT3 k).2.2.1 = some (nY3 k) := by decide +kernel
def nR4 : String := "MergeGraphsModel"
def nT4 : u_T := fun k => match k with
  | 0 => ("MergeGraphsModel", "code", "I", false)
  | 1 => ("MergeGraphsModel", "facts", "[I", true)
  | 2 => ("MergeGraphsModel", "many", "[I", true)
  | 3 => ("MergeGraphsModel", "made", "[I", true)
  | 4 => ("MergeGraphsModel", "size", "I", false)
  | 5 => ("MergeGraphsModel", "best", "[I", true)
  | 6 => ("MergeGraphsModel", "nodes", "[I", true)
  | 7 => ("MergeGraphsModel", "nodeCount", "I", false)
  | 8 => ("MergeGraphsModel", "terms", "[I", true)
  | 9 => ("MergeGraphsModel", "termCount", "I", false)
  | 10 => ("MergeGraphsModel", "at", "[I", true)
  | 11 => ("MergeGraphsModel", "put", "[I", true)
  | 12 => ("MergeGraphsModel", "clashes", "I", false)
  | 13 => ("MergeGraphsModel", "clashTerm", "[I", true)
  | 14 => ("MergeGraphsModel", "clashSide", "[I", true)
  | 15 => ("MergeGraphsModel", "going", "I", false)
  | 16 => ("MergeGraphsModel", "coming", "I", false)
  | 17 => ("MergeGraphsModel", "goes", "[I", true)
  | _ => ("MergeGraphsModel", "comes", "[I", true)
def nY4 : Nat → FieldType := fun k => match k with
  | 0 => .int
  | 1 => .array .int
  | 2 => .array .int
  | 3 => .array .int
  | 4 => .int
  | 5 => .array .int
  | 6 => .array .int
  | 7 => .int
  | 8 => .array .int
  | 9 => .int
  | 10 => .array .int
  | 11 => .array .int
  | 12 => .int
  | 13 => .array .int
  | 14 => .array .int
  | 15 => .int
  | 16 => .int
  | 17 => .array .int
  | _ => .array .int
theorem nn4 : ∀ a, a < 19 → ∀ b, b < 19 → a ≠ b → (nT4 a).2.1 ≠ (nT4 b).2.1 := by decide +kernel
theorem nt4 : ∀ k, k < 19 → parseFieldDescriptor (nT4 k).2.2.1 = some (nY4 k) := by decide +kernel
abbrev zcl : List vw_C := [(nR0, nT0, 2), (nR1, nT1, 8), (nR2, nT2, 6), (nR3, nT3, 9), (nR4, nT4, 19)]
def zTg : List Cond := lw_tbl.filter goodWord
theorem zTg_good {w : Cond} (h : w ∈ zTg) : w ∈ zTg ∧ ((w.onTables && w.keeps) = true ∨ ∃ ty, w = .arrayClass ty) := ⟨h, good_of_word (List.mem_filter.mp h).2⟩
theorem zmem {w : Cond} (i : Nat) (h : lw_tbl[i]? = some w) (hg : goodWord w = true) : w ∈ zTg := List.mem_filter.mpr ⟨List.mem_of_getElem? h, hg⟩
theorem zin0 : ∀ w ∈ u_ws nR0 nT0 2, w ∈ zTg := by
  intro w hw
  refine List.mem_filter.mpr ⟨?_, ?_⟩
  · exact (show ∀ w ∈ u_ws nR0 nT0 2, w ∈ lw_tbl by decide +kernel) w hw
  · exact (show ∀ w ∈ u_ws nR0 nT0 2, goodWord w = true by decide +kernel) w hw
theorem zin1 : ∀ w ∈ u_ws nR1 nT1 8, w ∈ zTg := by
  intro w hw
  refine List.mem_filter.mpr ⟨?_, ?_⟩
  · exact (show ∀ w ∈ u_ws nR1 nT1 8, w ∈ lw_tbl by decide +kernel) w hw
  · exact (show ∀ w ∈ u_ws nR1 nT1 8, goodWord w = true by decide +kernel) w hw
theorem zin2 : ∀ w ∈ u_ws nR2 nT2 6, w ∈ zTg := by
  intro w hw
  refine List.mem_filter.mpr ⟨?_, ?_⟩
  · exact (show ∀ w ∈ u_ws nR2 nT2 6, w ∈ lw_tbl by decide +kernel) w hw
  · exact (show ∀ w ∈ u_ws nR2 nT2 6, goodWord w = true by decide +kernel) w hw
theorem zin3 : ∀ w ∈ u_ws nR3 nT3 9, w ∈ zTg := by
  intro w hw
  refine List.mem_filter.mpr ⟨?_, ?_⟩
  · exact (show ∀ w ∈ u_ws nR3 nT3 9, w ∈ lw_tbl by decide +kernel) w hw
  · exact (show ∀ w ∈ u_ws nR3 nT3 9, goodWord w = true by decide +kernel) w hw
theorem zin4 : ∀ w ∈ u_ws nR4 nT4 19, w ∈ zTg := by
  intro w hw
  refine List.mem_filter.mpr ⟨?_, ?_⟩
  · exact (show ∀ w ∈ u_ws nR4 nT4 19, w ∈ lw_tbl by decide +kernel) w hw
  · exact (show ∀ w ∈ u_ws nR4 nT4 19, goodWord w = true by decide +kernel) w hw
theorem zcl_in {ci N : Nat} {C : String} {T : u_T} (h : zcl[ci]? = some (C, T, N)) : ∀ w ∈ u_ws C T N, w ∈ zTg := by
  match ci, h with
  | 0, h => cases h; exact zin0
  | 1, h => cases h; exact zin1
  | 2, h => cases h; exact zin2
  | 3, h => cases h; exact zin3
  | 4, h => cases h; exact zin4
  | k + 5, h => simp [zcl] at h
theorem zcl_ty {ci N : Nat} {C : String} {T : u_T} (h : zcl[ci]? = some (C, T, N)) : ∃ ty0 : Nat → FieldType, (∀ k, k < N → parseFieldDescriptor (T k).2.2.1 = some (ty0 k)) ∧ ∀ a, a < N → ∀ b, b < N → a ≠ b → (T a).2.1 ≠ (T b).2.1 := by
  match ci, h with
  | 0, h => cases h; exact ⟨nY0, nt0, nn0⟩
  | 1, h => cases h; exact ⟨nY1, nt1, nn1⟩
  | 2, h => cases h; exact ⟨nY2, nt2, nn2⟩
  | 3, h => cases h; exact ⟨nY3, nt3, nn3⟩
  | 4, h => cases h; exact ⟨nY4, nt4, nn4⟩
  | k + 5, h => simp [zcl] at h
/-- the classes of arrays: 0 int[], 1 long[], 2 Graph[], 3 long[][] -/
abbrev zty (cT : Nat → ClassId) : List (ClassId × FieldType) := [(cT 0, .int), (cT 1, .long), (cT 2, .object "MergeGraphs$Graph"), (cT 3, .array .long)]
def zN : List Cond := [(Cond.methodLinkNest "MergeGraphs" (15 : Nat) (⟨"MergeGraphs$Graph", "<init>", "()V"⟩ : MethodName) "MergeGraphs"), (Cond.methodLinkNest "MergeGraphs" (39 : Nat) (⟨"MergeGraphs$Search", "<init>", "()V"⟩ : MethodName) "MergeGraphs"), (Cond.methodLinkNest "MergeGraphs$Search" (11 : Nat) (⟨"MergeGraphs$Graph", "<init>", "()V"⟩ : MethodName) "MergeGraphs"), (Cond.methodLinkNest "MergeGraphs" (46 : Nat) (⟨"MergeGraphs$FormFinder", "<init>", "()V"⟩ : MethodName) "MergeGraphs"), (Cond.methodLinkNest "MergeGraphs$FormFinder" (11 : Nat) (⟨"MergeGraphs$Graph", "<init>", "()V"⟩ : MethodName) "MergeGraphs"), (Cond.methodLinkNest "MergeGraphs$Graph" (44 : Nat) (⟨"MergeGraphs", "subjectOf", "(I)I"⟩ : MethodName) "MergeGraphs"), (Cond.methodLinkNest "MergeGraphs$Graph" (47 : Nat) (⟨"MergeGraphs", "objectOf", "(I)I"⟩ : MethodName) "MergeGraphs"), (Cond.methodLinkNest "MergeGraphs$Search" (78 : Nat) (⟨"MergeGraphs", "subjectOf", "(I)I"⟩ : MethodName) "MergeGraphs"), (Cond.methodLinkNest "MergeGraphs$Search" (81 : Nat) (⟨"MergeGraphs", "verbOf", "(I)I"⟩ : MethodName) "MergeGraphs"), (Cond.methodLinkNest "MergeGraphs$Search" (84 : Nat) (⟨"MergeGraphs", "objectOf", "(I)I"⟩ : MethodName) "MergeGraphs"), (Cond.methodLinkNest "MergeGraphs$Search" (99 : Nat) (⟨"MergeGraphs", "isIn", "(JI)Z"⟩ : MethodName) "MergeGraphs"), (Cond.methodLinkNest "MergeGraphs$Search" (63 : Nat) (⟨"MergeGraphs", "isNode", "(I)Z"⟩ : MethodName) "MergeGraphs"), (Cond.methodLinkNest "MergeGraphs$Search" (139 : Nat) (⟨"MergeGraphs", "lowestOf", "(J)I"⟩ : MethodName) "MergeGraphs"), (Cond.methodLinkNest "MergeGraphs$FormFinder" (61 : Nat) (⟨"MergeGraphs", "isIn", "(JI)Z"⟩ : MethodName) "MergeGraphs"), (Cond.methodLinkNest "MergeGraphs$FormFinder" (87 : Nat) (⟨"MergeGraphs", "renamed", "(I[I)I"⟩ : MethodName) "MergeGraphs"), (Cond.methodLinkNest "MergeGraphs$FormFinder" (76 : Nat) (⟨"MergeGraphs", "isBefore", "([I[II)Z"⟩ : MethodName) "MergeGraphs"), (Cond.methodLinkNest "MergeGraphs$Search" (66 : Nat) (⟨"MergeGraphs", "isBefore", "([I[II)Z"⟩ : MethodName) "MergeGraphs"), (Cond.methodLinkNest "MergeGraphs$Graph" (40 : Nat) (⟨"MergeGraphs", "renamed", "(I[I)I"⟩ : MethodName) "MergeGraphs"), (Cond.castable "java/lang/IndexOutOfBoundsException" "java/lang/IndexOutOfBoundsException"), (Cond.castable "java/lang/IllegalArgumentException" "java/lang/IllegalArgumentException"), (Cond.declares (⟨"java/lang/RuntimeException", "<init>", "()V"⟩ : MethodName)), (Cond.declares (⟨"java/lang/RuntimeException", "<init>", "(Ljava/lang/String;)V"⟩ : MethodName)), (Cond.declares (⟨"java/lang/Exception", "<init>", "()V"⟩ : MethodName)), (Cond.declares (⟨"java/lang/Exception", "<init>", "(Ljava/lang/String;)V"⟩ : MethodName)), (Cond.declares (⟨"java/lang/Throwable", "<init>", "()V"⟩ : MethodName)), (Cond.declares (⟨"java/lang/Throwable", "<init>", "(Ljava/lang/String;)V"⟩ : MethodName))]
theorem zN_form : ∀ w ∈ zN, (∃ (a : String) (i : Nat) (x : MethodName) (b : String), w = .methodLinkNest a i x b) ∨ (∃ a b : String, w = .castable a b) ∨ ∃ x : MethodName, w = .declares x := by
  intro w hw
  simp only [zN, List.mem_cons, List.not_mem_nil, or_false] at hw
  rcases hw with rfl | rfl | rfl | rfl | rfl | rfl | rfl | rfl | rfl | rfl | rfl | rfl | rfl | rfl | rfl | rfl | rfl | rfl | rfl | rfl | rfl | rfl | rfl | rfl | rfl | rfl <;> first | exact Or.inl ⟨_, _, _, _, rfl⟩ | exact Or.inr (Or.inl ⟨_, _, rfl⟩) | exact Or.inr (Or.inr ⟨_, rfl⟩)

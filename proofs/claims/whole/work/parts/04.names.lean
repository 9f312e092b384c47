/-! the classes, the methods, the program -/
def cs_T0 : u_T := fun k => match k with
  | 0 => ("CliqueSearch", "net", "LCliqueSearch$Net;", true)
  | 1 => ("CliqueSearch", "joinedSets", "LCliqueSearch$MaximalSets;", true)
  | 2 => ("CliqueSearch", "apartSets", "LCliqueSearch$MaximalSets;", true)
  | 3 => ("CliqueSearch", "sizeCounts", "LCliqueSearch$SizeCounts;", true)
  | 4 => ("CliqueSearch", "nearSets", "LCliqueSearch$NearSets;", true)
  | 5 => ("CliqueSearch", "peeling", "LCliqueSearch$Peeling;", true)
  | 6 => ("CliqueSearch", "latestSearch", "LCliqueSearch$Search;", true)
  | 7 => ("CliqueSearch", "sureCover", "LCliqueSearch$SureCover;", true)
  | 8 => ("CliqueSearch", "matching", "LCliqueSearch$Matching;", true)
  | _ => ("CliqueSearch", "nodesByColour", "[I", true)
def cs_ty0 : Nat → FieldType := fun k => match k with
  | 0 => .object "CliqueSearch$Net"
  | 1 => .object "CliqueSearch$MaximalSets"
  | 2 => .object "CliqueSearch$MaximalSets"
  | 3 => .object "CliqueSearch$SizeCounts"
  | 4 => .object "CliqueSearch$NearSets"
  | 5 => .object "CliqueSearch$Peeling"
  | 6 => .object "CliqueSearch$Search"
  | 7 => .object "CliqueSearch$SureCover"
  | 8 => .object "CliqueSearch$Matching"
  | _ => .array .int
theorem cs_nm0 : ∀ a, a < 10 → ∀ b, b < 10 → a ≠ b → (cs_T0 a).2.1 ≠ (cs_T0 b).2.1 := by decide +kernel
theorem cs_ty0_ok : ∀ k, k < 10 → parseFieldDescriptor (cs_T0 k).2.2.1 = some (cs_ty0 k) := by decide +kernel
theorem cs_in0 : ∀ w ∈ u_ws "CliqueSearch" cs_T0 10, w ∈ cs_G := by
  intro w hw
  simp only [u_ws, List.range, List.range.loop, List.map_cons, List.map_nil, List.mem_cons, List.not_mem_nil, or_false] at hw
  rcases hw with rfl | rfl | rfl | rfl | rfl | rfl | rfl | rfl | rfl | rfl
  · exact gw_241
  · exact gw_243
  · exact gw_245
  · exact gw_247
  · exact gw_249
  · exact gw_251
  · exact gw_253
  · exact gw_255
  · exact gw_257
  · exact gw_259
def cs_T1 : u_T := fun k => match k with
  | 0 => ("CliqueSearch$Net", "nodes", "I", false)
  | 1 => ("CliqueSearch$Net", "changes", "I", false)
  | 2 => ("CliqueSearch$Net", "weights", "[I", true)
  | _ => ("CliqueSearch$Net", "links", "[I", true)
def cs_ty1 : Nat → FieldType := fun k => match k with
  | 0 => .int
  | 1 => .int
  | 2 => .array .int
  | _ => .array .int
theorem cs_nm1 : ∀ a, a < 4 → ∀ b, b < 4 → a ≠ b → (cs_T1 a).2.1 ≠ (cs_T1 b).2.1 := by decide +kernel
theorem cs_ty1_ok : ∀ k, k < 4 → parseFieldDescriptor (cs_T1 k).2.2.1 = some (cs_ty1 k) := by decide +kernel
theorem cs_in1 : ∀ w ∈ u_ws "CliqueSearch$Net" cs_T1 4, w ∈ cs_G := by
  intro w hw
  simp only [u_ws, List.range, List.range.loop, List.map_cons, List.map_nil, List.mem_cons, List.not_mem_nil, or_false] at hw
  rcases hw with rfl | rfl | rfl | rfl
  · exact gw_39
  · exact gw_41
  · exact gw_43
  · exact gw_45
def cs_T2 : u_T := fun k => match k with
  | 0 => ("CliqueSearch$MaximalSets", "net", "LCliqueSearch$Net;", true)
  | 1 => ("CliqueSearch$MaximalSets", "reversed", "Z", true)
  | 2 => ("CliqueSearch$MaximalSets", "links", "[I", true)
  | 3 => ("CliqueSearch$MaximalSets", "row", "[I", true)
  | 4 => ("CliqueSearch$MaximalSets", "size", "I", false)
  | _ => ("CliqueSearch$MaximalSets", "foundAt", "I", false)
def cs_ty2 : Nat → FieldType := fun k => match k with
  | 0 => .object "CliqueSearch$Net"
  | 1 => .boolean
  | 2 => .array .int
  | 3 => .array .int
  | 4 => .int
  | _ => .int
theorem cs_nm2 : ∀ a, a < 6 → ∀ b, b < 6 → a ≠ b → (cs_T2 a).2.1 ≠ (cs_T2 b).2.1 := by decide +kernel
theorem cs_ty2_ok : ∀ k, k < 6 → parseFieldDescriptor (cs_T2 k).2.2.1 = some (cs_ty2 k) := by decide +kernel
theorem cs_in2 : ∀ w ∈ u_ws "CliqueSearch$MaximalSets" cs_T2 6, w ∈ cs_G := by
  intro w hw
  simp only [u_ws, List.range, List.range.loop, List.map_cons, List.map_nil, List.mem_cons, List.not_mem_nil, or_false] at hw
  rcases hw with rfl | rfl | rfl | rfl | rfl | rfl
  · exact gw_61
  · exact gw_63
  · exact gw_65
  · exact gw_67
  · exact gw_69
  · exact gw_71
def cs_T3 : u_T := fun k => match k with
  | 0 => ("CliqueSearch$SizeCounts", "net", "LCliqueSearch$Net;", true)
  | 1 => ("CliqueSearch$SizeCounts", "counts", "[I", true)
  | _ => ("CliqueSearch$SizeCounts", "foundAt", "I", false)
def cs_ty3 : Nat → FieldType := fun k => match k with
  | 0 => .object "CliqueSearch$Net"
  | 1 => .array .int
  | _ => .int
theorem cs_nm3 : ∀ a, a < 3 → ∀ b, b < 3 → a ≠ b → (cs_T3 a).2.1 ≠ (cs_T3 b).2.1 := by decide +kernel
theorem cs_ty3_ok : ∀ k, k < 3 → parseFieldDescriptor (cs_T3 k).2.2.1 = some (cs_ty3 k) := by decide +kernel
theorem cs_in3 : ∀ w ∈ u_ws "CliqueSearch$SizeCounts" cs_T3 3, w ∈ cs_G := by
  intro w hw
  simp only [u_ws, List.range, List.range.loop, List.map_cons, List.map_nil, List.mem_cons, List.not_mem_nil, or_false] at hw
  rcases hw with rfl | rfl | rfl
  · exact gw_83
  · exact gw_85
  · exact gw_87
def cs_T4 : u_T := fun k => match k with
  | 0 => ("CliqueSearch$NearSets", "net", "LCliqueSearch$Net;", true)
  | 1 => ("CliqueSearch$NearSets", "lacking", "[[I", true)
  | 2 => ("CliqueSearch$NearSets", "nodesByColour", "[I", true)
  | 3 => ("CliqueSearch$NearSets", "slack", "I", false)
  | 4 => ("CliqueSearch$NearSets", "limit", "I", false)
  | _ => ("CliqueSearch$NearSets", "best", "I", false)
def cs_ty4 : Nat → FieldType := fun k => match k with
  | 0 => .object "CliqueSearch$Net"
  | 1 => .array (.array .int)
  | 2 => .array .int
  | 3 => .int
  | 4 => .int
  | _ => .int
theorem cs_nm4 : ∀ a, a < 6 → ∀ b, b < 6 → a ≠ b → (cs_T4 a).2.1 ≠ (cs_T4 b).2.1 := by decide +kernel
theorem cs_ty4_ok : ∀ k, k < 6 → parseFieldDescriptor (cs_T4 k).2.2.1 = some (cs_ty4 k) := by decide +kernel
theorem cs_in4 : ∀ w ∈ u_ws "CliqueSearch$NearSets" cs_T4 6, w ∈ cs_G := by
  intro w hw
  simp only [u_ws, List.range, List.range.loop, List.map_cons, List.map_nil, List.mem_cons, List.not_mem_nil, or_false] at hw
  rcases hw with rfl | rfl | rfl | rfl | rfl | rfl
  · exact gw_104
  · exact gw_106
  · exact gw_108
  · exact gw_110
  · exact gw_112
  · exact gw_114
def cs_T5 : u_T := fun k => match k with
  | 0 => ("CliqueSearch$Peeling", "net", "LCliqueSearch$Net;", true)
  | 1 => ("CliqueSearch$Peeling", "order", "[I", true)
  | 2 => ("CliqueSearch$Peeling", "cores", "[I", true)
  | _ => ("CliqueSearch$Peeling", "foundAt", "I", false)
def cs_ty5 : Nat → FieldType := fun k => match k with
  | 0 => .object "CliqueSearch$Net"
  | 1 => .array .int
  | 2 => .array .int
  | _ => .int
theorem cs_nm5 : ∀ a, a < 4 → ∀ b, b < 4 → a ≠ b → (cs_T5 a).2.1 ≠ (cs_T5 b).2.1 := by decide +kernel
theorem cs_ty5_ok : ∀ k, k < 4 → parseFieldDescriptor (cs_T5 k).2.2.1 = some (cs_ty5 k) := by decide +kernel
theorem cs_in5 : ∀ w ∈ u_ws "CliqueSearch$Peeling" cs_T5 4, w ∈ cs_G := by
  intro w hw
  simp only [u_ws, List.range, List.range.loop, List.map_cons, List.map_nil, List.mem_cons, List.not_mem_nil, or_false] at hw
  rcases hw with rfl | rfl | rfl | rfl
  · exact gw_127
  · exact gw_129
  · exact gw_131
  · exact gw_133
def cs_T6 : u_T := fun k => match k with
  | 0 => ("CliqueSearch$Search", "net", "LCliqueSearch$Net;", true)
  | 1 => ("CliqueSearch$Search", "painted", "[[I", true)
  | 2 => ("CliqueSearch$Search", "work", "I", false)
  | 3 => ("CliqueSearch$Search", "best", "I", false)
  | 4 => ("CliqueSearch$Search", "lower", "I", false)
  | 5 => ("CliqueSearch$Search", "upper", "I", false)
  | 6 => ("CliqueSearch$Search", "begun", "I", false)
  | 7 => ("CliqueSearch$Search", "cut", "I", false)
  | _ => ("CliqueSearch$Search", "outOfWork", "Z", false)
def cs_ty6 : Nat → FieldType := fun k => match k with
  | 0 => .object "CliqueSearch$Net"
  | 1 => .array (.array .int)
  | 2 => .int
  | 3 => .int
  | 4 => .int
  | 5 => .int
  | 6 => .int
  | 7 => .int
  | _ => .boolean
theorem cs_nm6 : ∀ a, a < 9 → ∀ b, b < 9 → a ≠ b → (cs_T6 a).2.1 ≠ (cs_T6 b).2.1 := by decide +kernel
theorem cs_ty6_ok : ∀ k, k < 9 → parseFieldDescriptor (cs_T6 k).2.2.1 = some (cs_ty6 k) := by decide +kernel
theorem cs_in6 : ∀ w ∈ u_ws "CliqueSearch$Search" cs_T6 9, w ∈ cs_G := by
  intro w hw
  simp only [u_ws, List.range, List.range.loop, List.map_cons, List.map_nil, List.mem_cons, List.not_mem_nil, or_false] at hw
  rcases hw with rfl | rfl | rfl | rfl | rfl | rfl | rfl | rfl | rfl
  · exact gw_157
  · exact gw_159
  · exact gw_161
  · exact gw_163
  · exact gw_165
  · exact gw_167
  · exact gw_169
  · exact gw_171
  · exact gw_173
def cs_T7 : u_T := fun k => match k with
  | 0 => ("CliqueSearch$SureCover", "net", "LCliqueSearch$Net;", true)
  | 1 => ("CliqueSearch$SureCover", "left", "I", false)
  | 2 => ("CliqueSearch$SureCover", "takenNow", "I", false)
  | 3 => ("CliqueSearch$SureCover", "room", "I", false)
  | 4 => ("CliqueSearch$SureCover", "keptTaken", "I", false)
  | _ => ("CliqueSearch$SureCover", "keptRoom", "I", false)
def cs_ty7 : Nat → FieldType := fun k => match k with
  | 0 => .object "CliqueSearch$Net"
  | 1 => .int
  | 2 => .int
  | 3 => .int
  | 4 => .int
  | _ => .int
theorem cs_nm7 : ∀ a, a < 6 → ∀ b, b < 6 → a ≠ b → (cs_T7 a).2.1 ≠ (cs_T7 b).2.1 := by decide +kernel
theorem cs_ty7_ok : ∀ k, k < 6 → parseFieldDescriptor (cs_T7 k).2.2.1 = some (cs_ty7 k) := by decide +kernel
theorem cs_in7 : ∀ w ∈ u_ws "CliqueSearch$SureCover" cs_T7 6, w ∈ cs_G := by
  intro w hw
  simp only [u_ws, List.range, List.range.loop, List.map_cons, List.map_nil, List.mem_cons, List.not_mem_nil, or_false] at hw
  rcases hw with rfl | rfl | rfl | rfl | rfl | rfl
  · exact gw_190
  · exact gw_192
  · exact gw_194
  · exact gw_196
  · exact gw_198
  · exact gw_200
def cs_T8 : u_T := fun k => match k with
  | 0 => ("CliqueSearch$Matching", "net", "LCliqueSearch$Net;", true)
  | 1 => ("CliqueSearch$Matching", "mate", "[I", true)
  | 2 => ("CliqueSearch$Matching", "from", "[I", true)
  | 3 => ("CliqueSearch$Matching", "base", "[I", true)
  | 4 => ("CliqueSearch$Matching", "queue", "[I", true)
  | 5 => ("CliqueSearch$Matching", "queued", "I", false)
  | _ => ("CliqueSearch$Matching", "inQueue", "I", false)
def cs_ty8 : Nat → FieldType := fun k => match k with
  | 0 => .object "CliqueSearch$Net"
  | 1 => .array .int
  | 2 => .array .int
  | 3 => .array .int
  | 4 => .array .int
  | 5 => .int
  | _ => .int
theorem cs_nm8 : ∀ a, a < 7 → ∀ b, b < 7 → a ≠ b → (cs_T8 a).2.1 ≠ (cs_T8 b).2.1 := by decide +kernel
theorem cs_ty8_ok : ∀ k, k < 7 → parseFieldDescriptor (cs_T8 k).2.2.1 = some (cs_ty8 k) := by decide +kernel
theorem cs_in8 : ∀ w ∈ u_ws "CliqueSearch$Matching" cs_T8 7, w ∈ cs_G := by
  intro w hw
  simp only [u_ws, List.range, List.range.loop, List.map_cons, List.map_nil, List.mem_cons, List.not_mem_nil, or_false] at hw
  rcases hw with rfl | rfl | rfl | rfl | rfl | rfl | rfl
  · exact gw_216
  · exact gw_218
  · exact gw_220
  · exact gw_222
  · exact gw_224
  · exact gw_226
  · exact gw_228
def cs_T9 : u_T := fun k => match k with
  | 0 => ("CliqueSearchModel", "thrown", "I", false)
  | 1 => ("CliqueSearchModel", "nodes", "I", false)
  | 2 => ("CliqueSearchModel", "weight", "[I", true)
  | 3 => ("CliqueSearchModel", "joined", "[I", true)
  | 4 => ("CliqueSearchModel", "found", "[I", true)
  | 5 => ("CliqueSearchModel", "colour", "[I", true)
  | 6 => ("CliqueSearchModel", "gone", "[I", true)
  | 7 => ("CliqueSearchModel", "core", "[I", true)
  | 8 => ("CliqueSearchModel", "best", "I", false)
  | 9 => ("CliqueSearchModel", "work", "I", false)
  | 10 => ("CliqueSearchModel", "begun", "I", false)
  | 11 => ("CliqueSearchModel", "cut", "I", false)
  | 12 => ("CliqueSearchModel", "stopped", "Z", false)
  | 13 => ("CliqueSearchModel", "lower", "I", false)
  | 14 => ("CliqueSearchModel", "upper", "I", false)
  | 15 => ("CliqueSearchModel", "taken", "I", false)
  | 16 => ("CliqueSearchModel", "takenLeft", "I", false)
  | _ => ("CliqueSearchModel", "paired", "[B", true)
def cs_ty9 : Nat → FieldType := fun k => match k with
  | 0 => .int
  | 1 => .int
  | 2 => .array .int
  | 3 => .array .int
  | 4 => .array .int
  | 5 => .array .int
  | 6 => .array .int
  | 7 => .array .int
  | 8 => .int
  | 9 => .int
  | 10 => .int
  | 11 => .int
  | 12 => .boolean
  | 13 => .int
  | 14 => .int
  | 15 => .int
  | 16 => .int
  | _ => .array .byte
theorem cs_nm9 : ∀ a, a < 18 → ∀ b, b < 18 → a ≠ b → (cs_T9 a).2.1 ≠ (cs_T9 b).2.1 := by decide +kernel
theorem cs_ty9_ok : ∀ k, k < 18 → parseFieldDescriptor (cs_T9 k).2.2.1 = some (cs_ty9 k) := by decide +kernel
theorem cs_in9 : ∀ w ∈ u_ws "CliqueSearchModel" cs_T9 18, w ∈ cs_G := by
  intro w hw
  simp only [u_ws, List.range, List.range.loop, List.map_cons, List.map_nil, List.mem_cons, List.not_mem_nil, or_false] at hw
  rcases hw with rfl | rfl | rfl | rfl | rfl | rfl | rfl | rfl | rfl | rfl | rfl | rfl | rfl | rfl | rfl | rfl | rfl | rfl
  · exact gw_654
  · exact gw_656
  · exact gw_658
  · exact gw_660
  · exact gw_662
  · exact gw_664
  · exact gw_666
  · exact gw_668
  · exact gw_670
  · exact gw_672
  · exact gw_674
  · exact gw_676
  · exact gw_678
  · exact gw_680
  · exact gw_682
  · exact gw_684
  · exact gw_686
  · exact gw_688
def cs_cl : List vw_C := [("CliqueSearch", cs_T0, 10), ("CliqueSearch$Net", cs_T1, 4), ("CliqueSearch$MaximalSets", cs_T2, 6), ("CliqueSearch$SizeCounts", cs_T3, 3), ("CliqueSearch$NearSets", cs_T4, 6), ("CliqueSearch$Peeling", cs_T5, 4), ("CliqueSearch$Search", cs_T6, 9), ("CliqueSearch$SureCover", cs_T7, 6), ("CliqueSearch$Matching", cs_T8, 7), ("CliqueSearchModel", cs_T9, 18)]
def cs_infs : List mi_M := [
  (⟨"CliqueSearch", "node", "(I)I"⟩, prog_1_method_2_code, 2, some .int),
  (⟨"CliqueSearch", "isWeight", "(I)Z"⟩, prog_1_method_25_code, 1, some .boolean),
  (⟨"CliqueSearch$Net", "isFull", "()Z"⟩, prog_5_method_2_code, 1, some .boolean),
  (⟨"CliqueSearch$Net", "add", "(I)I"⟩, prog_5_method_6_code, 3, some .int),
  (⟨"CliqueSearch", "edge", "(IIZ)I"⟩, prog_1_method_3_code, 5, some .int),
  (⟨"CliqueSearch$Net", "has", "(I)Z"⟩, prog_5_method_3_code, 2, some .boolean),
  (⟨"CliqueSearch$Net", "linksOf", "(I)I"⟩, prog_5_method_9_code, 2, some .int),
  (⟨"CliqueSearch", "holds", "(II)Z"⟩, prog_1_method_26_code, 2, some .boolean),
  (⟨"CliqueSearch$Net", "join", "(IIZ)V"⟩, prog_5_method_7_code, 4, none),
  (⟨"CliqueSearch", "weight", "(II)I"⟩, prog_1_method_4_code, 3, some .int),
  (⟨"CliqueSearch$Net", "reweigh", "(II)I"⟩, prog_5_method_8_code, 4, some .int),
  (⟨"CliqueSearch", "neighbours", "(I)I"⟩, prog_1_method_5_code, 2, some .int),
  (⟨"CliqueSearch", "greatest", "()I"⟩, prog_1_method_6_code, 1, some .int),
  (⟨"CliqueSearch$MaximalSets", "firstLargest", "()I"⟩, prog_3_method_4_code, 3, some .int),
  (⟨"CliqueSearch$MaximalSets", "refresh", "()V"⟩, prog_3_method_7_code, 4, none),
  (⟨"CliqueSearch$Net", "allNodes", "()I"⟩, prog_5_method_5_code, 1, some .int),
  (⟨"CliqueSearch$MaximalSets", "gather", "(LCliqueSearch$MaximalSets;IIII)V"⟩, prog_3_method_8_code, 10, none),
  (⟨"CliqueSearch$MaximalSets", "insert", "(I)V"⟩, prog_3_method_10_code, 4, none),
  (⟨"CliqueSearch$MaximalSets", "precedes", "(II)Z"⟩, prog_3_method_11_code, 3, some .boolean),
  (⟨"CliqueSearch$MaximalSets", "mostLinks", "(II)I"⟩, prog_3_method_9_code, 5, some .int),
  (⟨"java/lang/Integer", "bitCount", "(I)I"⟩, prog_12_method_49_code, 1, some .int),
  (⟨"CliqueSearch", "heaviest", "()I"⟩, prog_1_method_7_code, 1, some .int),
  (⟨"CliqueSearch$MaximalSets", "firstHeaviest", "()I"⟩, prog_3_method_6_code, 5, some .int),
  (⟨"CliqueSearch$Net", "weightOf", "(I)I"⟩, prog_5_method_11_code, 4, some .int),
  (⟨"CliqueSearch", "maximal", "()I"⟩, prog_1_method_8_code, 1, some .int),
  (⟨"CliqueSearch$MaximalSets", "howMany", "()I"⟩, prog_3_method_2_code, 1, some .int),
  (⟨"CliqueSearch", "maximal", "(I)I"⟩, prog_1_method_9_code, 2, some .int),
  (⟨"CliqueSearch$MaximalSets", "at", "(I)I"⟩, prog_3_method_3_code, 2, some .int),
  (⟨"CliqueSearch", "cliques", "(I)I"⟩, prog_1_method_10_code, 2, some .int),
  (⟨"CliqueSearch$SizeCounts", "ofSize", "(I)I"⟩, prog_8_method_2_code, 2, some .int),
  (⟨"java/util/Arrays", "fill", "([II)V"⟩, prog_15_method_103_code, 4, none),
  (⟨"CliqueSearch$SizeCounts", "tally", "(LCliqueSearch$SizeCounts;III)V"⟩, prog_8_method_3_code, 6, none),
  (⟨"CliqueSearch$Net", "leastLinked", "(I)I"⟩, prog_5_method_13_code, 5, some .int),
  (⟨"CliqueSearch$Net", "degree", "(II)I"⟩, prog_5_method_10_code, 3, some .int),
  (⟨"CliqueSearch$SizeCounts", "addSubsets", "(II)V"⟩, prog_8_method_4_code, 5, none),
  (⟨"CliqueSearch", "cover", "()I"⟩, prog_1_method_11_code, 1, some .int),
  (⟨"CliqueSearch$MaximalSets", "lastLargest", "()I"⟩, prog_3_method_5_code, 3, some .int),
  (⟨"CliqueSearch", "apart", "()I"⟩, prog_1_method_12_code, 1, some .int),
  (⟨"CliqueSearch", "near", "(I)I"⟩, prog_1_method_13_code, 2, some .int),
  (⟨"CliqueSearch$NearSets", "largest", "(I)I"⟩, prog_4_method_2_code, 2, some .int),
  (⟨"java/lang/Math", "min", "(II)I"⟩, prog_13_method_69_code, 2, some .int),
  (⟨"java/lang/Math", "max", "(II)I"⟩, prog_13_method_65_code, 2, some .int),
  (⟨"CliqueSearch$NearSets", "mostOfColours", "()I"⟩, prog_4_method_3_code, 4, some .int),
  (⟨"CliqueSearch$Net", "paint", "(I[I)I"⟩, prog_5_method_17_code, 6, some .int),
  (⟨"CliqueSearch$Net", "leastFree", "([II)I"⟩, prog_5_method_18_code, 3, some .int),
  (⟨"CliqueSearch$NearSets", "extend", "(LCliqueSearch$NearSets;III)V"⟩, prog_4_method_4_code, 8, none),
  (⟨"CliqueSearch$NearSets", "beatsBest", "(I)Z"⟩, prog_4_method_5_code, 3, some .boolean),
  (⟨"CliqueSearch$NearSets", "countLacking", "(II)V"⟩, prog_4_method_6_code, 7, none),
  (⟨"CliqueSearch$NearSets", "fitting", "(III)I"⟩, prog_4_method_7_code, 7, some .int),
  (⟨"CliqueSearch", "colours", "(I)I"⟩, prog_1_method_14_code, 2, some .int),
  (⟨"CliqueSearch$Net", "hasAll", "(I)Z"⟩, prog_5_method_4_code, 2, some .boolean),
  (⟨"CliqueSearch", "colour", "(II)I"⟩, prog_1_method_15_code, 5, some .int),
  (⟨"CliqueSearch", "peeled", "(I)I"⟩, prog_1_method_16_code, 2, some .int),
  (⟨"CliqueSearch$Peeling", "nodeAt", "(I)I"⟩, prog_6_method_2_code, 2, some .int),
  (⟨"CliqueSearch$Peeling", "refresh", "()V"⟩, prog_6_method_4_code, 5, none),
  (⟨"CliqueSearch", "core", "(I)I"⟩, prog_1_method_17_code, 2, some .int),
  (⟨"CliqueSearch$Peeling", "coreOf", "(I)I"⟩, prog_6_method_3_code, 2, some .int),
  (⟨"CliqueSearch", "search", "(I)I"⟩, prog_1_method_18_code, 2, some .int),
  (⟨"CliqueSearch$Search", "run", "(I)I"⟩, prog_7_method_2_code, 2, some .int),
  (⟨"CliqueSearch$Search", "branch", "(LCliqueSearch$Search;III)V"⟩, prog_7_method_3_code, 8, none),
  (⟨"CliqueSearch", "searched", "(I)I"⟩, prog_1_method_19_code, 2, some .int),
  (⟨"CliqueSearch", "sure", "(I)I"⟩, prog_1_method_20_code, 2, some .int),
  (⟨"CliqueSearch$SureCover", "reduce", "(I)I"⟩, prog_9_method_2_code, 4, some .int),
  (⟨"CliqueSearch$SureCover", "takeStep", "()Z"⟩, prog_9_method_3_code, 4, some .boolean),
  (⟨"CliqueSearch$SureCover", "leastWithDegree", "(II)I"⟩, prog_9_method_4_code, 5, some .int),
  (⟨"CliqueSearch$SureCover", "take", "(I)V"⟩, prog_9_method_5_code, 2, none),
  (⟨"CliqueSearch$Net", "edgesWithin", "(I)I"⟩, prog_5_method_12_code, 4, some .int),
  (⟨"CliqueSearch", "taken", "(I)I"⟩, prog_1_method_21_code, 2, some .int),
  (⟨"CliqueSearch", "sides", "()I"⟩, prog_1_method_22_code, 6, some .int),
  (⟨"CliqueSearch$Net", "reach", "(IZ)I"⟩, prog_5_method_15_code, 6, some .int),
  (⟨"CliqueSearch$Net", "linksOfAll", "(I)I"⟩, prog_5_method_14_code, 4, some .int),
  (⟨"CliqueSearch", "pairs", "()I"⟩, prog_1_method_23_code, 1, some .int),
  (⟨"CliqueSearch$Matching", "size", "()I"⟩, prog_2_method_2_code, 4, some .int),
  (⟨"CliqueSearch$Matching", "wayFrom", "(I)I"⟩, prog_2_method_3_code, 4, some .int),
  (⟨"CliqueSearch$Matching", "enqueue", "(I)V"⟩, prog_2_method_5_code, 2, none),
  (⟨"CliqueSearch$Matching", "goOnFrom", "(II)I"⟩, prog_2_method_4_code, 4, some .int),
  (⟨"CliqueSearch$Matching", "at", "([II)I"⟩, prog_2_method_10_code, 2, some .int),
  (⟨"CliqueSearch$Matching", "closeBlossom", "(II)V"⟩, prog_2_method_6_code, 6, none),
  (⟨"CliqueSearch$Matching", "meeting", "(II)I"⟩, prog_2_method_7_code, 6, some .int),
  (⟨"CliqueSearch$Matching", "bendBack", "(III)I"⟩, prog_2_method_8_code, 9, some .int),
  (⟨"CliqueSearch$Matching", "flip", "(I)V"⟩, prog_2_method_9_code, 6, none),
  (⟨"CliqueSearch", "count", "(I)I"⟩, prog_1_method_24_code, 2, some .int),
  (⟨"CliqueSearch$Net", "parts", "()I"⟩, prog_5_method_16_code, 4, some .int),
  (⟨"CliqueSearchModel", "node", "(I)I"⟩, prog_11_method_7_code, 2, some .int),
  (⟨"CliqueSearchModel", "in", "(III)Z"⟩, prog_11_method_2_code, 3, some .boolean),
  (⟨"CliqueSearchModel", "edge", "(IIZ)I"⟩, prog_11_method_8_code, 5, some .int),
  (⟨"CliqueSearchModel", "noNode", "(I)Z"⟩, prog_11_method_4_code, 2, some .boolean),
  (⟨"CliqueSearchModel", "weight", "(II)I"⟩, prog_11_method_9_code, 4, some .int),
  (⟨"CliqueSearchModel", "neighbours", "(I)I"⟩, prog_11_method_10_code, 2, some .int),
  (⟨"CliqueSearchModel", "greatest", "()I"⟩, prog_11_method_17_code, 1, some .int),
  (⟨"CliqueSearchModel", "bestOf", "(I)I"⟩, prog_11_method_16_code, 7, some .int),
  (⟨"CliqueSearchModel", "all", "()I"⟩, prog_11_method_5_code, 1, some .int),
  (⟨"CliqueSearchModel", "weightOf", "(I)I"⟩, prog_11_method_15_code, 4, some .int),
  (⟨"CliqueSearchModel", "has", "(II)Z"⟩, prog_11_method_6_code, 2, some .boolean),
  (⟨"CliqueSearchModel", "isBefore", "(II)Z"⟩, prog_11_method_11_code, 3, some .boolean),
  (⟨"CliqueSearchModel", "isClique", "(I)Z"⟩, prog_11_method_12_code, 3, some .boolean),
  (⟨"CliqueSearchModel", "isApart", "(I)Z"⟩, prog_11_method_13_code, 3, some .boolean),
  (⟨"CliqueSearchModel", "isNear", "(II)Z"⟩, prog_11_method_14_code, 4, some .boolean),
  (⟨"CliqueSearchModel", "heaviest", "()I"⟩, prog_11_method_18_code, 1, some .int),
  (⟨"CliqueSearchModel", "maximal", "()I"⟩, prog_11_method_20_code, 3, some .int),
  (⟨"CliqueSearchModel", "isMaximal", "(I)Z"⟩, prog_11_method_19_code, 3, some .boolean),
  (⟨"CliqueSearchModel", "maximal", "(I)I"⟩, prog_11_method_21_code, 5, some .int),
  (⟨"CliqueSearchModel", "cliques", "(I)I"⟩, prog_11_method_22_code, 4, some .int),
  (⟨"CliqueSearchModel", "cover", "()I"⟩, prog_11_method_23_code, 1, some .int),
  (⟨"CliqueSearchModel", "apart", "()I"⟩, prog_11_method_24_code, 1, some .int),
  (⟨"CliqueSearchModel", "near", "(I)I"⟩, prog_11_method_25_code, 2, some .int),
  (⟨"CliqueSearchModel", "colours", "(I)I"⟩, prog_11_method_27_code, 2, some .int),
  (⟨"CliqueSearchModel", "colourAll", "(I)I"⟩, prog_11_method_26_code, 6, some .int),
  (⟨"CliqueSearchModel", "colour", "(II)I"⟩, prog_11_method_28_code, 4, some .int),
  (⟨"CliqueSearchModel", "peeled", "(I)I"⟩, prog_11_method_30_code, 2, some .int),
  (⟨"CliqueSearchModel", "peel", "()V"⟩, prog_11_method_29_code, 6, none),
  (⟨"CliqueSearchModel", "core", "(I)I"⟩, prog_11_method_31_code, 2, some .int),
  (⟨"CliqueSearchModel", "search", "(I)I"⟩, prog_11_method_33_code, 2, some .int),
  (⟨"CliqueSearchModel", "branch", "(LCliqueSearchModel;II)V"⟩, prog_11_method_32_code, 10, none),
  (⟨"CliqueSearchModel", "searched", "(I)I"⟩, prog_11_method_34_code, 2, some .int),
  (⟨"CliqueSearchModel", "sure", "(I)I"⟩, prog_11_method_37_code, 9, some .int),
  (⟨"CliqueSearchModel", "firstWith", "(III)I"⟩, prog_11_method_36_code, 5, some .int),
  (⟨"java/lang/Integer", "numberOfTrailingZeros", "(I)I"⟩, prog_12_method_48_code, 2, some .int),
  (⟨"CliqueSearchModel", "edgesIn", "(I)I"⟩, prog_11_method_35_code, 4, some .int),
  (⟨"CliqueSearchModel", "taken", "(I)I"⟩, prog_11_method_38_code, 2, some .int),
  (⟨"CliqueSearchModel", "sides", "()I"⟩, prog_11_method_40_code, 10, some .int),
  (⟨"CliqueSearchModel", "partOf", "(I)I"⟩, prog_11_method_39_code, 5, some .int),
  (⟨"CliqueSearchModel", "pairs", "()I"⟩, prog_11_method_41_code, 7, some .int),
  (⟨"CliqueSearchModel", "count", "(I)I"⟩, prog_11_method_42_code, 4, some .int)]
def cs_inf (M : Nat) : mi_M := cs_infs.getD M (⟨"CliqueSearch", "node", "(I)I"⟩, prog_1_method_2_code, 2, some .int)
theorem mi_dec {a b : ByteArray} {pc : Nat} (e : a = b) : ∀ {x}, decode b pc = x → decode a pc = x := fun h => e ▸ h
theorem mi_fn {G : List Cond} {cl : List vw_C} {inf : Nat → mi_M} {M : Nat} : ∀ q ∈ ([] : List (Nat × mi_I)), mi_snd G cl inf M q.1 q.2 := fun q h => absurd h List.not_mem_nil
theorem mi_fc {G : List Cond} {cl : List vw_C} {inf : Nat → mi_M} {M pc : Nat} {i : mi_I} {l : List (Nat × mi_I)} (h : mi_snd G cl inf M pc i) (t : ∀ q ∈ l, mi_snd G cl inf M q.1 q.2) : ∀ q ∈ (pc, i) :: l, mi_snd G cl inf M q.1 q.2 := List.forall_mem_cons.mpr ⟨h, t⟩
theorem ib_0 : (cs_inf 0).2.1 = prog_1_method_2_code := rfl
theorem iw_c0 : Cond.code (cs_inf 0).1 (cs_inf 0).2.1 (cs_inf 0).2.2.1 (cs_inf 0).2.2.2 ∈ cs_G := gw_265
theorem iw_n0 : Cond.initialized (cs_inf 0).1.cls ∈ cs_G := gw_1
theorem iw_i0 : Cond.instanceMethod (cs_inf 0).1 ∈ cs_G := gw_263
theorem iw_v0 : Cond.selects "CliqueSearch" (cs_inf 0).1 (cs_inf 0).1 ∈ cs_G := gw_264
theorem ib_1 : (cs_inf 1).2.1 = prog_1_method_25_code := rfl
theorem iw_c1 : Cond.code (cs_inf 1).1 (cs_inf 1).2.1 (cs_inf 1).2.2.1 (cs_inf 1).2.2.2 ∈ cs_G := gw_268
theorem iw_n1 : Cond.initialized (cs_inf 1).1.cls ∈ cs_G := gw_1
theorem iw_s1 : Cond.static (cs_inf 1).1 ∈ cs_G := gw_267
theorem ib_2 : (cs_inf 2).2.1 = prog_5_method_2_code := rfl
theorem iw_c2 : Cond.code (cs_inf 2).1 (cs_inf 2).2.1 (cs_inf 2).2.2.1 (cs_inf 2).2.2.2 ∈ cs_G := gw_272
theorem iw_n2 : Cond.initialized (cs_inf 2).1.cls ∈ cs_G := gw_2
theorem iw_i2 : Cond.instanceMethod (cs_inf 2).1 ∈ cs_G := gw_271
theorem iw_v2 : Cond.selects "CliqueSearch$Net" (cs_inf 2).1 (cs_inf 2).1 ∈ cs_G := List.mem_filter.mpr ⟨List.mem_append_left _ (List.mem_of_getElem? (i := 0) rfl), rfl⟩
theorem ib_3 : (cs_inf 3).2.1 = prog_5_method_6_code := rfl
theorem iw_c3 : Cond.code (cs_inf 3).1 (cs_inf 3).2.1 (cs_inf 3).2.2.1 (cs_inf 3).2.2.2 ∈ cs_G := gw_276
theorem iw_n3 : Cond.initialized (cs_inf 3).1.cls ∈ cs_G := gw_2
theorem iw_i3 : Cond.instanceMethod (cs_inf 3).1 ∈ cs_G := gw_275
theorem iw_v3 : Cond.selects "CliqueSearch$Net" (cs_inf 3).1 (cs_inf 3).1 ∈ cs_G := List.mem_filter.mpr ⟨List.mem_append_left _ (List.mem_of_getElem? (i := 1) rfl), rfl⟩
theorem ib_4 : (cs_inf 4).2.1 = prog_1_method_3_code := rfl
theorem iw_c4 : Cond.code (cs_inf 4).1 (cs_inf 4).2.1 (cs_inf 4).2.2.1 (cs_inf 4).2.2.2 ∈ cs_G := gw_281
theorem iw_n4 : Cond.initialized (cs_inf 4).1.cls ∈ cs_G := gw_1
theorem iw_i4 : Cond.instanceMethod (cs_inf 4).1 ∈ cs_G := gw_279
theorem iw_v4 : Cond.selects "CliqueSearch" (cs_inf 4).1 (cs_inf 4).1 ∈ cs_G := gw_280
theorem ib_5 : (cs_inf 5).2.1 = prog_5_method_3_code := rfl
theorem iw_c5 : Cond.code (cs_inf 5).1 (cs_inf 5).2.1 (cs_inf 5).2.2.1 (cs_inf 5).2.2.2 ∈ cs_G := gw_285
theorem iw_n5 : Cond.initialized (cs_inf 5).1.cls ∈ cs_G := gw_2
theorem iw_i5 : Cond.instanceMethod (cs_inf 5).1 ∈ cs_G := gw_284
theorem iw_v5 : Cond.selects "CliqueSearch$Net" (cs_inf 5).1 (cs_inf 5).1 ∈ cs_G := List.mem_filter.mpr ⟨List.mem_append_left _ (List.mem_of_getElem? (i := 2) rfl), rfl⟩
theorem ib_6 : (cs_inf 6).2.1 = prog_5_method_9_code := rfl
theorem iw_c6 : Cond.code (cs_inf 6).1 (cs_inf 6).2.1 (cs_inf 6).2.2.1 (cs_inf 6).2.2.2 ∈ cs_G := gw_289
theorem iw_n6 : Cond.initialized (cs_inf 6).1.cls ∈ cs_G := gw_2
theorem iw_i6 : Cond.instanceMethod (cs_inf 6).1 ∈ cs_G := gw_288
theorem iw_v6 : Cond.selects "CliqueSearch$Net" (cs_inf 6).1 (cs_inf 6).1 ∈ cs_G := List.mem_filter.mpr ⟨List.mem_append_left _ (List.mem_of_getElem? (i := 3) rfl), rfl⟩
theorem ib_7 : (cs_inf 7).2.1 = prog_1_method_26_code := rfl
theorem iw_c7 : Cond.code (cs_inf 7).1 (cs_inf 7).2.1 (cs_inf 7).2.2.1 (cs_inf 7).2.2.2 ∈ cs_G := gw_293
theorem iw_n7 : Cond.initialized (cs_inf 7).1.cls ∈ cs_G := gw_1
theorem iw_s7 : Cond.static (cs_inf 7).1 ∈ cs_G := gw_292
theorem ib_8 : (cs_inf 8).2.1 = prog_5_method_7_code := rfl
theorem iw_c8 : Cond.code (cs_inf 8).1 (cs_inf 8).2.1 (cs_inf 8).2.2.1 (cs_inf 8).2.2.2 ∈ cs_G := gw_297
theorem iw_n8 : Cond.initialized (cs_inf 8).1.cls ∈ cs_G := gw_2
theorem iw_i8 : Cond.instanceMethod (cs_inf 8).1 ∈ cs_G := gw_296
theorem iw_v8 : Cond.selects "CliqueSearch$Net" (cs_inf 8).1 (cs_inf 8).1 ∈ cs_G := List.mem_filter.mpr ⟨List.mem_append_left _ (List.mem_of_getElem? (i := 4) rfl), rfl⟩
theorem ib_9 : (cs_inf 9).2.1 = prog_1_method_4_code := rfl
theorem iw_c9 : Cond.code (cs_inf 9).1 (cs_inf 9).2.1 (cs_inf 9).2.2.1 (cs_inf 9).2.2.2 ∈ cs_G := gw_301
theorem iw_n9 : Cond.initialized (cs_inf 9).1.cls ∈ cs_G := gw_1
theorem iw_i9 : Cond.instanceMethod (cs_inf 9).1 ∈ cs_G := gw_299
theorem iw_v9 : Cond.selects "CliqueSearch" (cs_inf 9).1 (cs_inf 9).1 ∈ cs_G := gw_300
theorem ib_10 : (cs_inf 10).2.1 = prog_5_method_8_code := rfl
theorem iw_c10 : Cond.code (cs_inf 10).1 (cs_inf 10).2.1 (cs_inf 10).2.2.1 (cs_inf 10).2.2.2 ∈ cs_G := gw_305
theorem iw_n10 : Cond.initialized (cs_inf 10).1.cls ∈ cs_G := gw_2
theorem iw_i10 : Cond.instanceMethod (cs_inf 10).1 ∈ cs_G := gw_304
theorem iw_v10 : Cond.selects "CliqueSearch$Net" (cs_inf 10).1 (cs_inf 10).1 ∈ cs_G := List.mem_filter.mpr ⟨List.mem_append_left _ (List.mem_of_getElem? (i := 5) rfl), rfl⟩
theorem ib_11 : (cs_inf 11).2.1 = prog_1_method_5_code := rfl
theorem iw_c11 : Cond.code (cs_inf 11).1 (cs_inf 11).2.1 (cs_inf 11).2.2.1 (cs_inf 11).2.2.2 ∈ cs_G := gw_309
theorem iw_n11 : Cond.initialized (cs_inf 11).1.cls ∈ cs_G := gw_1
theorem iw_i11 : Cond.instanceMethod (cs_inf 11).1 ∈ cs_G := gw_307
theorem iw_v11 : Cond.selects "CliqueSearch" (cs_inf 11).1 (cs_inf 11).1 ∈ cs_G := gw_308
theorem ib_12 : (cs_inf 12).2.1 = prog_1_method_6_code := rfl
theorem iw_c12 : Cond.code (cs_inf 12).1 (cs_inf 12).2.1 (cs_inf 12).2.2.1 (cs_inf 12).2.2.2 ∈ cs_G := gw_313
theorem iw_n12 : Cond.initialized (cs_inf 12).1.cls ∈ cs_G := gw_1
theorem iw_i12 : Cond.instanceMethod (cs_inf 12).1 ∈ cs_G := gw_311
theorem iw_v12 : Cond.selects "CliqueSearch" (cs_inf 12).1 (cs_inf 12).1 ∈ cs_G := gw_312
theorem ib_13 : (cs_inf 13).2.1 = prog_3_method_4_code := rfl
theorem iw_c13 : Cond.code (cs_inf 13).1 (cs_inf 13).2.1 (cs_inf 13).2.2.1 (cs_inf 13).2.2.2 ∈ cs_G := gw_317
theorem iw_n13 : Cond.initialized (cs_inf 13).1.cls ∈ cs_G := gw_3
theorem iw_i13 : Cond.instanceMethod (cs_inf 13).1 ∈ cs_G := gw_316
theorem iw_v13 : Cond.selects "CliqueSearch$MaximalSets" (cs_inf 13).1 (cs_inf 13).1 ∈ cs_G := List.mem_filter.mpr ⟨List.mem_append_left _ (List.mem_of_getElem? (i := 6) rfl), rfl⟩
theorem ib_14 : (cs_inf 14).2.1 = prog_3_method_7_code := rfl
theorem iw_c14 : Cond.code (cs_inf 14).1 (cs_inf 14).2.1 (cs_inf 14).2.2.1 (cs_inf 14).2.2.2 ∈ cs_G := gw_321
theorem iw_n14 : Cond.initialized (cs_inf 14).1.cls ∈ cs_G := gw_3
theorem iw_i14 : Cond.instanceMethod (cs_inf 14).1 ∈ cs_G := gw_320
theorem iw_v14 : Cond.selects "CliqueSearch$MaximalSets" (cs_inf 14).1 (cs_inf 14).1 ∈ cs_G := List.mem_filter.mpr ⟨List.mem_append_left _ (List.mem_of_getElem? (i := 7) rfl), rfl⟩
theorem ib_15 : (cs_inf 15).2.1 = prog_5_method_5_code := rfl
theorem iw_c15 : Cond.code (cs_inf 15).1 (cs_inf 15).2.1 (cs_inf 15).2.2.1 (cs_inf 15).2.2.2 ∈ cs_G := gw_325
theorem iw_n15 : Cond.initialized (cs_inf 15).1.cls ∈ cs_G := gw_2
theorem iw_i15 : Cond.instanceMethod (cs_inf 15).1 ∈ cs_G := gw_324
theorem iw_v15 : Cond.selects "CliqueSearch$Net" (cs_inf 15).1 (cs_inf 15).1 ∈ cs_G := List.mem_filter.mpr ⟨List.mem_append_left _ (List.mem_of_getElem? (i := 8) rfl), rfl⟩
theorem ib_16 : (cs_inf 16).2.1 = prog_3_method_8_code := rfl
theorem iw_c16 : Cond.code (cs_inf 16).1 (cs_inf 16).2.1 (cs_inf 16).2.2.1 (cs_inf 16).2.2.2 ∈ cs_G := gw_329
theorem iw_n16 : Cond.initialized (cs_inf 16).1.cls ∈ cs_G := gw_3
theorem iw_s16 : Cond.static (cs_inf 16).1 ∈ cs_G := gw_328
theorem ib_17 : (cs_inf 17).2.1 = prog_3_method_10_code := rfl
theorem iw_c17 : Cond.code (cs_inf 17).1 (cs_inf 17).2.1 (cs_inf 17).2.2.1 (cs_inf 17).2.2.2 ∈ cs_G := gw_333
theorem iw_n17 : Cond.initialized (cs_inf 17).1.cls ∈ cs_G := gw_3
theorem iw_i17 : Cond.instanceMethod (cs_inf 17).1 ∈ cs_G := gw_332
theorem iw_v17 : Cond.selects "CliqueSearch$MaximalSets" (cs_inf 17).1 (cs_inf 17).1 ∈ cs_G := List.mem_filter.mpr ⟨List.mem_append_left _ (List.mem_of_getElem? (i := 9) rfl), rfl⟩
theorem ib_18 : (cs_inf 18).2.1 = prog_3_method_11_code := rfl
theorem iw_c18 : Cond.code (cs_inf 18).1 (cs_inf 18).2.1 (cs_inf 18).2.2.1 (cs_inf 18).2.2.2 ∈ cs_G := gw_336
theorem iw_n18 : Cond.initialized (cs_inf 18).1.cls ∈ cs_G := gw_3
theorem iw_s18 : Cond.static (cs_inf 18).1 ∈ cs_G := gw_335
theorem ib_19 : (cs_inf 19).2.1 = prog_3_method_9_code := rfl
theorem iw_c19 : Cond.code (cs_inf 19).1 (cs_inf 19).2.1 (cs_inf 19).2.2.1 (cs_inf 19).2.2.2 ∈ cs_G := gw_343
theorem iw_n19 : Cond.initialized (cs_inf 19).1.cls ∈ cs_G := gw_3
theorem iw_i19 : Cond.instanceMethod (cs_inf 19).1 ∈ cs_G := gw_342
theorem iw_v19 : Cond.selects "CliqueSearch$MaximalSets" (cs_inf 19).1 (cs_inf 19).1 ∈ cs_G := List.mem_filter.mpr ⟨List.mem_append_left _ (List.mem_of_getElem? (i := 10) rfl), rfl⟩
theorem ib_20 : (cs_inf 20).2.1 = prog_12_method_49_code := rfl
theorem iw_c20 : Cond.code (cs_inf 20).1 (cs_inf 20).2.1 (cs_inf 20).2.2.1 (cs_inf 20).2.2.2 ∈ cs_G := gw_347
theorem iw_n20 : Cond.initialized (cs_inf 20).1.cls ∈ cs_G := gw_12
theorem iw_s20 : Cond.static (cs_inf 20).1 ∈ cs_G := gw_346
theorem ib_21 : (cs_inf 21).2.1 = prog_1_method_7_code := rfl
theorem iw_c21 : Cond.code (cs_inf 21).1 (cs_inf 21).2.1 (cs_inf 21).2.2.1 (cs_inf 21).2.2.2 ∈ cs_G := gw_354
theorem iw_n21 : Cond.initialized (cs_inf 21).1.cls ∈ cs_G := gw_1
theorem iw_i21 : Cond.instanceMethod (cs_inf 21).1 ∈ cs_G := gw_352
theorem iw_v21 : Cond.selects "CliqueSearch" (cs_inf 21).1 (cs_inf 21).1 ∈ cs_G := gw_353
theorem ib_22 : (cs_inf 22).2.1 = prog_3_method_6_code := rfl
theorem iw_c22 : Cond.code (cs_inf 22).1 (cs_inf 22).2.1 (cs_inf 22).2.2.1 (cs_inf 22).2.2.2 ∈ cs_G := gw_358
theorem iw_n22 : Cond.initialized (cs_inf 22).1.cls ∈ cs_G := gw_3
theorem iw_i22 : Cond.instanceMethod (cs_inf 22).1 ∈ cs_G := gw_357
theorem iw_v22 : Cond.selects "CliqueSearch$MaximalSets" (cs_inf 22).1 (cs_inf 22).1 ∈ cs_G := List.mem_filter.mpr ⟨List.mem_append_left _ (List.mem_of_getElem? (i := 11) rfl), rfl⟩
theorem ib_23 : (cs_inf 23).2.1 = prog_5_method_11_code := rfl
theorem iw_c23 : Cond.code (cs_inf 23).1 (cs_inf 23).2.1 (cs_inf 23).2.2.1 (cs_inf 23).2.2.2 ∈ cs_G := gw_362
theorem iw_n23 : Cond.initialized (cs_inf 23).1.cls ∈ cs_G := gw_2
theorem iw_i23 : Cond.instanceMethod (cs_inf 23).1 ∈ cs_G := gw_361
theorem iw_v23 : Cond.selects "CliqueSearch$Net" (cs_inf 23).1 (cs_inf 23).1 ∈ cs_G := List.mem_filter.mpr ⟨List.mem_append_left _ (List.mem_of_getElem? (i := 12) rfl), rfl⟩
theorem ib_24 : (cs_inf 24).2.1 = prog_1_method_8_code := rfl
theorem iw_c24 : Cond.code (cs_inf 24).1 (cs_inf 24).2.1 (cs_inf 24).2.2.1 (cs_inf 24).2.2.2 ∈ cs_G := gw_367
theorem iw_n24 : Cond.initialized (cs_inf 24).1.cls ∈ cs_G := gw_1
theorem iw_i24 : Cond.instanceMethod (cs_inf 24).1 ∈ cs_G := gw_365
theorem iw_v24 : Cond.selects "CliqueSearch" (cs_inf 24).1 (cs_inf 24).1 ∈ cs_G := gw_366
theorem ib_25 : (cs_inf 25).2.1 = prog_3_method_2_code := rfl
theorem iw_c25 : Cond.code (cs_inf 25).1 (cs_inf 25).2.1 (cs_inf 25).2.2.1 (cs_inf 25).2.2.2 ∈ cs_G := gw_371
theorem iw_n25 : Cond.initialized (cs_inf 25).1.cls ∈ cs_G := gw_3
theorem iw_i25 : Cond.instanceMethod (cs_inf 25).1 ∈ cs_G := gw_370
theorem iw_v25 : Cond.selects "CliqueSearch$MaximalSets" (cs_inf 25).1 (cs_inf 25).1 ∈ cs_G := List.mem_filter.mpr ⟨List.mem_append_left _ (List.mem_of_getElem? (i := 13) rfl), rfl⟩
theorem ib_26 : (cs_inf 26).2.1 = prog_1_method_9_code := rfl
theorem iw_c26 : Cond.code (cs_inf 26).1 (cs_inf 26).2.1 (cs_inf 26).2.2.1 (cs_inf 26).2.2.2 ∈ cs_G := gw_375
theorem iw_n26 : Cond.initialized (cs_inf 26).1.cls ∈ cs_G := gw_1
theorem iw_i26 : Cond.instanceMethod (cs_inf 26).1 ∈ cs_G := gw_373
theorem iw_v26 : Cond.selects "CliqueSearch" (cs_inf 26).1 (cs_inf 26).1 ∈ cs_G := gw_374
theorem ib_27 : (cs_inf 27).2.1 = prog_3_method_3_code := rfl
theorem iw_c27 : Cond.code (cs_inf 27).1 (cs_inf 27).2.1 (cs_inf 27).2.2.1 (cs_inf 27).2.2.2 ∈ cs_G := gw_379
theorem iw_n27 : Cond.initialized (cs_inf 27).1.cls ∈ cs_G := gw_3
theorem iw_i27 : Cond.instanceMethod (cs_inf 27).1 ∈ cs_G := gw_378
theorem iw_v27 : Cond.selects "CliqueSearch$MaximalSets" (cs_inf 27).1 (cs_inf 27).1 ∈ cs_G := List.mem_filter.mpr ⟨List.mem_append_left _ (List.mem_of_getElem? (i := 14) rfl), rfl⟩
theorem ib_28 : (cs_inf 28).2.1 = prog_1_method_10_code := rfl
theorem iw_c28 : Cond.code (cs_inf 28).1 (cs_inf 28).2.1 (cs_inf 28).2.2.1 (cs_inf 28).2.2.2 ∈ cs_G := gw_383
theorem iw_n28 : Cond.initialized (cs_inf 28).1.cls ∈ cs_G := gw_1
theorem iw_i28 : Cond.instanceMethod (cs_inf 28).1 ∈ cs_G := gw_381
theorem iw_v28 : Cond.selects "CliqueSearch" (cs_inf 28).1 (cs_inf 28).1 ∈ cs_G := gw_382
theorem ib_29 : (cs_inf 29).2.1 = prog_8_method_2_code := rfl
theorem iw_c29 : Cond.code (cs_inf 29).1 (cs_inf 29).2.1 (cs_inf 29).2.2.1 (cs_inf 29).2.2.2 ∈ cs_G := gw_387
theorem iw_n29 : Cond.initialized (cs_inf 29).1.cls ∈ cs_G := gw_4
theorem iw_i29 : Cond.instanceMethod (cs_inf 29).1 ∈ cs_G := gw_386
theorem iw_v29 : Cond.selects "CliqueSearch$SizeCounts" (cs_inf 29).1 (cs_inf 29).1 ∈ cs_G := List.mem_filter.mpr ⟨List.mem_append_left _ (List.mem_of_getElem? (i := 15) rfl), rfl⟩
theorem ib_30 : (cs_inf 30).2.1 = prog_15_method_103_code := rfl
theorem iw_c30 : Cond.code (cs_inf 30).1 (cs_inf 30).2.1 (cs_inf 30).2.2.1 (cs_inf 30).2.2.2 ∈ cs_G := gw_390
theorem iw_n30 : Cond.initialized (cs_inf 30).1.cls ∈ cs_G := gw_13
theorem iw_s30 : Cond.static (cs_inf 30).1 ∈ cs_G := gw_389
theorem ib_31 : (cs_inf 31).2.1 = prog_8_method_3_code := rfl
theorem iw_c31 : Cond.code (cs_inf 31).1 (cs_inf 31).2.1 (cs_inf 31).2.2.1 (cs_inf 31).2.2.2 ∈ cs_G := gw_394
theorem iw_n31 : Cond.initialized (cs_inf 31).1.cls ∈ cs_G := gw_4
theorem iw_s31 : Cond.static (cs_inf 31).1 ∈ cs_G := gw_393
theorem ib_32 : (cs_inf 32).2.1 = prog_5_method_13_code := rfl
theorem iw_c32 : Cond.code (cs_inf 32).1 (cs_inf 32).2.1 (cs_inf 32).2.2.1 (cs_inf 32).2.2.2 ∈ cs_G := gw_398
theorem iw_n32 : Cond.initialized (cs_inf 32).1.cls ∈ cs_G := gw_2
theorem iw_i32 : Cond.instanceMethod (cs_inf 32).1 ∈ cs_G := gw_397
theorem iw_v32 : Cond.selects "CliqueSearch$Net" (cs_inf 32).1 (cs_inf 32).1 ∈ cs_G := List.mem_filter.mpr ⟨List.mem_append_left _ (List.mem_of_getElem? (i := 16) rfl), rfl⟩
theorem ib_33 : (cs_inf 33).2.1 = prog_5_method_10_code := rfl
theorem iw_c33 : Cond.code (cs_inf 33).1 (cs_inf 33).2.1 (cs_inf 33).2.2.1 (cs_inf 33).2.2.2 ∈ cs_G := gw_402
theorem iw_n33 : Cond.initialized (cs_inf 33).1.cls ∈ cs_G := gw_2
theorem iw_i33 : Cond.instanceMethod (cs_inf 33).1 ∈ cs_G := gw_401
theorem iw_v33 : Cond.selects "CliqueSearch$Net" (cs_inf 33).1 (cs_inf 33).1 ∈ cs_G := List.mem_filter.mpr ⟨List.mem_append_left _ (List.mem_of_getElem? (i := 17) rfl), rfl⟩
theorem ib_34 : (cs_inf 34).2.1 = prog_8_method_4_code := rfl
theorem iw_c34 : Cond.code (cs_inf 34).1 (cs_inf 34).2.1 (cs_inf 34).2.2.1 (cs_inf 34).2.2.2 ∈ cs_G := gw_410
theorem iw_n34 : Cond.initialized (cs_inf 34).1.cls ∈ cs_G := gw_4
theorem iw_i34 : Cond.instanceMethod (cs_inf 34).1 ∈ cs_G := gw_409
theorem iw_v34 : Cond.selects "CliqueSearch$SizeCounts" (cs_inf 34).1 (cs_inf 34).1 ∈ cs_G := List.mem_filter.mpr ⟨List.mem_append_left _ (List.mem_of_getElem? (i := 18) rfl), rfl⟩
theorem ib_35 : (cs_inf 35).2.1 = prog_1_method_11_code := rfl
theorem iw_c35 : Cond.code (cs_inf 35).1 (cs_inf 35).2.1 (cs_inf 35).2.2.1 (cs_inf 35).2.2.2 ∈ cs_G := gw_415
theorem iw_n35 : Cond.initialized (cs_inf 35).1.cls ∈ cs_G := gw_1
theorem iw_i35 : Cond.instanceMethod (cs_inf 35).1 ∈ cs_G := gw_413
theorem iw_v35 : Cond.selects "CliqueSearch" (cs_inf 35).1 (cs_inf 35).1 ∈ cs_G := gw_414
theorem ib_36 : (cs_inf 36).2.1 = prog_3_method_5_code := rfl
theorem iw_c36 : Cond.code (cs_inf 36).1 (cs_inf 36).2.1 (cs_inf 36).2.2.1 (cs_inf 36).2.2.2 ∈ cs_G := gw_420
theorem iw_n36 : Cond.initialized (cs_inf 36).1.cls ∈ cs_G := gw_3
theorem iw_i36 : Cond.instanceMethod (cs_inf 36).1 ∈ cs_G := gw_419
theorem iw_v36 : Cond.selects "CliqueSearch$MaximalSets" (cs_inf 36).1 (cs_inf 36).1 ∈ cs_G := List.mem_filter.mpr ⟨List.mem_append_left _ (List.mem_of_getElem? (i := 19) rfl), rfl⟩
theorem ib_37 : (cs_inf 37).2.1 = prog_1_method_12_code := rfl
theorem iw_c37 : Cond.code (cs_inf 37).1 (cs_inf 37).2.1 (cs_inf 37).2.2.1 (cs_inf 37).2.2.2 ∈ cs_G := gw_424
theorem iw_n37 : Cond.initialized (cs_inf 37).1.cls ∈ cs_G := gw_1
theorem iw_i37 : Cond.instanceMethod (cs_inf 37).1 ∈ cs_G := gw_422
theorem iw_v37 : Cond.selects "CliqueSearch" (cs_inf 37).1 (cs_inf 37).1 ∈ cs_G := gw_423
theorem ib_38 : (cs_inf 38).2.1 = prog_1_method_13_code := rfl
theorem iw_c38 : Cond.code (cs_inf 38).1 (cs_inf 38).2.1 (cs_inf 38).2.2.1 (cs_inf 38).2.2.2 ∈ cs_G := gw_428
theorem iw_n38 : Cond.initialized (cs_inf 38).1.cls ∈ cs_G := gw_1
theorem iw_i38 : Cond.instanceMethod (cs_inf 38).1 ∈ cs_G := gw_426
theorem iw_v38 : Cond.selects "CliqueSearch" (cs_inf 38).1 (cs_inf 38).1 ∈ cs_G := gw_427
theorem ib_39 : (cs_inf 39).2.1 = prog_4_method_2_code := rfl
theorem iw_c39 : Cond.code (cs_inf 39).1 (cs_inf 39).2.1 (cs_inf 39).2.2.1 (cs_inf 39).2.2.2 ∈ cs_G := gw_432
theorem iw_n39 : Cond.initialized (cs_inf 39).1.cls ∈ cs_G := gw_5
theorem iw_i39 : Cond.instanceMethod (cs_inf 39).1 ∈ cs_G := gw_431
theorem iw_v39 : Cond.selects "CliqueSearch$NearSets" (cs_inf 39).1 (cs_inf 39).1 ∈ cs_G := List.mem_filter.mpr ⟨List.mem_append_left _ (List.mem_of_getElem? (i := 20) rfl), rfl⟩
theorem ib_40 : (cs_inf 40).2.1 = prog_13_method_69_code := rfl
theorem iw_c40 : Cond.code (cs_inf 40).1 (cs_inf 40).2.1 (cs_inf 40).2.2.1 (cs_inf 40).2.2.2 ∈ cs_G := gw_435
theorem iw_n40 : Cond.initialized (cs_inf 40).1.cls ∈ cs_G := gw_14
theorem iw_s40 : Cond.static (cs_inf 40).1 ∈ cs_G := gw_434
theorem ib_41 : (cs_inf 41).2.1 = prog_13_method_65_code := rfl
theorem iw_c41 : Cond.code (cs_inf 41).1 (cs_inf 41).2.1 (cs_inf 41).2.2.1 (cs_inf 41).2.2.2 ∈ cs_G := gw_438
theorem iw_n41 : Cond.initialized (cs_inf 41).1.cls ∈ cs_G := gw_14
theorem iw_s41 : Cond.static (cs_inf 41).1 ∈ cs_G := gw_437
theorem ib_42 : (cs_inf 42).2.1 = prog_4_method_3_code := rfl
theorem iw_c42 : Cond.code (cs_inf 42).1 (cs_inf 42).2.1 (cs_inf 42).2.2.1 (cs_inf 42).2.2.2 ∈ cs_G := gw_442
theorem iw_n42 : Cond.initialized (cs_inf 42).1.cls ∈ cs_G := gw_5
theorem iw_i42 : Cond.instanceMethod (cs_inf 42).1 ∈ cs_G := gw_441
theorem iw_v42 : Cond.selects "CliqueSearch$NearSets" (cs_inf 42).1 (cs_inf 42).1 ∈ cs_G := List.mem_filter.mpr ⟨List.mem_append_left _ (List.mem_of_getElem? (i := 21) rfl), rfl⟩
theorem ib_43 : (cs_inf 43).2.1 = prog_5_method_17_code := rfl
theorem iw_c43 : Cond.code (cs_inf 43).1 (cs_inf 43).2.1 (cs_inf 43).2.2.1 (cs_inf 43).2.2.2 ∈ cs_G := gw_447
theorem iw_n43 : Cond.initialized (cs_inf 43).1.cls ∈ cs_G := gw_2
theorem iw_i43 : Cond.instanceMethod (cs_inf 43).1 ∈ cs_G := gw_446
theorem iw_v43 : Cond.selects "CliqueSearch$Net" (cs_inf 43).1 (cs_inf 43).1 ∈ cs_G := List.mem_filter.mpr ⟨List.mem_append_left _ (List.mem_of_getElem? (i := 22) rfl), rfl⟩
theorem ib_44 : (cs_inf 44).2.1 = prog_5_method_18_code := rfl
theorem iw_c44 : Cond.code (cs_inf 44).1 (cs_inf 44).2.1 (cs_inf 44).2.2.1 (cs_inf 44).2.2.2 ∈ cs_G := gw_451
theorem iw_n44 : Cond.initialized (cs_inf 44).1.cls ∈ cs_G := gw_2
theorem iw_s44 : Cond.static (cs_inf 44).1 ∈ cs_G := gw_450
theorem ib_45 : (cs_inf 45).2.1 = prog_4_method_4_code := rfl
theorem iw_c45 : Cond.code (cs_inf 45).1 (cs_inf 45).2.1 (cs_inf 45).2.2.1 (cs_inf 45).2.2.2 ∈ cs_G := gw_457
theorem iw_n45 : Cond.initialized (cs_inf 45).1.cls ∈ cs_G := gw_5
theorem iw_s45 : Cond.static (cs_inf 45).1 ∈ cs_G := gw_456
theorem ib_46 : (cs_inf 46).2.1 = prog_4_method_5_code := rfl
theorem iw_c46 : Cond.code (cs_inf 46).1 (cs_inf 46).2.1 (cs_inf 46).2.2.1 (cs_inf 46).2.2.2 ∈ cs_G := gw_462
theorem iw_n46 : Cond.initialized (cs_inf 46).1.cls ∈ cs_G := gw_5
theorem iw_i46 : Cond.instanceMethod (cs_inf 46).1 ∈ cs_G := gw_461
theorem iw_v46 : Cond.selects "CliqueSearch$NearSets" (cs_inf 46).1 (cs_inf 46).1 ∈ cs_G := List.mem_filter.mpr ⟨List.mem_append_left _ (List.mem_of_getElem? (i := 23) rfl), rfl⟩
theorem ib_47 : (cs_inf 47).2.1 = prog_4_method_6_code := rfl
theorem iw_c47 : Cond.code (cs_inf 47).1 (cs_inf 47).2.1 (cs_inf 47).2.2.1 (cs_inf 47).2.2.2 ∈ cs_G := gw_466
theorem iw_n47 : Cond.initialized (cs_inf 47).1.cls ∈ cs_G := gw_5
theorem iw_i47 : Cond.instanceMethod (cs_inf 47).1 ∈ cs_G := gw_465
theorem iw_v47 : Cond.selects "CliqueSearch$NearSets" (cs_inf 47).1 (cs_inf 47).1 ∈ cs_G := List.mem_filter.mpr ⟨List.mem_append_left _ (List.mem_of_getElem? (i := 24) rfl), rfl⟩
theorem ib_48 : (cs_inf 48).2.1 = prog_4_method_7_code := rfl
theorem iw_c48 : Cond.code (cs_inf 48).1 (cs_inf 48).2.1 (cs_inf 48).2.2.1 (cs_inf 48).2.2.2 ∈ cs_G := gw_471
theorem iw_n48 : Cond.initialized (cs_inf 48).1.cls ∈ cs_G := gw_5
theorem iw_i48 : Cond.instanceMethod (cs_inf 48).1 ∈ cs_G := gw_470
theorem iw_v48 : Cond.selects "CliqueSearch$NearSets" (cs_inf 48).1 (cs_inf 48).1 ∈ cs_G := List.mem_filter.mpr ⟨List.mem_append_left _ (List.mem_of_getElem? (i := 25) rfl), rfl⟩
theorem ib_49 : (cs_inf 49).2.1 = prog_1_method_14_code := rfl
theorem iw_c49 : Cond.code (cs_inf 49).1 (cs_inf 49).2.1 (cs_inf 49).2.2.1 (cs_inf 49).2.2.2 ∈ cs_G := gw_476
theorem iw_n49 : Cond.initialized (cs_inf 49).1.cls ∈ cs_G := gw_1
theorem iw_i49 : Cond.instanceMethod (cs_inf 49).1 ∈ cs_G := gw_474
theorem iw_v49 : Cond.selects "CliqueSearch" (cs_inf 49).1 (cs_inf 49).1 ∈ cs_G := gw_475
theorem ib_50 : (cs_inf 50).2.1 = prog_5_method_4_code := rfl
theorem iw_c50 : Cond.code (cs_inf 50).1 (cs_inf 50).2.1 (cs_inf 50).2.2.1 (cs_inf 50).2.2.2 ∈ cs_G := gw_480
theorem iw_n50 : Cond.initialized (cs_inf 50).1.cls ∈ cs_G := gw_2
theorem iw_i50 : Cond.instanceMethod (cs_inf 50).1 ∈ cs_G := gw_479
theorem iw_v50 : Cond.selects "CliqueSearch$Net" (cs_inf 50).1 (cs_inf 50).1 ∈ cs_G := List.mem_filter.mpr ⟨List.mem_append_left _ (List.mem_of_getElem? (i := 26) rfl), rfl⟩
theorem ib_51 : (cs_inf 51).2.1 = prog_1_method_15_code := rfl
theorem iw_c51 : Cond.code (cs_inf 51).1 (cs_inf 51).2.1 (cs_inf 51).2.2.1 (cs_inf 51).2.2.2 ∈ cs_G := gw_486
theorem iw_n51 : Cond.initialized (cs_inf 51).1.cls ∈ cs_G := gw_1
theorem iw_i51 : Cond.instanceMethod (cs_inf 51).1 ∈ cs_G := gw_484
theorem iw_v51 : Cond.selects "CliqueSearch" (cs_inf 51).1 (cs_inf 51).1 ∈ cs_G := gw_485
theorem ib_52 : (cs_inf 52).2.1 = prog_1_method_16_code := rfl
theorem iw_c52 : Cond.code (cs_inf 52).1 (cs_inf 52).2.1 (cs_inf 52).2.2.1 (cs_inf 52).2.2.2 ∈ cs_G := gw_490
theorem iw_n52 : Cond.initialized (cs_inf 52).1.cls ∈ cs_G := gw_1
theorem iw_i52 : Cond.instanceMethod (cs_inf 52).1 ∈ cs_G := gw_488
theorem iw_v52 : Cond.selects "CliqueSearch" (cs_inf 52).1 (cs_inf 52).1 ∈ cs_G := gw_489
theorem ib_53 : (cs_inf 53).2.1 = prog_6_method_2_code := rfl
theorem iw_c53 : Cond.code (cs_inf 53).1 (cs_inf 53).2.1 (cs_inf 53).2.2.1 (cs_inf 53).2.2.2 ∈ cs_G := gw_494
theorem iw_n53 : Cond.initialized (cs_inf 53).1.cls ∈ cs_G := gw_6
theorem iw_i53 : Cond.instanceMethod (cs_inf 53).1 ∈ cs_G := gw_493
theorem iw_v53 : Cond.selects "CliqueSearch$Peeling" (cs_inf 53).1 (cs_inf 53).1 ∈ cs_G := List.mem_filter.mpr ⟨List.mem_append_left _ (List.mem_of_getElem? (i := 27) rfl), rfl⟩
theorem ib_54 : (cs_inf 54).2.1 = prog_6_method_4_code := rfl
theorem iw_c54 : Cond.code (cs_inf 54).1 (cs_inf 54).2.1 (cs_inf 54).2.2.1 (cs_inf 54).2.2.2 ∈ cs_G := gw_498
theorem iw_n54 : Cond.initialized (cs_inf 54).1.cls ∈ cs_G := gw_6
theorem iw_i54 : Cond.instanceMethod (cs_inf 54).1 ∈ cs_G := gw_497
theorem iw_v54 : Cond.selects "CliqueSearch$Peeling" (cs_inf 54).1 (cs_inf 54).1 ∈ cs_G := List.mem_filter.mpr ⟨List.mem_append_left _ (List.mem_of_getElem? (i := 28) rfl), rfl⟩
theorem ib_55 : (cs_inf 55).2.1 = prog_1_method_17_code := rfl
theorem iw_c55 : Cond.code (cs_inf 55).1 (cs_inf 55).2.1 (cs_inf 55).2.2.1 (cs_inf 55).2.2.2 ∈ cs_G := gw_506
theorem iw_n55 : Cond.initialized (cs_inf 55).1.cls ∈ cs_G := gw_1
theorem iw_i55 : Cond.instanceMethod (cs_inf 55).1 ∈ cs_G := gw_504
theorem iw_v55 : Cond.selects "CliqueSearch" (cs_inf 55).1 (cs_inf 55).1 ∈ cs_G := gw_505
theorem ib_56 : (cs_inf 56).2.1 = prog_6_method_3_code := rfl
theorem iw_c56 : Cond.code (cs_inf 56).1 (cs_inf 56).2.1 (cs_inf 56).2.2.1 (cs_inf 56).2.2.2 ∈ cs_G := gw_510
theorem iw_n56 : Cond.initialized (cs_inf 56).1.cls ∈ cs_G := gw_6
theorem iw_i56 : Cond.instanceMethod (cs_inf 56).1 ∈ cs_G := gw_509
theorem iw_v56 : Cond.selects "CliqueSearch$Peeling" (cs_inf 56).1 (cs_inf 56).1 ∈ cs_G := List.mem_filter.mpr ⟨List.mem_append_left _ (List.mem_of_getElem? (i := 29) rfl), rfl⟩
theorem ib_57 : (cs_inf 57).2.1 = prog_1_method_18_code := rfl
theorem iw_c57 : Cond.code (cs_inf 57).1 (cs_inf 57).2.1 (cs_inf 57).2.2.1 (cs_inf 57).2.2.2 ∈ cs_G := gw_514
theorem iw_n57 : Cond.initialized (cs_inf 57).1.cls ∈ cs_G := gw_1
theorem iw_i57 : Cond.instanceMethod (cs_inf 57).1 ∈ cs_G := gw_512
theorem iw_v57 : Cond.selects "CliqueSearch" (cs_inf 57).1 (cs_inf 57).1 ∈ cs_G := gw_513
theorem ib_58 : (cs_inf 58).2.1 = prog_7_method_2_code := rfl
theorem iw_c58 : Cond.code (cs_inf 58).1 (cs_inf 58).2.1 (cs_inf 58).2.2.1 (cs_inf 58).2.2.2 ∈ cs_G := gw_519
theorem iw_n58 : Cond.initialized (cs_inf 58).1.cls ∈ cs_G := gw_7
theorem iw_i58 : Cond.instanceMethod (cs_inf 58).1 ∈ cs_G := gw_518
theorem iw_v58 : Cond.selects "CliqueSearch$Search" (cs_inf 58).1 (cs_inf 58).1 ∈ cs_G := List.mem_filter.mpr ⟨List.mem_append_left _ (List.mem_of_getElem? (i := 30) rfl), rfl⟩
theorem ib_59 : (cs_inf 59).2.1 = prog_7_method_3_code := rfl
theorem iw_c59 : Cond.code (cs_inf 59).1 (cs_inf 59).2.1 (cs_inf 59).2.2.1 (cs_inf 59).2.2.2 ∈ cs_G := gw_523
theorem iw_n59 : Cond.initialized (cs_inf 59).1.cls ∈ cs_G := gw_7
theorem iw_s59 : Cond.static (cs_inf 59).1 ∈ cs_G := gw_522
theorem ib_60 : (cs_inf 60).2.1 = prog_1_method_19_code := rfl
theorem iw_c60 : Cond.code (cs_inf 60).1 (cs_inf 60).2.1 (cs_inf 60).2.2.1 (cs_inf 60).2.2.2 ∈ cs_G := gw_531
theorem iw_n60 : Cond.initialized (cs_inf 60).1.cls ∈ cs_G := gw_1
theorem iw_i60 : Cond.instanceMethod (cs_inf 60).1 ∈ cs_G := gw_529
theorem iw_v60 : Cond.selects "CliqueSearch" (cs_inf 60).1 (cs_inf 60).1 ∈ cs_G := gw_530
theorem ib_61 : (cs_inf 61).2.1 = prog_1_method_20_code := rfl
theorem iw_c61 : Cond.code (cs_inf 61).1 (cs_inf 61).2.1 (cs_inf 61).2.2.1 (cs_inf 61).2.2.2 ∈ cs_G := gw_535
theorem iw_n61 : Cond.initialized (cs_inf 61).1.cls ∈ cs_G := gw_1
theorem iw_i61 : Cond.instanceMethod (cs_inf 61).1 ∈ cs_G := gw_533
theorem iw_v61 : Cond.selects "CliqueSearch" (cs_inf 61).1 (cs_inf 61).1 ∈ cs_G := gw_534
theorem ib_62 : (cs_inf 62).2.1 = prog_9_method_2_code := rfl
theorem iw_c62 : Cond.code (cs_inf 62).1 (cs_inf 62).2.1 (cs_inf 62).2.2.1 (cs_inf 62).2.2.2 ∈ cs_G := gw_539
theorem iw_n62 : Cond.initialized (cs_inf 62).1.cls ∈ cs_G := gw_8
theorem iw_i62 : Cond.instanceMethod (cs_inf 62).1 ∈ cs_G := gw_538
theorem iw_v62 : Cond.selects "CliqueSearch$SureCover" (cs_inf 62).1 (cs_inf 62).1 ∈ cs_G := List.mem_filter.mpr ⟨List.mem_append_left _ (List.mem_of_getElem? (i := 31) rfl), rfl⟩
theorem ib_63 : (cs_inf 63).2.1 = prog_9_method_3_code := rfl
theorem iw_c63 : Cond.code (cs_inf 63).1 (cs_inf 63).2.1 (cs_inf 63).2.2.1 (cs_inf 63).2.2.2 ∈ cs_G := gw_544
theorem iw_n63 : Cond.initialized (cs_inf 63).1.cls ∈ cs_G := gw_8
theorem iw_i63 : Cond.instanceMethod (cs_inf 63).1 ∈ cs_G := gw_543
theorem iw_v63 : Cond.selects "CliqueSearch$SureCover" (cs_inf 63).1 (cs_inf 63).1 ∈ cs_G := List.mem_filter.mpr ⟨List.mem_append_left _ (List.mem_of_getElem? (i := 32) rfl), rfl⟩
theorem ib_64 : (cs_inf 64).2.1 = prog_9_method_4_code := rfl
theorem iw_c64 : Cond.code (cs_inf 64).1 (cs_inf 64).2.1 (cs_inf 64).2.2.1 (cs_inf 64).2.2.2 ∈ cs_G := gw_548
theorem iw_n64 : Cond.initialized (cs_inf 64).1.cls ∈ cs_G := gw_8
theorem iw_i64 : Cond.instanceMethod (cs_inf 64).1 ∈ cs_G := gw_547
theorem iw_v64 : Cond.selects "CliqueSearch$SureCover" (cs_inf 64).1 (cs_inf 64).1 ∈ cs_G := List.mem_filter.mpr ⟨List.mem_append_left _ (List.mem_of_getElem? (i := 33) rfl), rfl⟩
theorem ib_65 : (cs_inf 65).2.1 = prog_9_method_5_code := rfl
theorem iw_c65 : Cond.code (cs_inf 65).1 (cs_inf 65).2.1 (cs_inf 65).2.2.1 (cs_inf 65).2.2.2 ∈ cs_G := gw_554
theorem iw_n65 : Cond.initialized (cs_inf 65).1.cls ∈ cs_G := gw_8
theorem iw_i65 : Cond.instanceMethod (cs_inf 65).1 ∈ cs_G := gw_553
theorem iw_v65 : Cond.selects "CliqueSearch$SureCover" (cs_inf 65).1 (cs_inf 65).1 ∈ cs_G := List.mem_filter.mpr ⟨List.mem_append_left _ (List.mem_of_getElem? (i := 34) rfl), rfl⟩
theorem ib_66 : (cs_inf 66).2.1 = prog_5_method_12_code := rfl
theorem iw_c66 : Cond.code (cs_inf 66).1 (cs_inf 66).2.1 (cs_inf 66).2.2.1 (cs_inf 66).2.2.2 ∈ cs_G := gw_559
theorem iw_n66 : Cond.initialized (cs_inf 66).1.cls ∈ cs_G := gw_2
theorem iw_i66 : Cond.instanceMethod (cs_inf 66).1 ∈ cs_G := gw_558
theorem iw_v66 : Cond.selects "CliqueSearch$Net" (cs_inf 66).1 (cs_inf 66).1 ∈ cs_G := List.mem_filter.mpr ⟨List.mem_append_left _ (List.mem_of_getElem? (i := 35) rfl), rfl⟩
theorem ib_67 : (cs_inf 67).2.1 = prog_1_method_21_code := rfl
theorem iw_c67 : Cond.code (cs_inf 67).1 (cs_inf 67).2.1 (cs_inf 67).2.2.1 (cs_inf 67).2.2.2 ∈ cs_G := gw_563
theorem iw_n67 : Cond.initialized (cs_inf 67).1.cls ∈ cs_G := gw_1
theorem iw_i67 : Cond.instanceMethod (cs_inf 67).1 ∈ cs_G := gw_561
theorem iw_v67 : Cond.selects "CliqueSearch" (cs_inf 67).1 (cs_inf 67).1 ∈ cs_G := gw_562
theorem ib_68 : (cs_inf 68).2.1 = prog_1_method_22_code := rfl
theorem iw_c68 : Cond.code (cs_inf 68).1 (cs_inf 68).2.1 (cs_inf 68).2.2.1 (cs_inf 68).2.2.2 ∈ cs_G := gw_567
theorem iw_n68 : Cond.initialized (cs_inf 68).1.cls ∈ cs_G := gw_1
theorem iw_i68 : Cond.instanceMethod (cs_inf 68).1 ∈ cs_G := gw_565
theorem iw_v68 : Cond.selects "CliqueSearch" (cs_inf 68).1 (cs_inf 68).1 ∈ cs_G := gw_566
theorem ib_69 : (cs_inf 69).2.1 = prog_5_method_15_code := rfl
theorem iw_c69 : Cond.code (cs_inf 69).1 (cs_inf 69).2.1 (cs_inf 69).2.2.1 (cs_inf 69).2.2.2 ∈ cs_G := gw_571
theorem iw_n69 : Cond.initialized (cs_inf 69).1.cls ∈ cs_G := gw_2
theorem iw_i69 : Cond.instanceMethod (cs_inf 69).1 ∈ cs_G := gw_570
theorem iw_v69 : Cond.selects "CliqueSearch$Net" (cs_inf 69).1 (cs_inf 69).1 ∈ cs_G := List.mem_filter.mpr ⟨List.mem_append_left _ (List.mem_of_getElem? (i := 36) rfl), rfl⟩
theorem ib_70 : (cs_inf 70).2.1 = prog_5_method_14_code := rfl
theorem iw_c70 : Cond.code (cs_inf 70).1 (cs_inf 70).2.1 (cs_inf 70).2.2.1 (cs_inf 70).2.2.2 ∈ cs_G := gw_575
theorem iw_n70 : Cond.initialized (cs_inf 70).1.cls ∈ cs_G := gw_2
theorem iw_i70 : Cond.instanceMethod (cs_inf 70).1 ∈ cs_G := gw_574
theorem iw_v70 : Cond.selects "CliqueSearch$Net" (cs_inf 70).1 (cs_inf 70).1 ∈ cs_G := List.mem_filter.mpr ⟨List.mem_append_left _ (List.mem_of_getElem? (i := 37) rfl), rfl⟩
theorem ib_71 : (cs_inf 71).2.1 = prog_1_method_23_code := rfl
theorem iw_c71 : Cond.code (cs_inf 71).1 (cs_inf 71).2.1 (cs_inf 71).2.2.1 (cs_inf 71).2.2.2 ∈ cs_G := gw_579
theorem iw_n71 : Cond.initialized (cs_inf 71).1.cls ∈ cs_G := gw_1
theorem iw_i71 : Cond.instanceMethod (cs_inf 71).1 ∈ cs_G := gw_577
theorem iw_v71 : Cond.selects "CliqueSearch" (cs_inf 71).1 (cs_inf 71).1 ∈ cs_G := gw_578
theorem ib_72 : (cs_inf 72).2.1 = prog_2_method_2_code := rfl
theorem iw_c72 : Cond.code (cs_inf 72).1 (cs_inf 72).2.1 (cs_inf 72).2.2.1 (cs_inf 72).2.2.2 ∈ cs_G := gw_583
theorem iw_n72 : Cond.initialized (cs_inf 72).1.cls ∈ cs_G := gw_9
theorem iw_i72 : Cond.instanceMethod (cs_inf 72).1 ∈ cs_G := gw_582
theorem iw_v72 : Cond.selects "CliqueSearch$Matching" (cs_inf 72).1 (cs_inf 72).1 ∈ cs_G := List.mem_filter.mpr ⟨List.mem_append_left _ (List.mem_of_getElem? (i := 38) rfl), rfl⟩
theorem ib_73 : (cs_inf 73).2.1 = prog_2_method_3_code := rfl
theorem iw_c73 : Cond.code (cs_inf 73).1 (cs_inf 73).2.1 (cs_inf 73).2.2.1 (cs_inf 73).2.2.2 ∈ cs_G := gw_588
theorem iw_n73 : Cond.initialized (cs_inf 73).1.cls ∈ cs_G := gw_9
theorem iw_i73 : Cond.instanceMethod (cs_inf 73).1 ∈ cs_G := gw_587
theorem iw_v73 : Cond.selects "CliqueSearch$Matching" (cs_inf 73).1 (cs_inf 73).1 ∈ cs_G := List.mem_filter.mpr ⟨List.mem_append_left _ (List.mem_of_getElem? (i := 39) rfl), rfl⟩
theorem ib_74 : (cs_inf 74).2.1 = prog_2_method_5_code := rfl
theorem iw_c74 : Cond.code (cs_inf 74).1 (cs_inf 74).2.1 (cs_inf 74).2.2.1 (cs_inf 74).2.2.2 ∈ cs_G := gw_592
theorem iw_n74 : Cond.initialized (cs_inf 74).1.cls ∈ cs_G := gw_9
theorem iw_i74 : Cond.instanceMethod (cs_inf 74).1 ∈ cs_G := gw_591
theorem iw_v74 : Cond.selects "CliqueSearch$Matching" (cs_inf 74).1 (cs_inf 74).1 ∈ cs_G := List.mem_filter.mpr ⟨List.mem_append_left _ (List.mem_of_getElem? (i := 40) rfl), rfl⟩
theorem ib_75 : (cs_inf 75).2.1 = prog_2_method_4_code := rfl
theorem iw_c75 : Cond.code (cs_inf 75).1 (cs_inf 75).2.1 (cs_inf 75).2.2.1 (cs_inf 75).2.2.2 ∈ cs_G := gw_597
theorem iw_n75 : Cond.initialized (cs_inf 75).1.cls ∈ cs_G := gw_9
theorem iw_i75 : Cond.instanceMethod (cs_inf 75).1 ∈ cs_G := gw_596
theorem iw_v75 : Cond.selects "CliqueSearch$Matching" (cs_inf 75).1 (cs_inf 75).1 ∈ cs_G := List.mem_filter.mpr ⟨List.mem_append_left _ (List.mem_of_getElem? (i := 41) rfl), rfl⟩
theorem ib_76 : (cs_inf 76).2.1 = prog_2_method_10_code := rfl
theorem iw_c76 : Cond.code (cs_inf 76).1 (cs_inf 76).2.1 (cs_inf 76).2.2.1 (cs_inf 76).2.2.2 ∈ cs_G := gw_601
theorem iw_n76 : Cond.initialized (cs_inf 76).1.cls ∈ cs_G := gw_9
theorem iw_s76 : Cond.static (cs_inf 76).1 ∈ cs_G := gw_600
theorem ib_77 : (cs_inf 77).2.1 = prog_2_method_6_code := rfl
theorem iw_c77 : Cond.code (cs_inf 77).1 (cs_inf 77).2.1 (cs_inf 77).2.2.1 (cs_inf 77).2.2.2 ∈ cs_G := gw_605
theorem iw_n77 : Cond.initialized (cs_inf 77).1.cls ∈ cs_G := gw_9
theorem iw_i77 : Cond.instanceMethod (cs_inf 77).1 ∈ cs_G := gw_604
theorem iw_v77 : Cond.selects "CliqueSearch$Matching" (cs_inf 77).1 (cs_inf 77).1 ∈ cs_G := List.mem_filter.mpr ⟨List.mem_append_left _ (List.mem_of_getElem? (i := 42) rfl), rfl⟩
theorem ib_78 : (cs_inf 78).2.1 = prog_2_method_7_code := rfl
theorem iw_c78 : Cond.code (cs_inf 78).1 (cs_inf 78).2.1 (cs_inf 78).2.2.1 (cs_inf 78).2.2.2 ∈ cs_G := gw_609
theorem iw_n78 : Cond.initialized (cs_inf 78).1.cls ∈ cs_G := gw_9
theorem iw_i78 : Cond.instanceMethod (cs_inf 78).1 ∈ cs_G := gw_608
theorem iw_v78 : Cond.selects "CliqueSearch$Matching" (cs_inf 78).1 (cs_inf 78).1 ∈ cs_G := List.mem_filter.mpr ⟨List.mem_append_left _ (List.mem_of_getElem? (i := 43) rfl), rfl⟩
theorem ib_79 : (cs_inf 79).2.1 = prog_2_method_8_code := rfl
theorem iw_c79 : Cond.code (cs_inf 79).1 (cs_inf 79).2.1 (cs_inf 79).2.2.1 (cs_inf 79).2.2.2 ∈ cs_G := gw_613
theorem iw_n79 : Cond.initialized (cs_inf 79).1.cls ∈ cs_G := gw_9
theorem iw_i79 : Cond.instanceMethod (cs_inf 79).1 ∈ cs_G := gw_612
theorem iw_v79 : Cond.selects "CliqueSearch$Matching" (cs_inf 79).1 (cs_inf 79).1 ∈ cs_G := List.mem_filter.mpr ⟨List.mem_append_left _ (List.mem_of_getElem? (i := 44) rfl), rfl⟩
theorem ib_80 : (cs_inf 80).2.1 = prog_2_method_9_code := rfl
theorem iw_c80 : Cond.code (cs_inf 80).1 (cs_inf 80).2.1 (cs_inf 80).2.2.1 (cs_inf 80).2.2.2 ∈ cs_G := gw_617
theorem iw_n80 : Cond.initialized (cs_inf 80).1.cls ∈ cs_G := gw_9
theorem iw_i80 : Cond.instanceMethod (cs_inf 80).1 ∈ cs_G := gw_616
theorem iw_v80 : Cond.selects "CliqueSearch$Matching" (cs_inf 80).1 (cs_inf 80).1 ∈ cs_G := List.mem_filter.mpr ⟨List.mem_append_left _ (List.mem_of_getElem? (i := 45) rfl), rfl⟩
theorem ib_81 : (cs_inf 81).2.1 = prog_1_method_24_code := rfl
theorem iw_c81 : Cond.code (cs_inf 81).1 (cs_inf 81).2.1 (cs_inf 81).2.2.1 (cs_inf 81).2.2.2 ∈ cs_G := gw_621
theorem iw_n81 : Cond.initialized (cs_inf 81).1.cls ∈ cs_G := gw_1
theorem iw_i81 : Cond.instanceMethod (cs_inf 81).1 ∈ cs_G := gw_619
theorem iw_v81 : Cond.selects "CliqueSearch" (cs_inf 81).1 (cs_inf 81).1 ∈ cs_G := gw_620
theorem ib_82 : (cs_inf 82).2.1 = prog_5_method_16_code := rfl
theorem iw_c82 : Cond.code (cs_inf 82).1 (cs_inf 82).2.1 (cs_inf 82).2.2.1 (cs_inf 82).2.2.2 ∈ cs_G := gw_627
theorem iw_n82 : Cond.initialized (cs_inf 82).1.cls ∈ cs_G := gw_2
theorem iw_i82 : Cond.instanceMethod (cs_inf 82).1 ∈ cs_G := gw_626
theorem iw_v82 : Cond.selects "CliqueSearch$Net" (cs_inf 82).1 (cs_inf 82).1 ∈ cs_G := List.mem_filter.mpr ⟨List.mem_append_left _ (List.mem_of_getElem? (i := 46) rfl), rfl⟩
theorem ib_83 : (cs_inf 83).2.1 = prog_11_method_7_code := rfl
theorem iw_c83 : Cond.code (cs_inf 83).1 (cs_inf 83).2.1 (cs_inf 83).2.2.1 (cs_inf 83).2.2.2 ∈ cs_G := gw_695
theorem iw_n83 : Cond.initialized (cs_inf 83).1.cls ∈ cs_G := gw_10
theorem iw_i83 : Cond.instanceMethod (cs_inf 83).1 ∈ cs_G := gw_693
theorem iw_v83 : Cond.selects "CliqueSearchModel" (cs_inf 83).1 (cs_inf 83).1 ∈ cs_G := gw_694
theorem ib_84 : (cs_inf 84).2.1 = prog_11_method_2_code := rfl
theorem iw_c84 : Cond.code (cs_inf 84).1 (cs_inf 84).2.1 (cs_inf 84).2.2.1 (cs_inf 84).2.2.2 ∈ cs_G := gw_698
theorem iw_n84 : Cond.initialized (cs_inf 84).1.cls ∈ cs_G := gw_10
theorem iw_s84 : Cond.static (cs_inf 84).1 ∈ cs_G := gw_697
theorem ib_85 : (cs_inf 85).2.1 = prog_11_method_8_code := rfl
theorem iw_c85 : Cond.code (cs_inf 85).1 (cs_inf 85).2.1 (cs_inf 85).2.2.1 (cs_inf 85).2.2.2 ∈ cs_G := gw_702
theorem iw_n85 : Cond.initialized (cs_inf 85).1.cls ∈ cs_G := gw_10
theorem iw_i85 : Cond.instanceMethod (cs_inf 85).1 ∈ cs_G := gw_700
theorem iw_v85 : Cond.selects "CliqueSearchModel" (cs_inf 85).1 (cs_inf 85).1 ∈ cs_G := gw_701
theorem ib_86 : (cs_inf 86).2.1 = prog_11_method_4_code := rfl
theorem iw_c86 : Cond.code (cs_inf 86).1 (cs_inf 86).2.1 (cs_inf 86).2.2.1 (cs_inf 86).2.2.2 ∈ cs_G := gw_706
theorem iw_n86 : Cond.initialized (cs_inf 86).1.cls ∈ cs_G := gw_10
theorem iw_i86 : Cond.instanceMethod (cs_inf 86).1 ∈ cs_G := gw_705
theorem iw_v86 : Cond.selects "CliqueSearchModel" (cs_inf 86).1 (cs_inf 86).1 ∈ cs_G := List.mem_filter.mpr ⟨List.mem_append_left _ (List.mem_of_getElem? (i := 47) rfl), rfl⟩
theorem ib_87 : (cs_inf 87).2.1 = prog_11_method_9_code := rfl
theorem iw_c87 : Cond.code (cs_inf 87).1 (cs_inf 87).2.1 (cs_inf 87).2.2.1 (cs_inf 87).2.2.2 ∈ cs_G := gw_710
theorem iw_n87 : Cond.initialized (cs_inf 87).1.cls ∈ cs_G := gw_10
theorem iw_i87 : Cond.instanceMethod (cs_inf 87).1 ∈ cs_G := gw_708
theorem iw_v87 : Cond.selects "CliqueSearchModel" (cs_inf 87).1 (cs_inf 87).1 ∈ cs_G := gw_709
theorem ib_88 : (cs_inf 88).2.1 = prog_11_method_10_code := rfl
theorem iw_c88 : Cond.code (cs_inf 88).1 (cs_inf 88).2.1 (cs_inf 88).2.2.1 (cs_inf 88).2.2.2 ∈ cs_G := gw_714
theorem iw_n88 : Cond.initialized (cs_inf 88).1.cls ∈ cs_G := gw_10
theorem iw_i88 : Cond.instanceMethod (cs_inf 88).1 ∈ cs_G := gw_712
theorem iw_v88 : Cond.selects "CliqueSearchModel" (cs_inf 88).1 (cs_inf 88).1 ∈ cs_G := gw_713
theorem ib_89 : (cs_inf 89).2.1 = prog_11_method_17_code := rfl
theorem iw_c89 : Cond.code (cs_inf 89).1 (cs_inf 89).2.1 (cs_inf 89).2.2.1 (cs_inf 89).2.2.2 ∈ cs_G := gw_718
theorem iw_n89 : Cond.initialized (cs_inf 89).1.cls ∈ cs_G := gw_10
theorem iw_i89 : Cond.instanceMethod (cs_inf 89).1 ∈ cs_G := gw_716
theorem iw_v89 : Cond.selects "CliqueSearchModel" (cs_inf 89).1 (cs_inf 89).1 ∈ cs_G := gw_717
theorem ib_90 : (cs_inf 90).2.1 = prog_11_method_16_code := rfl
theorem iw_c90 : Cond.code (cs_inf 90).1 (cs_inf 90).2.1 (cs_inf 90).2.2.1 (cs_inf 90).2.2.2 ∈ cs_G := gw_722
theorem iw_n90 : Cond.initialized (cs_inf 90).1.cls ∈ cs_G := gw_10
theorem iw_i90 : Cond.instanceMethod (cs_inf 90).1 ∈ cs_G := gw_721
theorem iw_v90 : Cond.selects "CliqueSearchModel" (cs_inf 90).1 (cs_inf 90).1 ∈ cs_G := List.mem_filter.mpr ⟨List.mem_append_left _ (List.mem_of_getElem? (i := 48) rfl), rfl⟩
theorem ib_91 : (cs_inf 91).2.1 = prog_11_method_5_code := rfl
theorem iw_c91 : Cond.code (cs_inf 91).1 (cs_inf 91).2.1 (cs_inf 91).2.2.1 (cs_inf 91).2.2.2 ∈ cs_G := gw_726
theorem iw_n91 : Cond.initialized (cs_inf 91).1.cls ∈ cs_G := gw_10
theorem iw_i91 : Cond.instanceMethod (cs_inf 91).1 ∈ cs_G := gw_725
theorem iw_v91 : Cond.selects "CliqueSearchModel" (cs_inf 91).1 (cs_inf 91).1 ∈ cs_G := List.mem_filter.mpr ⟨List.mem_append_left _ (List.mem_of_getElem? (i := 49) rfl), rfl⟩
theorem ib_92 : (cs_inf 92).2.1 = prog_11_method_15_code := rfl
theorem iw_c92 : Cond.code (cs_inf 92).1 (cs_inf 92).2.1 (cs_inf 92).2.2.1 (cs_inf 92).2.2.2 ∈ cs_G := gw_730
theorem iw_n92 : Cond.initialized (cs_inf 92).1.cls ∈ cs_G := gw_10
theorem iw_i92 : Cond.instanceMethod (cs_inf 92).1 ∈ cs_G := gw_729
theorem iw_v92 : Cond.selects "CliqueSearchModel" (cs_inf 92).1 (cs_inf 92).1 ∈ cs_G := List.mem_filter.mpr ⟨List.mem_append_left _ (List.mem_of_getElem? (i := 50) rfl), rfl⟩
theorem ib_93 : (cs_inf 93).2.1 = prog_11_method_6_code := rfl
theorem iw_c93 : Cond.code (cs_inf 93).1 (cs_inf 93).2.1 (cs_inf 93).2.2.1 (cs_inf 93).2.2.2 ∈ cs_G := gw_733
theorem iw_n93 : Cond.initialized (cs_inf 93).1.cls ∈ cs_G := gw_10
theorem iw_s93 : Cond.static (cs_inf 93).1 ∈ cs_G := gw_732
theorem ib_94 : (cs_inf 94).2.1 = prog_11_method_11_code := rfl
theorem iw_c94 : Cond.code (cs_inf 94).1 (cs_inf 94).2.1 (cs_inf 94).2.2.1 (cs_inf 94).2.2.2 ∈ cs_G := gw_737
theorem iw_n94 : Cond.initialized (cs_inf 94).1.cls ∈ cs_G := gw_10
theorem iw_s94 : Cond.static (cs_inf 94).1 ∈ cs_G := gw_736
theorem ib_95 : (cs_inf 95).2.1 = prog_11_method_12_code := rfl
theorem iw_c95 : Cond.code (cs_inf 95).1 (cs_inf 95).2.1 (cs_inf 95).2.2.1 (cs_inf 95).2.2.2 ∈ cs_G := gw_741
theorem iw_n95 : Cond.initialized (cs_inf 95).1.cls ∈ cs_G := gw_10
theorem iw_i95 : Cond.instanceMethod (cs_inf 95).1 ∈ cs_G := gw_740
theorem iw_v95 : Cond.selects "CliqueSearchModel" (cs_inf 95).1 (cs_inf 95).1 ∈ cs_G := List.mem_filter.mpr ⟨List.mem_append_left _ (List.mem_of_getElem? (i := 51) rfl), rfl⟩
theorem ib_96 : (cs_inf 96).2.1 = prog_11_method_13_code := rfl
theorem iw_c96 : Cond.code (cs_inf 96).1 (cs_inf 96).2.1 (cs_inf 96).2.2.1 (cs_inf 96).2.2.2 ∈ cs_G := gw_745
theorem iw_n96 : Cond.initialized (cs_inf 96).1.cls ∈ cs_G := gw_10
theorem iw_i96 : Cond.instanceMethod (cs_inf 96).1 ∈ cs_G := gw_744
theorem iw_v96 : Cond.selects "CliqueSearchModel" (cs_inf 96).1 (cs_inf 96).1 ∈ cs_G := List.mem_filter.mpr ⟨List.mem_append_left _ (List.mem_of_getElem? (i := 52) rfl), rfl⟩
theorem ib_97 : (cs_inf 97).2.1 = prog_11_method_14_code := rfl
theorem iw_c97 : Cond.code (cs_inf 97).1 (cs_inf 97).2.1 (cs_inf 97).2.2.1 (cs_inf 97).2.2.2 ∈ cs_G := gw_749
theorem iw_n97 : Cond.initialized (cs_inf 97).1.cls ∈ cs_G := gw_10
theorem iw_i97 : Cond.instanceMethod (cs_inf 97).1 ∈ cs_G := gw_748
theorem iw_v97 : Cond.selects "CliqueSearchModel" (cs_inf 97).1 (cs_inf 97).1 ∈ cs_G := List.mem_filter.mpr ⟨List.mem_append_left _ (List.mem_of_getElem? (i := 53) rfl), rfl⟩
theorem ib_98 : (cs_inf 98).2.1 = prog_11_method_18_code := rfl
theorem iw_c98 : Cond.code (cs_inf 98).1 (cs_inf 98).2.1 (cs_inf 98).2.2.1 (cs_inf 98).2.2.2 ∈ cs_G := gw_753
theorem iw_n98 : Cond.initialized (cs_inf 98).1.cls ∈ cs_G := gw_10
theorem iw_i98 : Cond.instanceMethod (cs_inf 98).1 ∈ cs_G := gw_751
theorem iw_v98 : Cond.selects "CliqueSearchModel" (cs_inf 98).1 (cs_inf 98).1 ∈ cs_G := gw_752
theorem ib_99 : (cs_inf 99).2.1 = prog_11_method_20_code := rfl
theorem iw_c99 : Cond.code (cs_inf 99).1 (cs_inf 99).2.1 (cs_inf 99).2.2.1 (cs_inf 99).2.2.2 ∈ cs_G := gw_757
theorem iw_n99 : Cond.initialized (cs_inf 99).1.cls ∈ cs_G := gw_10
theorem iw_i99 : Cond.instanceMethod (cs_inf 99).1 ∈ cs_G := gw_755
theorem iw_v99 : Cond.selects "CliqueSearchModel" (cs_inf 99).1 (cs_inf 99).1 ∈ cs_G := gw_756
theorem ib_100 : (cs_inf 100).2.1 = prog_11_method_19_code := rfl
theorem iw_c100 : Cond.code (cs_inf 100).1 (cs_inf 100).2.1 (cs_inf 100).2.2.1 (cs_inf 100).2.2.2 ∈ cs_G := gw_761
theorem iw_n100 : Cond.initialized (cs_inf 100).1.cls ∈ cs_G := gw_10
theorem iw_i100 : Cond.instanceMethod (cs_inf 100).1 ∈ cs_G := gw_760
theorem iw_v100 : Cond.selects "CliqueSearchModel" (cs_inf 100).1 (cs_inf 100).1 ∈ cs_G := List.mem_filter.mpr ⟨List.mem_append_left _ (List.mem_of_getElem? (i := 54) rfl), rfl⟩
theorem ib_101 : (cs_inf 101).2.1 = prog_11_method_21_code := rfl
theorem iw_c101 : Cond.code (cs_inf 101).1 (cs_inf 101).2.1 (cs_inf 101).2.2.1 (cs_inf 101).2.2.2 ∈ cs_G := gw_765
theorem iw_n101 : Cond.initialized (cs_inf 101).1.cls ∈ cs_G := gw_10
theorem iw_i101 : Cond.instanceMethod (cs_inf 101).1 ∈ cs_G := gw_763
theorem iw_v101 : Cond.selects "CliqueSearchModel" (cs_inf 101).1 (cs_inf 101).1 ∈ cs_G := gw_764
theorem ib_102 : (cs_inf 102).2.1 = prog_11_method_22_code := rfl
theorem iw_c102 : Cond.code (cs_inf 102).1 (cs_inf 102).2.1 (cs_inf 102).2.2.1 (cs_inf 102).2.2.2 ∈ cs_G := gw_769
theorem iw_n102 : Cond.initialized (cs_inf 102).1.cls ∈ cs_G := gw_10
theorem iw_i102 : Cond.instanceMethod (cs_inf 102).1 ∈ cs_G := gw_767
theorem iw_v102 : Cond.selects "CliqueSearchModel" (cs_inf 102).1 (cs_inf 102).1 ∈ cs_G := gw_768
theorem ib_103 : (cs_inf 103).2.1 = prog_11_method_23_code := rfl
theorem iw_c103 : Cond.code (cs_inf 103).1 (cs_inf 103).2.1 (cs_inf 103).2.2.1 (cs_inf 103).2.2.2 ∈ cs_G := gw_773
theorem iw_n103 : Cond.initialized (cs_inf 103).1.cls ∈ cs_G := gw_10
theorem iw_i103 : Cond.instanceMethod (cs_inf 103).1 ∈ cs_G := gw_771
theorem iw_v103 : Cond.selects "CliqueSearchModel" (cs_inf 103).1 (cs_inf 103).1 ∈ cs_G := gw_772
theorem ib_104 : (cs_inf 104).2.1 = prog_11_method_24_code := rfl
theorem iw_c104 : Cond.code (cs_inf 104).1 (cs_inf 104).2.1 (cs_inf 104).2.2.1 (cs_inf 104).2.2.2 ∈ cs_G := gw_777
theorem iw_n104 : Cond.initialized (cs_inf 104).1.cls ∈ cs_G := gw_10
theorem iw_i104 : Cond.instanceMethod (cs_inf 104).1 ∈ cs_G := gw_775
theorem iw_v104 : Cond.selects "CliqueSearchModel" (cs_inf 104).1 (cs_inf 104).1 ∈ cs_G := gw_776
theorem ib_105 : (cs_inf 105).2.1 = prog_11_method_25_code := rfl
theorem iw_c105 : Cond.code (cs_inf 105).1 (cs_inf 105).2.1 (cs_inf 105).2.2.1 (cs_inf 105).2.2.2 ∈ cs_G := gw_781
theorem iw_n105 : Cond.initialized (cs_inf 105).1.cls ∈ cs_G := gw_10
theorem iw_i105 : Cond.instanceMethod (cs_inf 105).1 ∈ cs_G := gw_779
theorem iw_v105 : Cond.selects "CliqueSearchModel" (cs_inf 105).1 (cs_inf 105).1 ∈ cs_G := gw_780
theorem ib_106 : (cs_inf 106).2.1 = prog_11_method_27_code := rfl
theorem iw_c106 : Cond.code (cs_inf 106).1 (cs_inf 106).2.1 (cs_inf 106).2.2.1 (cs_inf 106).2.2.2 ∈ cs_G := gw_785
theorem iw_n106 : Cond.initialized (cs_inf 106).1.cls ∈ cs_G := gw_10
theorem iw_i106 : Cond.instanceMethod (cs_inf 106).1 ∈ cs_G := gw_783
theorem iw_v106 : Cond.selects "CliqueSearchModel" (cs_inf 106).1 (cs_inf 106).1 ∈ cs_G := gw_784
theorem ib_107 : (cs_inf 107).2.1 = prog_11_method_26_code := rfl
theorem iw_c107 : Cond.code (cs_inf 107).1 (cs_inf 107).2.1 (cs_inf 107).2.2.1 (cs_inf 107).2.2.2 ∈ cs_G := gw_789
theorem iw_n107 : Cond.initialized (cs_inf 107).1.cls ∈ cs_G := gw_10
theorem iw_i107 : Cond.instanceMethod (cs_inf 107).1 ∈ cs_G := gw_788
theorem iw_v107 : Cond.selects "CliqueSearchModel" (cs_inf 107).1 (cs_inf 107).1 ∈ cs_G := List.mem_filter.mpr ⟨List.mem_append_left _ (List.mem_of_getElem? (i := 55) rfl), rfl⟩
theorem ib_108 : (cs_inf 108).2.1 = prog_11_method_28_code := rfl
theorem iw_c108 : Cond.code (cs_inf 108).1 (cs_inf 108).2.1 (cs_inf 108).2.2.1 (cs_inf 108).2.2.2 ∈ cs_G := gw_793
theorem iw_n108 : Cond.initialized (cs_inf 108).1.cls ∈ cs_G := gw_10
theorem iw_i108 : Cond.instanceMethod (cs_inf 108).1 ∈ cs_G := gw_791
theorem iw_v108 : Cond.selects "CliqueSearchModel" (cs_inf 108).1 (cs_inf 108).1 ∈ cs_G := gw_792
theorem ib_109 : (cs_inf 109).2.1 = prog_11_method_30_code := rfl
theorem iw_c109 : Cond.code (cs_inf 109).1 (cs_inf 109).2.1 (cs_inf 109).2.2.1 (cs_inf 109).2.2.2 ∈ cs_G := gw_797
theorem iw_n109 : Cond.initialized (cs_inf 109).1.cls ∈ cs_G := gw_10
theorem iw_i109 : Cond.instanceMethod (cs_inf 109).1 ∈ cs_G := gw_795
theorem iw_v109 : Cond.selects "CliqueSearchModel" (cs_inf 109).1 (cs_inf 109).1 ∈ cs_G := gw_796
theorem ib_110 : (cs_inf 110).2.1 = prog_11_method_29_code := rfl
theorem iw_c110 : Cond.code (cs_inf 110).1 (cs_inf 110).2.1 (cs_inf 110).2.2.1 (cs_inf 110).2.2.2 ∈ cs_G := gw_801
theorem iw_n110 : Cond.initialized (cs_inf 110).1.cls ∈ cs_G := gw_10
theorem iw_i110 : Cond.instanceMethod (cs_inf 110).1 ∈ cs_G := gw_800
theorem iw_v110 : Cond.selects "CliqueSearchModel" (cs_inf 110).1 (cs_inf 110).1 ∈ cs_G := List.mem_filter.mpr ⟨List.mem_append_left _ (List.mem_of_getElem? (i := 56) rfl), rfl⟩
theorem ib_111 : (cs_inf 111).2.1 = prog_11_method_31_code := rfl
theorem iw_c111 : Cond.code (cs_inf 111).1 (cs_inf 111).2.1 (cs_inf 111).2.2.1 (cs_inf 111).2.2.2 ∈ cs_G := gw_805
theorem iw_n111 : Cond.initialized (cs_inf 111).1.cls ∈ cs_G := gw_10
theorem iw_i111 : Cond.instanceMethod (cs_inf 111).1 ∈ cs_G := gw_803
theorem iw_v111 : Cond.selects "CliqueSearchModel" (cs_inf 111).1 (cs_inf 111).1 ∈ cs_G := gw_804
theorem ib_112 : (cs_inf 112).2.1 = prog_11_method_33_code := rfl
theorem iw_c112 : Cond.code (cs_inf 112).1 (cs_inf 112).2.1 (cs_inf 112).2.2.1 (cs_inf 112).2.2.2 ∈ cs_G := gw_809
theorem iw_n112 : Cond.initialized (cs_inf 112).1.cls ∈ cs_G := gw_10
theorem iw_i112 : Cond.instanceMethod (cs_inf 112).1 ∈ cs_G := gw_807
theorem iw_v112 : Cond.selects "CliqueSearchModel" (cs_inf 112).1 (cs_inf 112).1 ∈ cs_G := gw_808
theorem ib_113 : (cs_inf 113).2.1 = prog_11_method_32_code := rfl
theorem iw_c113 : Cond.code (cs_inf 113).1 (cs_inf 113).2.1 (cs_inf 113).2.2.1 (cs_inf 113).2.2.2 ∈ cs_G := gw_813
theorem iw_n113 : Cond.initialized (cs_inf 113).1.cls ∈ cs_G := gw_10
theorem iw_s113 : Cond.static (cs_inf 113).1 ∈ cs_G := gw_812
theorem ib_114 : (cs_inf 114).2.1 = prog_11_method_34_code := rfl
theorem iw_c114 : Cond.code (cs_inf 114).1 (cs_inf 114).2.1 (cs_inf 114).2.2.1 (cs_inf 114).2.2.2 ∈ cs_G := gw_818
theorem iw_n114 : Cond.initialized (cs_inf 114).1.cls ∈ cs_G := gw_10
theorem iw_i114 : Cond.instanceMethod (cs_inf 114).1 ∈ cs_G := gw_816
theorem iw_v114 : Cond.selects "CliqueSearchModel" (cs_inf 114).1 (cs_inf 114).1 ∈ cs_G := gw_817
theorem ib_115 : (cs_inf 115).2.1 = prog_11_method_37_code := rfl
theorem iw_c115 : Cond.code (cs_inf 115).1 (cs_inf 115).2.1 (cs_inf 115).2.2.1 (cs_inf 115).2.2.2 ∈ cs_G := gw_822
theorem iw_n115 : Cond.initialized (cs_inf 115).1.cls ∈ cs_G := gw_10
theorem iw_i115 : Cond.instanceMethod (cs_inf 115).1 ∈ cs_G := gw_820
theorem iw_v115 : Cond.selects "CliqueSearchModel" (cs_inf 115).1 (cs_inf 115).1 ∈ cs_G := gw_821
theorem ib_116 : (cs_inf 116).2.1 = prog_11_method_36_code := rfl
theorem iw_c116 : Cond.code (cs_inf 116).1 (cs_inf 116).2.1 (cs_inf 116).2.2.1 (cs_inf 116).2.2.2 ∈ cs_G := gw_826
theorem iw_n116 : Cond.initialized (cs_inf 116).1.cls ∈ cs_G := gw_10
theorem iw_i116 : Cond.instanceMethod (cs_inf 116).1 ∈ cs_G := gw_825
theorem iw_v116 : Cond.selects "CliqueSearchModel" (cs_inf 116).1 (cs_inf 116).1 ∈ cs_G := List.mem_filter.mpr ⟨List.mem_append_left _ (List.mem_of_getElem? (i := 57) rfl), rfl⟩
theorem ib_117 : (cs_inf 117).2.1 = prog_12_method_48_code := rfl
theorem iw_c117 : Cond.code (cs_inf 117).1 (cs_inf 117).2.1 (cs_inf 117).2.2.1 (cs_inf 117).2.2.2 ∈ cs_G := gw_829
theorem iw_n117 : Cond.initialized (cs_inf 117).1.cls ∈ cs_G := gw_12
theorem iw_s117 : Cond.static (cs_inf 117).1 ∈ cs_G := gw_828
theorem ib_118 : (cs_inf 118).2.1 = prog_11_method_35_code := rfl
theorem iw_c118 : Cond.code (cs_inf 118).1 (cs_inf 118).2.1 (cs_inf 118).2.2.1 (cs_inf 118).2.2.2 ∈ cs_G := gw_834
theorem iw_n118 : Cond.initialized (cs_inf 118).1.cls ∈ cs_G := gw_10
theorem iw_i118 : Cond.instanceMethod (cs_inf 118).1 ∈ cs_G := gw_833
theorem iw_v118 : Cond.selects "CliqueSearchModel" (cs_inf 118).1 (cs_inf 118).1 ∈ cs_G := List.mem_filter.mpr ⟨List.mem_append_left _ (List.mem_of_getElem? (i := 58) rfl), rfl⟩
theorem ib_119 : (cs_inf 119).2.1 = prog_11_method_38_code := rfl
theorem iw_c119 : Cond.code (cs_inf 119).1 (cs_inf 119).2.1 (cs_inf 119).2.2.1 (cs_inf 119).2.2.2 ∈ cs_G := gw_838
theorem iw_n119 : Cond.initialized (cs_inf 119).1.cls ∈ cs_G := gw_10
theorem iw_i119 : Cond.instanceMethod (cs_inf 119).1 ∈ cs_G := gw_836
theorem iw_v119 : Cond.selects "CliqueSearchModel" (cs_inf 119).1 (cs_inf 119).1 ∈ cs_G := gw_837
theorem ib_120 : (cs_inf 120).2.1 = prog_11_method_40_code := rfl
theorem iw_c120 : Cond.code (cs_inf 120).1 (cs_inf 120).2.1 (cs_inf 120).2.2.1 (cs_inf 120).2.2.2 ∈ cs_G := gw_842
theorem iw_n120 : Cond.initialized (cs_inf 120).1.cls ∈ cs_G := gw_10
theorem iw_i120 : Cond.instanceMethod (cs_inf 120).1 ∈ cs_G := gw_840
theorem iw_v120 : Cond.selects "CliqueSearchModel" (cs_inf 120).1 (cs_inf 120).1 ∈ cs_G := gw_841
theorem ib_121 : (cs_inf 121).2.1 = prog_11_method_39_code := rfl
theorem iw_c121 : Cond.code (cs_inf 121).1 (cs_inf 121).2.1 (cs_inf 121).2.2.1 (cs_inf 121).2.2.2 ∈ cs_G := gw_846
theorem iw_n121 : Cond.initialized (cs_inf 121).1.cls ∈ cs_G := gw_10
theorem iw_i121 : Cond.instanceMethod (cs_inf 121).1 ∈ cs_G := gw_845
theorem iw_v121 : Cond.selects "CliqueSearchModel" (cs_inf 121).1 (cs_inf 121).1 ∈ cs_G := List.mem_filter.mpr ⟨List.mem_append_left _ (List.mem_of_getElem? (i := 59) rfl), rfl⟩
theorem ib_122 : (cs_inf 122).2.1 = prog_11_method_41_code := rfl
theorem iw_c122 : Cond.code (cs_inf 122).1 (cs_inf 122).2.1 (cs_inf 122).2.2.1 (cs_inf 122).2.2.2 ∈ cs_G := gw_850
theorem iw_n122 : Cond.initialized (cs_inf 122).1.cls ∈ cs_G := gw_10
theorem iw_i122 : Cond.instanceMethod (cs_inf 122).1 ∈ cs_G := gw_848
theorem iw_v122 : Cond.selects "CliqueSearchModel" (cs_inf 122).1 (cs_inf 122).1 ∈ cs_G := gw_849
theorem ib_123 : (cs_inf 123).2.1 = prog_11_method_42_code := rfl
theorem iw_c123 : Cond.code (cs_inf 123).1 (cs_inf 123).2.1 (cs_inf 123).2.2.1 (cs_inf 123).2.2.2 ∈ cs_G := gw_854
theorem iw_n123 : Cond.initialized (cs_inf 123).1.cls ∈ cs_G := gw_10
theorem iw_i123 : Cond.instanceMethod (cs_inf 123).1 ∈ cs_G := gw_852
theorem iw_v123 : Cond.selects "CliqueSearchModel" (cs_inf 123).1 (cs_inf 123).1 ∈ cs_G := gw_853

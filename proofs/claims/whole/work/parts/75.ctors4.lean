theorem k_df0 : ∀ j, j < 10 → defaultValue (cs_ty0 j) = vp_V [.null, .null, .null, .null, .null, .null, .null, .null, .null, .null] j := fun j hj => by
  match j, hj with
  | 0, _ => rfl
  | 1, _ => rfl
  | 2, _ => rfl
  | 3, _ => rfl
  | 4, _ => rfl
  | 5, _ => rfl
  | 6, _ => rfl
  | 7, _ => rfl
  | 8, _ => rfl
  | 9, _ => rfl
  | n + 10, hj => omega
theorem k_df1 : ∀ j, j < 4 → defaultValue (cs_ty1 j) = vp_V [.int 0, .int 0, .null, .null] j := fun j hj => by
  match j, hj with
  | 0, _ => rfl
  | 1, _ => rfl
  | 2, _ => rfl
  | 3, _ => rfl
  | n + 4, hj => omega
theorem k_df2 : ∀ j, j < 6 → defaultValue (cs_ty2 j) = vp_V [.null, .int 0, .null, .null, .int 0, .int 0] j := fun j hj => by
  match j, hj with
  | 0, _ => rfl
  | 1, _ => rfl
  | 2, _ => rfl
  | 3, _ => rfl
  | 4, _ => rfl
  | 5, _ => rfl
  | n + 6, hj => omega
theorem k_df3 : ∀ j, j < 3 → defaultValue (cs_ty3 j) = vp_V [.null, .null, .int 0] j := fun j hj => by
  match j, hj with
  | 0, _ => rfl
  | 1, _ => rfl
  | 2, _ => rfl
  | n + 3, hj => omega
theorem k_df4 : ∀ j, j < 6 → defaultValue (cs_ty4 j) = vp_V [.null, .null, .null, .int 0, .int 0, .int 0] j := fun j hj => by
  match j, hj with
  | 0, _ => rfl
  | 1, _ => rfl
  | 2, _ => rfl
  | 3, _ => rfl
  | 4, _ => rfl
  | 5, _ => rfl
  | n + 6, hj => omega
theorem k_df5 : ∀ j, j < 4 → defaultValue (cs_ty5 j) = vp_V [.null, .null, .null, .int 0] j := fun j hj => by
  match j, hj with
  | 0, _ => rfl
  | 1, _ => rfl
  | 2, _ => rfl
  | 3, _ => rfl
  | n + 4, hj => omega
theorem k_df6 : ∀ j, j < 9 → defaultValue (cs_ty6 j) = vp_V [.null, .null, .int 0, .int 0, .int 0, .int 0, .int 0, .int 0, .int 0] j := fun j hj => by
  match j, hj with
  | 0, _ => rfl
  | 1, _ => rfl
  | 2, _ => rfl
  | 3, _ => rfl
  | 4, _ => rfl
  | 5, _ => rfl
  | 6, _ => rfl
  | 7, _ => rfl
  | 8, _ => rfl
  | n + 9, hj => omega
theorem k_df7 : ∀ j, j < 6 → defaultValue (cs_ty7 j) = vp_V [.null, .int 0, .int 0, .int 0, .int 0, .int 0] j := fun j hj => by
  match j, hj with
  | 0, _ => rfl
  | 1, _ => rfl
  | 2, _ => rfl
  | 3, _ => rfl
  | 4, _ => rfl
  | 5, _ => rfl
  | n + 6, hj => omega
theorem k_df8 : ∀ j, j < 7 → defaultValue (cs_ty8 j) = vp_V [.null, .null, .null, .null, .null, .int 0, .int 0] j := fun j hj => by
  match j, hj with
  | 0, _ => rfl
  | 1, _ => rfl
  | 2, _ => rfl
  | 3, _ => rfl
  | 4, _ => rfl
  | 5, _ => rfl
  | 6, _ => rfl
  | n + 7, hj => omega
theorem k_df9 : ∀ j, j < 18 → defaultValue (cs_ty9 j) = vp_V [.int 0, .int 0, .null, .null, .null, .null, .null, .null, .int 0, .int 0, .int 0, .int 0, .int 0, .int 0, .int 0, .int 0, .int 0, .null] j := fun j hj => by
  match j, hj with
  | 0, _ => rfl
  | 1, _ => rfl
  | 2, _ => rfl
  | 3, _ => rfl
  | 4, _ => rfl
  | 5, _ => rfl
  | 6, _ => rfl
  | 7, _ => rfl
  | 8, _ => rfl
  | 9, _ => rfl
  | 10, _ => rfl
  | 11, _ => rfl
  | 12, _ => rfl
  | 13, _ => rfl
  | 14, _ => rfl
  | 15, _ => rfl
  | 16, _ => rfl
  | 17, _ => rfl
  | n + 18, hj => omega
theorem wk_NearSets_ext {cA : Nat → ClassId} {h0 n0 : Nat} {u u' : Nat → Nat} (h : ∀ k, k < 19 → u k = u' k) : wk_NearSets cA h0 n0 u = wk_NearSets cA h0 n0 u' := by
  have hf : (fun i => if i < 17 then some (u (1 + i)) else none) = (fun i => if i < 17 then some (u' (1 + i)) else none) := funext fun i => by
    by_cases hi : i < 17
    · rw [if_pos hi, if_pos hi, h (1 + i) (by omega)]
    · rw [if_neg hi, if_neg hi]
  unfold wk_NearSets
  rw [hf, h 0 (by decide), h 1 (by decide), h 2 (by decide), h 3 (by decide), h 4 (by decide), h 5 (by decide), h 6 (by decide), h 7 (by decide), h 8 (by decide), h 9 (by decide), h 10 (by decide), h 11 (by decide), h 12 (by decide), h 13 (by decide), h 14 (by decide), h 15 (by decide), h 16 (by decide), h 17 (by decide), h 18 (by decide)]
theorem wk_Search_ext {cA : Nat → ClassId} {h0 n0 : Nat} {u u' : Nat → Nat} (h : ∀ k, k < 18 → u k = u' k) : wk_Search cA h0 n0 u = wk_Search cA h0 n0 u' := by
  have hf : (fun i => if i < 17 then some (u (1 + i)) else none) = (fun i => if i < 17 then some (u' (1 + i)) else none) := funext fun i => by
    by_cases hi : i < 17
    · rw [if_pos hi, if_pos hi, h (1 + i) (by omega)]
    · rw [if_neg hi, if_neg hi]
  unfold wk_Search
  rw [hf, h 0 (by decide), h 1 (by decide), h 2 (by decide), h 3 (by decide), h 4 (by decide), h 5 (by decide), h 6 (by decide), h 7 (by decide), h 8 (by decide), h 9 (by decide), h 10 (by decide), h 11 (by decide), h 12 (by decide), h 13 (by decide), h 14 (by decide), h 15 (by decide), h 16 (by decide), h 17 (by decide)]
theorem dk_CS_0 : decode prog_1_method_1_code 0 = .ok (.aload_n 0, 1) := by decide +kernel
theorem dk_CS_1 : decode prog_1_method_1_code 1 = .ok (.invokespecial 1, 3) := by decide +kernel
theorem dk_CS_4 : decode prog_1_method_1_code 4 = .ok (.aload_n 0, 1) := by decide +kernel
theorem dk_CS_5 : decode prog_1_method_1_code 5 = .ok (.new 7, 3) := by decide +kernel
theorem dk_CS_8 : decode prog_1_method_1_code 8 = .ok (.dup, 1) := by decide +kernel
theorem dk_CS_9 : decode prog_1_method_1_code 9 = .ok (.invokespecial 9, 3) := by decide +kernel
theorem dk_CS_12 : decode prog_1_method_1_code 12 = .ok (.putfield 10, 3) := by decide +kernel
theorem dk_CS_15 : decode prog_1_method_1_code 15 = .ok (.aload_n 0, 1) := by decide +kernel
theorem dk_CS_16 : decode prog_1_method_1_code 16 = .ok (.new 16, 3) := by decide +kernel
theorem dk_CS_19 : decode prog_1_method_1_code 19 = .ok (.dup, 1) := by decide +kernel
theorem dk_CS_20 : decode prog_1_method_1_code 20 = .ok (.aload_n 0, 1) := by decide +kernel
theorem dk_CS_21 : decode prog_1_method_1_code 21 = .ok (.getfield 10, 3) := by decide +kernel
theorem dk_CS_24 : decode prog_1_method_1_code 24 = .ok (.iconst 0, 1) := by decide +kernel
theorem dk_CS_25 : decode prog_1_method_1_code 25 = .ok (.invokespecial 18, 3) := by decide +kernel
theorem dk_CS_28 : decode prog_1_method_1_code 28 = .ok (.putfield 21, 3) := by decide +kernel
theorem dk_CS_31 : decode prog_1_method_1_code 31 = .ok (.aload_n 0, 1) := by decide +kernel
theorem dk_CS_32 : decode prog_1_method_1_code 32 = .ok (.new 16, 3) := by decide +kernel
theorem dk_CS_35 : decode prog_1_method_1_code 35 = .ok (.dup, 1) := by decide +kernel
theorem dk_CS_36 : decode prog_1_method_1_code 36 = .ok (.aload_n 0, 1) := by decide +kernel
theorem dk_CS_37 : decode prog_1_method_1_code 37 = .ok (.getfield 10, 3) := by decide +kernel
theorem dk_CS_40 : decode prog_1_method_1_code 40 = .ok (.iconst 1, 1) := by decide +kernel
theorem dk_CS_41 : decode prog_1_method_1_code 41 = .ok (.invokespecial 18, 3) := by decide +kernel
theorem dk_CS_44 : decode prog_1_method_1_code 44 = .ok (.putfield 25, 3) := by decide +kernel
theorem dk_CS_47 : decode prog_1_method_1_code 47 = .ok (.aload_n 0, 1) := by decide +kernel
theorem dk_CS_48 : decode prog_1_method_1_code 48 = .ok (.new 28, 3) := by decide +kernel
theorem dk_CS_51 : decode prog_1_method_1_code 51 = .ok (.dup, 1) := by decide +kernel
theorem dk_CS_52 : decode prog_1_method_1_code 52 = .ok (.aload_n 0, 1) := by decide +kernel
theorem dk_CS_53 : decode prog_1_method_1_code 53 = .ok (.getfield 10, 3) := by decide +kernel
theorem dk_CS_56 : decode prog_1_method_1_code 56 = .ok (.invokespecial 30, 3) := by decide +kernel
theorem dk_CS_59 : decode prog_1_method_1_code 59 = .ok (.putfield 33, 3) := by decide +kernel
theorem dk_CS_62 : decode prog_1_method_1_code 62 = .ok (.aload_n 0, 1) := by decide +kernel
theorem dk_CS_63 : decode prog_1_method_1_code 63 = .ok (.new 37, 3) := by decide +kernel
theorem dk_CS_66 : decode prog_1_method_1_code 66 = .ok (.dup, 1) := by decide +kernel
theorem dk_CS_67 : decode prog_1_method_1_code 67 = .ok (.aload_n 0, 1) := by decide +kernel
theorem dk_CS_68 : decode prog_1_method_1_code 68 = .ok (.getfield 10, 3) := by decide +kernel
theorem dk_CS_71 : decode prog_1_method_1_code 71 = .ok (.invokespecial 39, 3) := by decide +kernel
theorem dk_CS_74 : decode prog_1_method_1_code 74 = .ok (.putfield 40, 3) := by decide +kernel
theorem dk_CS_77 : decode prog_1_method_1_code 77 = .ok (.aload_n 0, 1) := by decide +kernel
theorem dk_CS_78 : decode prog_1_method_1_code 78 = .ok (.new 44, 3) := by decide +kernel
theorem dk_CS_81 : decode prog_1_method_1_code 81 = .ok (.dup, 1) := by decide +kernel
theorem dk_CS_82 : decode prog_1_method_1_code 82 = .ok (.aload_n 0, 1) := by decide +kernel
theorem dk_CS_83 : decode prog_1_method_1_code 83 = .ok (.getfield 10, 3) := by decide +kernel
theorem dk_CS_86 : decode prog_1_method_1_code 86 = .ok (.invokespecial 46, 3) := by decide +kernel
theorem dk_CS_89 : decode prog_1_method_1_code 89 = .ok (.putfield 47, 3) := by decide +kernel
theorem dk_CS_92 : decode prog_1_method_1_code 92 = .ok (.aload_n 0, 1) := by decide +kernel
theorem dk_CS_93 : decode prog_1_method_1_code 93 = .ok (.new 51, 3) := by decide +kernel
theorem dk_CS_96 : decode prog_1_method_1_code 96 = .ok (.dup, 1) := by decide +kernel
theorem dk_CS_97 : decode prog_1_method_1_code 97 = .ok (.aload_n 0, 1) := by decide +kernel
theorem dk_CS_98 : decode prog_1_method_1_code 98 = .ok (.getfield 10, 3) := by decide +kernel
theorem dk_CS_101 : decode prog_1_method_1_code 101 = .ok (.invokespecial 53, 3) := by decide +kernel
theorem dk_CS_104 : decode prog_1_method_1_code 104 = .ok (.putfield 54, 3) := by decide +kernel
theorem dk_CS_107 : decode prog_1_method_1_code 107 = .ok (.aload_n 0, 1) := by decide +kernel
theorem dk_CS_108 : decode prog_1_method_1_code 108 = .ok (.new 58, 3) := by decide +kernel
theorem dk_CS_111 : decode prog_1_method_1_code 111 = .ok (.dup, 1) := by decide +kernel
theorem dk_CS_112 : decode prog_1_method_1_code 112 = .ok (.aload_n 0, 1) := by decide +kernel
theorem dk_CS_113 : decode prog_1_method_1_code 113 = .ok (.getfield 10, 3) := by decide +kernel
theorem dk_CS_116 : decode prog_1_method_1_code 116 = .ok (.invokespecial 60, 3) := by decide +kernel
theorem dk_CS_119 : decode prog_1_method_1_code 119 = .ok (.putfield 61, 3) := by decide +kernel
theorem dk_CS_122 : decode prog_1_method_1_code 122 = .ok (.aload_n 0, 1) := by decide +kernel
theorem dk_CS_123 : decode prog_1_method_1_code 123 = .ok (.new 65, 3) := by decide +kernel
theorem dk_CS_126 : decode prog_1_method_1_code 126 = .ok (.dup, 1) := by decide +kernel
theorem dk_CS_127 : decode prog_1_method_1_code 127 = .ok (.aload_n 0, 1) := by decide +kernel
theorem dk_CS_128 : decode prog_1_method_1_code 128 = .ok (.getfield 10, 3) := by decide +kernel
theorem dk_CS_131 : decode prog_1_method_1_code 131 = .ok (.invokespecial 67, 3) := by decide +kernel
theorem dk_CS_134 : decode prog_1_method_1_code 134 = .ok (.putfield 68, 3) := by decide +kernel
theorem dk_CS_137 : decode prog_1_method_1_code 137 = .ok (.aload_n 0, 1) := by decide +kernel
theorem dk_CS_138 : decode prog_1_method_1_code 138 = .ok (.bipush 17, 2) := by decide +kernel
theorem dk_CS_140 : decode prog_1_method_1_code 140 = .ok (.newarray .int, 2) := by decide +kernel
theorem dk_CS_142 : decode prog_1_method_1_code 142 = .ok (.putfield 72, 3) := by decide +kernel
theorem dk_CS_145 : decode prog_1_method_1_code 145 = .ok (.return_, 1) := by decide +kernel
def wk_CS (cA : Nat → ClassId) (h0 : Nat) (u : Nat → Nat) : va_W := (h0, .inr (0, [.ref (u 1), .ref (u 4), .ref (u 7), .ref (u 10), .ref (u 12), .ref (u 32), .ref (u 35), .ref (u 54), .ref (u 55), .ref (u 60)])) :: ((((((((((wk_Net cA (u 1) (fun k => u (2 + k))) ++ wk_MaximalSets0 cA (u 4) (u 1) (fun k => u (5 + k))) ++ wk_MaximalSets1 cA (u 7) (u 1) (fun k => u (8 + k))) ++ wk_SizeCounts cA (u 10) (u 1) (fun k => u (11 + k))) ++ wk_NearSets cA (u 12) (u 1) (fun k => u (13 + k))) ++ wk_Peeling cA (u 32) (u 1) (fun k => u (33 + k))) ++ wk_Search cA (u 35) (u 1) (fun k => u (36 + k))) ++ wk_SureCover cA (u 54) (u 1) (fun k => u (55 + k))) ++ wk_Matching cA (u 55) (u 1) (fun k => u (56 + k))) ++ [(u 60, .inl (cA 0, 17, .inl (fun _ => 0)))])
def yk_CS : MethodName := ⟨"CliqueSearch", "<init>", "()V"⟩
def ye_CS : va_E := .inr (0, [.null, .null, .null, .null, .null, .null, .null, .null, .null, .null])
theorem gw_20 : Cond.methodLink "CliqueSearch" (1 : Nat) ({ cls := "java/lang/Object", name := "<init>", desc := "()V" } : MethodName) ∈ cs_G := List.mem_filter.mpr ⟨List.mem_append_right _ (List.mem_append_left _ (List.mem_of_getElem? (i := 20) rfl)), rfl⟩
theorem gw_23 : Cond.classLink "CliqueSearch" (7 : Nat) "CliqueSearch$Net" ∈ cs_G := List.mem_filter.mpr ⟨List.mem_append_right _ (List.mem_append_left _ (List.mem_of_getElem? (i := 23) rfl)), rfl⟩
theorem gw_24 : Cond.instantiable "CliqueSearch$Net" (4 : Nat) ∈ cs_G := List.mem_filter.mpr ⟨List.mem_append_right _ (List.mem_append_left _ (List.mem_of_getElem? (i := 24) rfl)), rfl⟩
theorem gw_27 : Cond.code ({ cls := "CliqueSearch$Net", name := "<init>", desc := "()V" } : MethodName) prog_5_method_1_code (1 : Nat) (Option.none : Option FieldType) ∈ cs_G := List.mem_filter.mpr ⟨List.mem_append_right _ (List.mem_append_left _ (List.mem_of_getElem? (i := 27) rfl)), rfl⟩
theorem gw_25 : Cond.methodLinkNest "CliqueSearch" (9 : Nat) ({ cls := "CliqueSearch$Net", name := "<init>", desc := "()V" } : MethodName) "CliqueSearch" ∈ cs_G := List.mem_filter.mpr ⟨List.mem_append_right _ (List.mem_append_left _ (List.mem_of_getElem? (i := 25) rfl)), rfl⟩
theorem gw_26 : Cond.instanceMethod ({ cls := "CliqueSearch$Net", name := "<init>", desc := "()V" } : MethodName) ∈ cs_G := List.mem_filter.mpr ⟨List.mem_append_right _ (List.mem_append_left _ (List.mem_of_getElem? (i := 26) rfl)), rfl⟩
theorem gw_49 : Cond.classLink "CliqueSearch" (16 : Nat) "CliqueSearch$MaximalSets" ∈ cs_G := List.mem_filter.mpr ⟨List.mem_append_right _ (List.mem_append_left _ (List.mem_of_getElem? (i := 49) rfl)), rfl⟩
theorem gw_50 : Cond.instantiable "CliqueSearch$MaximalSets" (6 : Nat) ∈ cs_G := List.mem_filter.mpr ⟨List.mem_append_right _ (List.mem_append_left _ (List.mem_of_getElem? (i := 50) rfl)), rfl⟩
theorem gw_53 : Cond.code ({ cls := "CliqueSearch$MaximalSets", name := "<init>", desc := "(LCliqueSearch$Net;Z)V" } : MethodName) prog_3_method_1_code (3 : Nat) (Option.none : Option FieldType) ∈ cs_G := List.mem_filter.mpr ⟨List.mem_append_right _ (List.mem_append_left _ (List.mem_of_getElem? (i := 53) rfl)), rfl⟩
theorem gw_51 : Cond.methodLinkNest "CliqueSearch" (18 : Nat) ({ cls := "CliqueSearch$MaximalSets", name := "<init>", desc := "(LCliqueSearch$Net;Z)V" } : MethodName) "CliqueSearch" ∈ cs_G := List.mem_filter.mpr ⟨List.mem_append_right _ (List.mem_append_left _ (List.mem_of_getElem? (i := 51) rfl)), rfl⟩
theorem gw_52 : Cond.instanceMethod ({ cls := "CliqueSearch$MaximalSets", name := "<init>", desc := "(LCliqueSearch$Net;Z)V" } : MethodName) ∈ cs_G := List.mem_filter.mpr ⟨List.mem_append_right _ (List.mem_append_left _ (List.mem_of_getElem? (i := 52) rfl)), rfl⟩
theorem gw_74 : Cond.classLink "CliqueSearch" (28 : Nat) "CliqueSearch$SizeCounts" ∈ cs_G := List.mem_filter.mpr ⟨List.mem_append_right _ (List.mem_append_left _ (List.mem_of_getElem? (i := 74) rfl)), rfl⟩
theorem gw_75 : Cond.instantiable "CliqueSearch$SizeCounts" (3 : Nat) ∈ cs_G := List.mem_filter.mpr ⟨List.mem_append_right _ (List.mem_append_left _ (List.mem_of_getElem? (i := 75) rfl)), rfl⟩
theorem gw_78 : Cond.code ({ cls := "CliqueSearch$SizeCounts", name := "<init>", desc := "(LCliqueSearch$Net;)V" } : MethodName) prog_8_method_1_code (2 : Nat) (Option.none : Option FieldType) ∈ cs_G := List.mem_filter.mpr ⟨List.mem_append_right _ (List.mem_append_left _ (List.mem_of_getElem? (i := 78) rfl)), rfl⟩
theorem gw_76 : Cond.methodLinkNest "CliqueSearch" (30 : Nat) ({ cls := "CliqueSearch$SizeCounts", name := "<init>", desc := "(LCliqueSearch$Net;)V" } : MethodName) "CliqueSearch" ∈ cs_G := List.mem_filter.mpr ⟨List.mem_append_right _ (List.mem_append_left _ (List.mem_of_getElem? (i := 76) rfl)), rfl⟩
theorem gw_77 : Cond.instanceMethod ({ cls := "CliqueSearch$SizeCounts", name := "<init>", desc := "(LCliqueSearch$Net;)V" } : MethodName) ∈ cs_G := List.mem_filter.mpr ⟨List.mem_append_right _ (List.mem_append_left _ (List.mem_of_getElem? (i := 77) rfl)), rfl⟩
theorem gw_90 : Cond.classLink "CliqueSearch" (37 : Nat) "CliqueSearch$NearSets" ∈ cs_G := List.mem_filter.mpr ⟨List.mem_append_right _ (List.mem_append_left _ (List.mem_of_getElem? (i := 90) rfl)), rfl⟩
theorem gw_91 : Cond.instantiable "CliqueSearch$NearSets" (6 : Nat) ∈ cs_G := List.mem_filter.mpr ⟨List.mem_append_right _ (List.mem_append_left _ (List.mem_of_getElem? (i := 91) rfl)), rfl⟩
theorem gw_94 : Cond.code ({ cls := "CliqueSearch$NearSets", name := "<init>", desc := "(LCliqueSearch$Net;)V" } : MethodName) prog_4_method_1_code (2 : Nat) (Option.none : Option FieldType) ∈ cs_G := List.mem_filter.mpr ⟨List.mem_append_right _ (List.mem_append_left _ (List.mem_of_getElem? (i := 94) rfl)), rfl⟩
theorem gw_92 : Cond.methodLinkNest "CliqueSearch" (39 : Nat) ({ cls := "CliqueSearch$NearSets", name := "<init>", desc := "(LCliqueSearch$Net;)V" } : MethodName) "CliqueSearch" ∈ cs_G := List.mem_filter.mpr ⟨List.mem_append_right _ (List.mem_append_left _ (List.mem_of_getElem? (i := 92) rfl)), rfl⟩
theorem gw_93 : Cond.instanceMethod ({ cls := "CliqueSearch$NearSets", name := "<init>", desc := "(LCliqueSearch$Net;)V" } : MethodName) ∈ cs_G := List.mem_filter.mpr ⟨List.mem_append_right _ (List.mem_append_left _ (List.mem_of_getElem? (i := 93) rfl)), rfl⟩
theorem gw_117 : Cond.classLink "CliqueSearch" (44 : Nat) "CliqueSearch$Peeling" ∈ cs_G := List.mem_filter.mpr ⟨List.mem_append_right _ (List.mem_append_left _ (List.mem_of_getElem? (i := 117) rfl)), rfl⟩
theorem gw_118 : Cond.instantiable "CliqueSearch$Peeling" (4 : Nat) ∈ cs_G := List.mem_filter.mpr ⟨List.mem_append_right _ (List.mem_append_left _ (List.mem_of_getElem? (i := 118) rfl)), rfl⟩
theorem gw_121 : Cond.code ({ cls := "CliqueSearch$Peeling", name := "<init>", desc := "(LCliqueSearch$Net;)V" } : MethodName) prog_6_method_1_code (2 : Nat) (Option.none : Option FieldType) ∈ cs_G := List.mem_filter.mpr ⟨List.mem_append_right _ (List.mem_append_left _ (List.mem_of_getElem? (i := 121) rfl)), rfl⟩
theorem gw_119 : Cond.methodLinkNest "CliqueSearch" (46 : Nat) ({ cls := "CliqueSearch$Peeling", name := "<init>", desc := "(LCliqueSearch$Net;)V" } : MethodName) "CliqueSearch" ∈ cs_G := List.mem_filter.mpr ⟨List.mem_append_right _ (List.mem_append_left _ (List.mem_of_getElem? (i := 119) rfl)), rfl⟩
theorem gw_120 : Cond.instanceMethod ({ cls := "CliqueSearch$Peeling", name := "<init>", desc := "(LCliqueSearch$Net;)V" } : MethodName) ∈ cs_G := List.mem_filter.mpr ⟨List.mem_append_right _ (List.mem_append_left _ (List.mem_of_getElem? (i := 120) rfl)), rfl⟩
theorem gw_136 : Cond.classLink "CliqueSearch" (51 : Nat) "CliqueSearch$Search" ∈ cs_G := List.mem_filter.mpr ⟨List.mem_append_right _ (List.mem_append_left _ (List.mem_of_getElem? (i := 136) rfl)), rfl⟩
theorem gw_137 : Cond.instantiable "CliqueSearch$Search" (9 : Nat) ∈ cs_G := List.mem_filter.mpr ⟨List.mem_append_right _ (List.mem_append_left _ (List.mem_of_getElem? (i := 137) rfl)), rfl⟩
theorem gw_140 : Cond.code ({ cls := "CliqueSearch$Search", name := "<init>", desc := "(LCliqueSearch$Net;)V" } : MethodName) prog_7_method_1_code (2 : Nat) (Option.none : Option FieldType) ∈ cs_G := List.mem_filter.mpr ⟨List.mem_append_right _ (List.mem_append_left _ (List.mem_of_getElem? (i := 140) rfl)), rfl⟩
theorem gw_138 : Cond.methodLinkNest "CliqueSearch" (53 : Nat) ({ cls := "CliqueSearch$Search", name := "<init>", desc := "(LCliqueSearch$Net;)V" } : MethodName) "CliqueSearch" ∈ cs_G := List.mem_filter.mpr ⟨List.mem_append_right _ (List.mem_append_left _ (List.mem_of_getElem? (i := 138) rfl)), rfl⟩
theorem gw_139 : Cond.instanceMethod ({ cls := "CliqueSearch$Search", name := "<init>", desc := "(LCliqueSearch$Net;)V" } : MethodName) ∈ cs_G := List.mem_filter.mpr ⟨List.mem_append_right _ (List.mem_append_left _ (List.mem_of_getElem? (i := 139) rfl)), rfl⟩
theorem gw_176 : Cond.classLink "CliqueSearch" (58 : Nat) "CliqueSearch$SureCover" ∈ cs_G := List.mem_filter.mpr ⟨List.mem_append_right _ (List.mem_append_left _ (List.mem_of_getElem? (i := 176) rfl)), rfl⟩
theorem gw_177 : Cond.instantiable "CliqueSearch$SureCover" (6 : Nat) ∈ cs_G := List.mem_filter.mpr ⟨List.mem_append_right _ (List.mem_append_left _ (List.mem_of_getElem? (i := 177) rfl)), rfl⟩
theorem gw_180 : Cond.code ({ cls := "CliqueSearch$SureCover", name := "<init>", desc := "(LCliqueSearch$Net;)V" } : MethodName) prog_9_method_1_code (2 : Nat) (Option.none : Option FieldType) ∈ cs_G := List.mem_filter.mpr ⟨List.mem_append_right _ (List.mem_append_left _ (List.mem_of_getElem? (i := 180) rfl)), rfl⟩
theorem gw_178 : Cond.methodLinkNest "CliqueSearch" (60 : Nat) ({ cls := "CliqueSearch$SureCover", name := "<init>", desc := "(LCliqueSearch$Net;)V" } : MethodName) "CliqueSearch" ∈ cs_G := List.mem_filter.mpr ⟨List.mem_append_right _ (List.mem_append_left _ (List.mem_of_getElem? (i := 178) rfl)), rfl⟩
theorem gw_179 : Cond.instanceMethod ({ cls := "CliqueSearch$SureCover", name := "<init>", desc := "(LCliqueSearch$Net;)V" } : MethodName) ∈ cs_G := List.mem_filter.mpr ⟨List.mem_append_right _ (List.mem_append_left _ (List.mem_of_getElem? (i := 179) rfl)), rfl⟩
theorem gw_203 : Cond.classLink "CliqueSearch" (65 : Nat) "CliqueSearch$Matching" ∈ cs_G := List.mem_filter.mpr ⟨List.mem_append_right _ (List.mem_append_left _ (List.mem_of_getElem? (i := 203) rfl)), rfl⟩
theorem gw_204 : Cond.instantiable "CliqueSearch$Matching" (7 : Nat) ∈ cs_G := List.mem_filter.mpr ⟨List.mem_append_right _ (List.mem_append_left _ (List.mem_of_getElem? (i := 204) rfl)), rfl⟩
theorem gw_207 : Cond.code ({ cls := "CliqueSearch$Matching", name := "<init>", desc := "(LCliqueSearch$Net;)V" } : MethodName) prog_2_method_1_code (2 : Nat) (Option.none : Option FieldType) ∈ cs_G := List.mem_filter.mpr ⟨List.mem_append_right _ (List.mem_append_left _ (List.mem_of_getElem? (i := 207) rfl)), rfl⟩
theorem gw_205 : Cond.methodLinkNest "CliqueSearch" (67 : Nat) ({ cls := "CliqueSearch$Matching", name := "<init>", desc := "(LCliqueSearch$Net;)V" } : MethodName) "CliqueSearch" ∈ cs_G := List.mem_filter.mpr ⟨List.mem_append_right _ (List.mem_append_left _ (List.mem_of_getElem? (i := 205) rfl)), rfl⟩
theorem gw_206 : Cond.instanceMethod ({ cls := "CliqueSearch$Matching", name := "<init>", desc := "(LCliqueSearch$Net;)V" } : MethodName) ∈ cs_G := List.mem_filter.mpr ⟨List.mem_append_right _ (List.mem_append_left _ (List.mem_of_getElem? (i := 206) rfl)), rfl⟩
set_option maxHeartbeats 4000000 in
set_option maxRecDepth 100000 in
theorem kc_CS (l : Launch) (D : va_G) (cA : Nat → ClassId) (h0 : Nat) (sz : Nat) : Met l yk_CS (mi_ws cs_G (yk_CS, prog_1_method_1_code, 1, none)) ({ frames := 2, cells := 60, slots := 1318, locals := 40 }) (kP D cA h0 ye_CS [.ref h0] sz) (kQ D cA (wk_CS cA h0) (va_A [(h0, ye_CS)] sz)) 60 1318 (va_A [(h0, ye_CS)] sz) := by
  refine Met.ofW (cc := prog_1_method_1_code) (maxL := 1) (ret := none) (by decide) rfl ?_
  intro p e s m args below meth c s₁ B hml hv
  obtain ⟨rfl, hsz, hP, hK, hD0, hkx⟩ := hv
  have hx := B.exec
  have hb := B.bytes
  have hr := B.returns
  have hts := atoms_spec (ws := mi_ws cs_G (yk_CS, prog_1_method_1_code, 1, none)) B.pre
  have hown : s.vm.findClass "CliqueSearch" = some m.cls := findClass_of_methodNamed B.named
  have hin : meth.name = "<init>" := (name_of_methodNamed B.named B.method).1
  subst hsz
  have hD := hD0.self (sz := s.heap.size)
  generalize hAe : va_A [(h0, ye_CS)] s.heap.size = A at hD ⊢
  have hA : ∀ q : Nat, s.heap.size ≤ q → A q := fun q h => by rw [← hAe]; exact Or.inr h
  have hS : va_S A s.heap s.heap [] := va_S.rf
  have hl := lv_entry ([.ref h0]) (n := 1) (Nat.le_of_ble_eq_true rfl)
  rw [lg_entry_eq]
  generalize (lg_sl ([.ref h0]) ++ List.replicate (1 - (lg_sl ([.ref h0])).length) Slot.unset).toArray = ls at hl ⊢
  have hl : lv_has ls 1 [(0, .ref h0)] := hl
  have hP : va_P D cs_cl ((h0, .inr (0, [.null, .null, .null, .null, .null, .null, .null, .null, .null, .null])) :: []) s.heap := hP
  have hD : va_D A ((h0, .inr (0, [.null, .null, .null, .null, .null, .null, .null, .null, .null, .null])) :: []) := hD
  refine lv_aload_n hx hb dk_CS_0 rfl (lv_at hl 0 rfl) ?_
  refine W.objInit hx hb hown (hts _ (km gw_20 rfl)) (hts _ (km gw_21 rfl)) (hts _ (km gw_22 rfl)) rfl (by rw [hml]; exact hl.1) rfl dk_CS_1 (Nat.le_of_ble_eq_true rfl) (Nat.le_of_ble_eq_true rfl) ?_
  refine W.eq (g2 := F0 m 4 ls []) rfl ?_
  refine lv_aload_n hx hb dk_CS_4 rfl (lv_at hl 0 rfl) ?_
  refine va_new (ci := 1) (fs := [.int 0, .int 0, .null, .null]) (C := "CliqueSearch$Net") (T := cs_T1) (N := 4) hx hb hts (fun w hw => km (cs_in1 w hw) (k_u1 w hw)) cs_ty1 cs_ty1_ok hown (hts _ (km gw_23 rfl)) (hts _ (km gw_24 rfl)) (hts _ (km gw_2 rfl)) hK hP hD hS hA rfl (fun j hj => k_df1 j hj) (Nat.le_of_ble_eq_true rfl) (Nat.le_of_ble_eq_true rfl) dk_CS_5 (fun q0 H hP hD hS => ?_)
  refine lv_dup hx hb dk_CS_8 rfl ?_
  have hFc := kf (q := q0) (e := ye_Net) hD hS hA
  refine va_callv (va_runIN (As := []) (rest := [.ref q0, .ref h0]) ⟨hx, hb, hml, hown, hts⟩ (kc_Net l D cA q0  H.size) ⟨va_cnB 0 hts (kgood gw_27) rfl rfl rfl (hkx.1 _ gw_25 rfl) (hts _ (km gw_2 rfl)) (by decide +kernel) ⟨Nat.le_of_ble_eq_true rfl, Nat.le_of_ble_eq_true rfl⟩, rfl, (hts _ (km gw_26 rfl))⟩ (kP_pre hP.one hK va_D.one hkx) rfl rfl hl.1 rfl (lv_room (Nat.le_of_ble_eq_true rfl)) dk_CS_9 ⟨Nat.le_of_ble_eq_true rfl, Nat.le_of_ble_eq_true rfl⟩) hS (fun q _ h => hFc q h) hFc (fun u0 t H1 locs ht hvm hw hB hz1 hk1 hS => ?_)
  obtain ⟨hP1, hK1, hD1⟩ := hB
  rw [ht] at hP1
  obtain ⟨hP, hD⟩ := kj hP hD hk1 hFc hP1 hD1
  generalize H1 = H at hP hS ⊢
  have hP : va_P D cs_cl ((h0, .inr (0, [.null, .null, .null, .null, .null, .null, .null, .null, .null, .null])) :: (wk_Net cA q0 u0)) H := hP
  have hD : va_D A ((h0, .inr (0, [.null, .null, .null, .null, .null, .null, .null, .null, .null, .null])) :: (wk_Net cA q0 u0)) := hD
  refine va_putF (D := D) (ci := 0) (v := .ref q0) (ty := .object "CliqueSearch$Net") (C := "CliqueSearch") (T := cs_T0) (N := 10) hx hb hts (fun w hw => km (cs_in0 w hw) (k_u0 w hw)) cs_ty0 cs_ty0_ok cs_nm0 hown hK hP hD hS 0 rfl rfl 0 (by decide) (hts _ (km gw_231 rfl)) (fun _ h9 => h9) rfl hin rfl (by decide +kernel) rfl rfl (Nat.le_of_ble_eq_true rfl) dk_CS_12 (fun H locs hP hD hS => ?_)
  have hP : va_P D cs_cl ((h0, .inr (0, [.ref q0, .null, .null, .null, .null, .null, .null, .null, .null, .null])) :: (wk_Net cA q0 u0)) H := hP
  have hD : va_D A ((h0, .inr (0, [.ref q0, .null, .null, .null, .null, .null, .null, .null, .null, .null])) :: (wk_Net cA q0 u0)) := hD
  refine lv_aload_n hx hb dk_CS_15 rfl (lv_at hl 0 rfl) ?_
  refine va_new (ci := 2) (fs := [.null, .int 0, .null, .null, .int 0, .int 0]) (C := "CliqueSearch$MaximalSets") (T := cs_T2) (N := 6) hx hb hts (fun w hw => km (cs_in2 w hw) (k_u2 w hw)) cs_ty2 cs_ty2_ok hown (hts _ (km gw_49 rfl)) (hts _ (km gw_50 rfl)) (hts _ (km gw_3 rfl)) hK hP hD hS hA rfl (fun j hj => k_df2 j hj) (Nat.le_of_ble_eq_true rfl) (Nat.le_of_ble_eq_true rfl) dk_CS_16 (fun q1 H hP hD hS => ?_)
  refine lv_dup hx hb dk_CS_19 rfl ?_
  refine lv_aload_n hx hb dk_CS_20 rfl (lv_at hl 0 rfl) ?_
  refine va_get (D := D) (ci := 0) (v := .ref q0) (C := "CliqueSearch") (T := cs_T0) (N := 10) hx hb hts (fun w hw => km (cs_in0 w hw) (k_u0 w hw)) hown hK hP 0 rfl rfl 0 (by decide) (hts _ (km gw_231 rfl)) (fun _ h9 => h9) rfl dk_CS_21 ?_
  refine lv_iconst (v := 0) hx hb dk_CS_24 (by decide) ?_
  have hFc := kf (q := q1) (e := ye_MaximalSets0) hD hS hA
  refine va_callv (va_runIN (As := [.ref q0, .int 0]) (rest := [.ref q1, .ref h0]) ⟨hx, hb, hml, hown, hts⟩ (kc_MaximalSets0 l D cA q1 q0 H.size) ⟨va_cnB 2 hts (kgood gw_53) rfl rfl rfl (hkx.1 _ gw_51 rfl) (hts _ (km gw_3 rfl)) (by decide +kernel) ⟨Nat.le_of_ble_eq_true rfl, Nat.le_of_ble_eq_true rfl⟩, rfl, (hts _ (km gw_52 rfl))⟩ (kP_pre hP.one hK va_D.one hkx) rfl rfl hl.1 rfl (lv_room (Nat.le_of_ble_eq_true rfl)) dk_CS_25 ⟨Nat.le_of_ble_eq_true rfl, Nat.le_of_ble_eq_true rfl⟩) hS (fun q _ h => hFc q h) hFc (fun u1 t H1 locs ht hvm hw hB hz1 hk1 hS => ?_)
  obtain ⟨hP1, hK1, hD1⟩ := hB
  rw [ht] at hP1
  obtain ⟨hP, hD⟩ := kj hP hD hk1 hFc hP1 hD1
  generalize H1 = H at hP hS ⊢
  have hP : va_P D cs_cl ((h0, .inr (0, [.ref q0, .null, .null, .null, .null, .null, .null, .null, .null, .null])) :: ((wk_Net cA q0 u0) ++ wk_MaximalSets0 cA q1 q0 u1)) H := hP
  have hD : va_D A ((h0, .inr (0, [.ref q0, .null, .null, .null, .null, .null, .null, .null, .null, .null])) :: ((wk_Net cA q0 u0) ++ wk_MaximalSets0 cA q1 q0 u1)) := hD
  refine va_putF (D := D) (ci := 0) (v := .ref q1) (ty := .object "CliqueSearch$MaximalSets") (C := "CliqueSearch") (T := cs_T0) (N := 10) hx hb hts (fun w hw => km (cs_in0 w hw) (k_u0 w hw)) cs_ty0 cs_ty0_ok cs_nm0 hown hK hP hD hS 0 rfl rfl 1 (by decide) (hts _ (km gw_232 rfl)) (fun _ h9 => h9) rfl hin rfl (by decide +kernel) rfl rfl (Nat.le_of_ble_eq_true rfl) dk_CS_28 (fun H locs hP hD hS => ?_)
  have hP : va_P D cs_cl ((h0, .inr (0, [.ref q0, .ref q1, .null, .null, .null, .null, .null, .null, .null, .null])) :: ((wk_Net cA q0 u0) ++ wk_MaximalSets0 cA q1 q0 u1)) H := hP
  have hD : va_D A ((h0, .inr (0, [.ref q0, .ref q1, .null, .null, .null, .null, .null, .null, .null, .null])) :: ((wk_Net cA q0 u0) ++ wk_MaximalSets0 cA q1 q0 u1)) := hD
  refine lv_aload_n hx hb dk_CS_31 rfl (lv_at hl 0 rfl) ?_
  refine va_new (ci := 2) (fs := [.null, .int 0, .null, .null, .int 0, .int 0]) (C := "CliqueSearch$MaximalSets") (T := cs_T2) (N := 6) hx hb hts (fun w hw => km (cs_in2 w hw) (k_u2 w hw)) cs_ty2 cs_ty2_ok hown (hts _ (km gw_49 rfl)) (hts _ (km gw_50 rfl)) (hts _ (km gw_3 rfl)) hK hP hD hS hA rfl (fun j hj => k_df2 j hj) (Nat.le_of_ble_eq_true rfl) (Nat.le_of_ble_eq_true rfl) dk_CS_32 (fun q2 H hP hD hS => ?_)
  refine lv_dup hx hb dk_CS_35 rfl ?_
  refine lv_aload_n hx hb dk_CS_36 rfl (lv_at hl 0 rfl) ?_
  refine va_get (D := D) (ci := 0) (v := .ref q0) (C := "CliqueSearch") (T := cs_T0) (N := 10) hx hb hts (fun w hw => km (cs_in0 w hw) (k_u0 w hw)) hown hK hP 0 rfl rfl 0 (by decide) (hts _ (km gw_231 rfl)) (fun _ h9 => h9) rfl dk_CS_37 ?_
  refine lv_iconst (v := 1) hx hb dk_CS_40 (by decide) ?_
  have hFc := kf (q := q2) (e := ye_MaximalSets1) hD hS hA
  refine va_callv (va_runIN (As := [.ref q0, .int 1]) (rest := [.ref q2, .ref h0]) ⟨hx, hb, hml, hown, hts⟩ (kc_MaximalSets1 l D cA q2 q0 H.size) ⟨va_cnB 2 hts (kgood gw_53) rfl rfl rfl (hkx.1 _ gw_51 rfl) (hts _ (km gw_3 rfl)) (by decide +kernel) ⟨Nat.le_of_ble_eq_true rfl, Nat.le_of_ble_eq_true rfl⟩, rfl, (hts _ (km gw_52 rfl))⟩ (kP_pre hP.one hK va_D.one hkx) rfl rfl hl.1 rfl (lv_room (Nat.le_of_ble_eq_true rfl)) dk_CS_41 ⟨Nat.le_of_ble_eq_true rfl, Nat.le_of_ble_eq_true rfl⟩) hS (fun q _ h => hFc q h) hFc (fun u2 t H1 locs ht hvm hw hB hz1 hk1 hS => ?_)
  obtain ⟨hP1, hK1, hD1⟩ := hB
  rw [ht] at hP1
  obtain ⟨hP, hD⟩ := kj hP hD hk1 hFc hP1 hD1
  generalize H1 = H at hP hS ⊢
  have hP : va_P D cs_cl ((h0, .inr (0, [.ref q0, .ref q1, .null, .null, .null, .null, .null, .null, .null, .null])) :: (((wk_Net cA q0 u0) ++ wk_MaximalSets0 cA q1 q0 u1) ++ wk_MaximalSets1 cA q2 q0 u2)) H := hP
  have hD : va_D A ((h0, .inr (0, [.ref q0, .ref q1, .null, .null, .null, .null, .null, .null, .null, .null])) :: (((wk_Net cA q0 u0) ++ wk_MaximalSets0 cA q1 q0 u1) ++ wk_MaximalSets1 cA q2 q0 u2)) := hD
  refine va_putF (D := D) (ci := 0) (v := .ref q2) (ty := .object "CliqueSearch$MaximalSets") (C := "CliqueSearch") (T := cs_T0) (N := 10) hx hb hts (fun w hw => km (cs_in0 w hw) (k_u0 w hw)) cs_ty0 cs_ty0_ok cs_nm0 hown hK hP hD hS 0 rfl rfl 2 (by decide) (hts _ (km gw_233 rfl)) (fun _ h9 => h9) rfl hin rfl (by decide +kernel) rfl rfl (Nat.le_of_ble_eq_true rfl) dk_CS_44 (fun H locs hP hD hS => ?_)
  have hP : va_P D cs_cl ((h0, .inr (0, [.ref q0, .ref q1, .ref q2, .null, .null, .null, .null, .null, .null, .null])) :: (((wk_Net cA q0 u0) ++ wk_MaximalSets0 cA q1 q0 u1) ++ wk_MaximalSets1 cA q2 q0 u2)) H := hP
  have hD : va_D A ((h0, .inr (0, [.ref q0, .ref q1, .ref q2, .null, .null, .null, .null, .null, .null, .null])) :: (((wk_Net cA q0 u0) ++ wk_MaximalSets0 cA q1 q0 u1) ++ wk_MaximalSets1 cA q2 q0 u2)) := hD
  refine lv_aload_n hx hb dk_CS_47 rfl (lv_at hl 0 rfl) ?_
  refine va_new (ci := 3) (fs := [.null, .null, .int 0]) (C := "CliqueSearch$SizeCounts") (T := cs_T3) (N := 3) hx hb hts (fun w hw => km (cs_in3 w hw) (k_u3 w hw)) cs_ty3 cs_ty3_ok hown (hts _ (km gw_74 rfl)) (hts _ (km gw_75 rfl)) (hts _ (km gw_4 rfl)) hK hP hD hS hA rfl (fun j hj => k_df3 j hj) (Nat.le_of_ble_eq_true rfl) (Nat.le_of_ble_eq_true rfl) dk_CS_48 (fun q3 H hP hD hS => ?_)
  refine lv_dup hx hb dk_CS_51 rfl ?_
  refine lv_aload_n hx hb dk_CS_52 rfl (lv_at hl 0 rfl) ?_
  refine va_get (D := D) (ci := 0) (v := .ref q0) (C := "CliqueSearch") (T := cs_T0) (N := 10) hx hb hts (fun w hw => km (cs_in0 w hw) (k_u0 w hw)) hown hK hP 0 rfl rfl 0 (by decide) (hts _ (km gw_231 rfl)) (fun _ h9 => h9) rfl dk_CS_53 ?_
  have hFc := kf (q := q3) (e := ye_SizeCounts) hD hS hA
  refine va_callv (va_runIN (As := [.ref q0]) (rest := [.ref q3, .ref h0]) ⟨hx, hb, hml, hown, hts⟩ (kc_SizeCounts l D cA q3 q0 H.size) ⟨va_cnB 1 hts (kgood gw_78) rfl rfl rfl (hkx.1 _ gw_76 rfl) (hts _ (km gw_4 rfl)) (by decide +kernel) ⟨Nat.le_of_ble_eq_true rfl, Nat.le_of_ble_eq_true rfl⟩, rfl, (hts _ (km gw_77 rfl))⟩ (kP_pre hP.one hK va_D.one hkx) rfl rfl hl.1 rfl (lv_room (Nat.le_of_ble_eq_true rfl)) dk_CS_56 ⟨Nat.le_of_ble_eq_true rfl, Nat.le_of_ble_eq_true rfl⟩) hS (fun q _ h => hFc q h) hFc (fun u3 t H1 locs ht hvm hw hB hz1 hk1 hS => ?_)
  obtain ⟨hP1, hK1, hD1⟩ := hB
  rw [ht] at hP1
  obtain ⟨hP, hD⟩ := kj hP hD hk1 hFc hP1 hD1
  generalize H1 = H at hP hS ⊢
  have hP : va_P D cs_cl ((h0, .inr (0, [.ref q0, .ref q1, .ref q2, .null, .null, .null, .null, .null, .null, .null])) :: ((((wk_Net cA q0 u0) ++ wk_MaximalSets0 cA q1 q0 u1) ++ wk_MaximalSets1 cA q2 q0 u2) ++ wk_SizeCounts cA q3 q0 u3)) H := hP
  have hD : va_D A ((h0, .inr (0, [.ref q0, .ref q1, .ref q2, .null, .null, .null, .null, .null, .null, .null])) :: ((((wk_Net cA q0 u0) ++ wk_MaximalSets0 cA q1 q0 u1) ++ wk_MaximalSets1 cA q2 q0 u2) ++ wk_SizeCounts cA q3 q0 u3)) := hD
  refine va_putF (D := D) (ci := 0) (v := .ref q3) (ty := .object "CliqueSearch$SizeCounts") (C := "CliqueSearch") (T := cs_T0) (N := 10) hx hb hts (fun w hw => km (cs_in0 w hw) (k_u0 w hw)) cs_ty0 cs_ty0_ok cs_nm0 hown hK hP hD hS 0 rfl rfl 3 (by decide) (hts _ (km gw_234 rfl)) (fun _ h9 => h9) rfl hin rfl (by decide +kernel) rfl rfl (Nat.le_of_ble_eq_true rfl) dk_CS_59 (fun H locs hP hD hS => ?_)
  have hP : va_P D cs_cl ((h0, .inr (0, [.ref q0, .ref q1, .ref q2, .ref q3, .null, .null, .null, .null, .null, .null])) :: ((((wk_Net cA q0 u0) ++ wk_MaximalSets0 cA q1 q0 u1) ++ wk_MaximalSets1 cA q2 q0 u2) ++ wk_SizeCounts cA q3 q0 u3)) H := hP
  have hD : va_D A ((h0, .inr (0, [.ref q0, .ref q1, .ref q2, .ref q3, .null, .null, .null, .null, .null, .null])) :: ((((wk_Net cA q0 u0) ++ wk_MaximalSets0 cA q1 q0 u1) ++ wk_MaximalSets1 cA q2 q0 u2) ++ wk_SizeCounts cA q3 q0 u3)) := hD
  refine lv_aload_n hx hb dk_CS_62 rfl (lv_at hl 0 rfl) ?_
  refine va_new (ci := 4) (fs := [.null, .null, .null, .int 0, .int 0, .int 0]) (C := "CliqueSearch$NearSets") (T := cs_T4) (N := 6) hx hb hts (fun w hw => km (cs_in4 w hw) (k_u4 w hw)) cs_ty4 cs_ty4_ok hown (hts _ (km gw_90 rfl)) (hts _ (km gw_91 rfl)) (hts _ (km gw_5 rfl)) hK hP hD hS hA rfl (fun j hj => k_df4 j hj) (Nat.le_of_ble_eq_true rfl) (Nat.le_of_ble_eq_true rfl) dk_CS_63 (fun q4 H hP hD hS => ?_)
  refine lv_dup hx hb dk_CS_66 rfl ?_
  refine lv_aload_n hx hb dk_CS_67 rfl (lv_at hl 0 rfl) ?_
  refine va_get (D := D) (ci := 0) (v := .ref q0) (C := "CliqueSearch") (T := cs_T0) (N := 10) hx hb hts (fun w hw => km (cs_in0 w hw) (k_u0 w hw)) hown hK hP 0 rfl rfl 0 (by decide) (hts _ (km gw_231 rfl)) (fun _ h9 => h9) rfl dk_CS_68 ?_
  have hFc := kf (q := q4) (e := ye_NearSets) hD hS hA
  refine va_callv (va_runIN (As := [.ref q0]) (rest := [.ref q4, .ref h0]) ⟨hx, hb, hml, hown, hts⟩ (kc_NearSets l D cA q4 q0 H.size) ⟨va_cnB 1 hts (kgood gw_94) rfl rfl rfl (hkx.1 _ gw_92 rfl) (hts _ (km gw_5 rfl)) (by decide +kernel) ⟨Nat.le_of_ble_eq_true rfl, Nat.le_of_ble_eq_true rfl⟩, rfl, (hts _ (km gw_93 rfl))⟩ (kP_pre hP.one hK va_D.one hkx) rfl rfl hl.1 rfl (lv_room (Nat.le_of_ble_eq_true rfl)) dk_CS_71 ⟨Nat.le_of_ble_eq_true rfl, Nat.le_of_ble_eq_true rfl⟩) hS (fun q _ h => hFc q h) hFc (fun u4 t H1 locs ht hvm hw hB hz1 hk1 hS => ?_)
  obtain ⟨hP1, hK1, hD1⟩ := hB
  rw [ht] at hP1
  obtain ⟨hP, hD⟩ := kj hP hD hk1 hFc hP1 hD1
  generalize H1 = H at hP hS ⊢
  have hP : va_P D cs_cl ((h0, .inr (0, [.ref q0, .ref q1, .ref q2, .ref q3, .null, .null, .null, .null, .null, .null])) :: (((((wk_Net cA q0 u0) ++ wk_MaximalSets0 cA q1 q0 u1) ++ wk_MaximalSets1 cA q2 q0 u2) ++ wk_SizeCounts cA q3 q0 u3) ++ wk_NearSets cA q4 q0 u4)) H := hP
  have hD : va_D A ((h0, .inr (0, [.ref q0, .ref q1, .ref q2, .ref q3, .null, .null, .null, .null, .null, .null])) :: (((((wk_Net cA q0 u0) ++ wk_MaximalSets0 cA q1 q0 u1) ++ wk_MaximalSets1 cA q2 q0 u2) ++ wk_SizeCounts cA q3 q0 u3) ++ wk_NearSets cA q4 q0 u4)) := hD
  refine va_putF (D := D) (ci := 0) (v := .ref q4) (ty := .object "CliqueSearch$NearSets") (C := "CliqueSearch") (T := cs_T0) (N := 10) hx hb hts (fun w hw => km (cs_in0 w hw) (k_u0 w hw)) cs_ty0 cs_ty0_ok cs_nm0 hown hK hP hD hS 0 rfl rfl 4 (by decide) (hts _ (km gw_235 rfl)) (fun _ h9 => h9) rfl hin rfl (by decide +kernel) rfl rfl (Nat.le_of_ble_eq_true rfl) dk_CS_74 (fun H locs hP hD hS => ?_)
  have hP : va_P D cs_cl ((h0, .inr (0, [.ref q0, .ref q1, .ref q2, .ref q3, .ref q4, .null, .null, .null, .null, .null])) :: (((((wk_Net cA q0 u0) ++ wk_MaximalSets0 cA q1 q0 u1) ++ wk_MaximalSets1 cA q2 q0 u2) ++ wk_SizeCounts cA q3 q0 u3) ++ wk_NearSets cA q4 q0 u4)) H := hP
  have hD : va_D A ((h0, .inr (0, [.ref q0, .ref q1, .ref q2, .ref q3, .ref q4, .null, .null, .null, .null, .null])) :: (((((wk_Net cA q0 u0) ++ wk_MaximalSets0 cA q1 q0 u1) ++ wk_MaximalSets1 cA q2 q0 u2) ++ wk_SizeCounts cA q3 q0 u3) ++ wk_NearSets cA q4 q0 u4)) := hD
  refine lv_aload_n hx hb dk_CS_77 rfl (lv_at hl 0 rfl) ?_
  refine va_new (ci := 5) (fs := [.null, .null, .null, .int 0]) (C := "CliqueSearch$Peeling") (T := cs_T5) (N := 4) hx hb hts (fun w hw => km (cs_in5 w hw) (k_u5 w hw)) cs_ty5 cs_ty5_ok hown (hts _ (km gw_117 rfl)) (hts _ (km gw_118 rfl)) (hts _ (km gw_6 rfl)) hK hP hD hS hA rfl (fun j hj => k_df5 j hj) (Nat.le_of_ble_eq_true rfl) (Nat.le_of_ble_eq_true rfl) dk_CS_78 (fun q5 H hP hD hS => ?_)
  refine lv_dup hx hb dk_CS_81 rfl ?_
  refine lv_aload_n hx hb dk_CS_82 rfl (lv_at hl 0 rfl) ?_
  refine va_get (D := D) (ci := 0) (v := .ref q0) (C := "CliqueSearch") (T := cs_T0) (N := 10) hx hb hts (fun w hw => km (cs_in0 w hw) (k_u0 w hw)) hown hK hP 0 rfl rfl 0 (by decide) (hts _ (km gw_231 rfl)) (fun _ h9 => h9) rfl dk_CS_83 ?_
  have hFc := kf (q := q5) (e := ye_Peeling) hD hS hA
  refine va_callv (va_runIN (As := [.ref q0]) (rest := [.ref q5, .ref h0]) ⟨hx, hb, hml, hown, hts⟩ (kc_Peeling l D cA q5 q0 H.size) ⟨va_cnB 1 hts (kgood gw_121) rfl rfl rfl (hkx.1 _ gw_119 rfl) (hts _ (km gw_6 rfl)) (by decide +kernel) ⟨Nat.le_of_ble_eq_true rfl, Nat.le_of_ble_eq_true rfl⟩, rfl, (hts _ (km gw_120 rfl))⟩ (kP_pre hP.one hK va_D.one hkx) rfl rfl hl.1 rfl (lv_room (Nat.le_of_ble_eq_true rfl)) dk_CS_86 ⟨Nat.le_of_ble_eq_true rfl, Nat.le_of_ble_eq_true rfl⟩) hS (fun q _ h => hFc q h) hFc (fun u5 t H1 locs ht hvm hw hB hz1 hk1 hS => ?_)
  obtain ⟨hP1, hK1, hD1⟩ := hB
  rw [ht] at hP1
  obtain ⟨hP, hD⟩ := kj hP hD hk1 hFc hP1 hD1
  generalize H1 = H at hP hS ⊢
  have hP : va_P D cs_cl ((h0, .inr (0, [.ref q0, .ref q1, .ref q2, .ref q3, .ref q4, .null, .null, .null, .null, .null])) :: ((((((wk_Net cA q0 u0) ++ wk_MaximalSets0 cA q1 q0 u1) ++ wk_MaximalSets1 cA q2 q0 u2) ++ wk_SizeCounts cA q3 q0 u3) ++ wk_NearSets cA q4 q0 u4) ++ wk_Peeling cA q5 q0 u5)) H := hP
  have hD : va_D A ((h0, .inr (0, [.ref q0, .ref q1, .ref q2, .ref q3, .ref q4, .null, .null, .null, .null, .null])) :: ((((((wk_Net cA q0 u0) ++ wk_MaximalSets0 cA q1 q0 u1) ++ wk_MaximalSets1 cA q2 q0 u2) ++ wk_SizeCounts cA q3 q0 u3) ++ wk_NearSets cA q4 q0 u4) ++ wk_Peeling cA q5 q0 u5)) := hD
  refine va_putF (D := D) (ci := 0) (v := .ref q5) (ty := .object "CliqueSearch$Peeling") (C := "CliqueSearch") (T := cs_T0) (N := 10) hx hb hts (fun w hw => km (cs_in0 w hw) (k_u0 w hw)) cs_ty0 cs_ty0_ok cs_nm0 hown hK hP hD hS 0 rfl rfl 5 (by decide) (hts _ (km gw_236 rfl)) (fun _ h9 => h9) rfl hin rfl (by decide +kernel) rfl rfl (Nat.le_of_ble_eq_true rfl) dk_CS_89 (fun H locs hP hD hS => ?_)
  have hP : va_P D cs_cl ((h0, .inr (0, [.ref q0, .ref q1, .ref q2, .ref q3, .ref q4, .ref q5, .null, .null, .null, .null])) :: ((((((wk_Net cA q0 u0) ++ wk_MaximalSets0 cA q1 q0 u1) ++ wk_MaximalSets1 cA q2 q0 u2) ++ wk_SizeCounts cA q3 q0 u3) ++ wk_NearSets cA q4 q0 u4) ++ wk_Peeling cA q5 q0 u5)) H := hP
  have hD : va_D A ((h0, .inr (0, [.ref q0, .ref q1, .ref q2, .ref q3, .ref q4, .ref q5, .null, .null, .null, .null])) :: ((((((wk_Net cA q0 u0) ++ wk_MaximalSets0 cA q1 q0 u1) ++ wk_MaximalSets1 cA q2 q0 u2) ++ wk_SizeCounts cA q3 q0 u3) ++ wk_NearSets cA q4 q0 u4) ++ wk_Peeling cA q5 q0 u5)) := hD
  refine lv_aload_n hx hb dk_CS_92 rfl (lv_at hl 0 rfl) ?_
  refine va_new (ci := 6) (fs := [.null, .null, .int 0, .int 0, .int 0, .int 0, .int 0, .int 0, .int 0]) (C := "CliqueSearch$Search") (T := cs_T6) (N := 9) hx hb hts (fun w hw => km (cs_in6 w hw) (k_u6 w hw)) cs_ty6 cs_ty6_ok hown (hts _ (km gw_136 rfl)) (hts _ (km gw_137 rfl)) (hts _ (km gw_7 rfl)) hK hP hD hS hA rfl (fun j hj => k_df6 j hj) (Nat.le_of_ble_eq_true rfl) (Nat.le_of_ble_eq_true rfl) dk_CS_93 (fun q6 H hP hD hS => ?_)
  refine lv_dup hx hb dk_CS_96 rfl ?_
  refine lv_aload_n hx hb dk_CS_97 rfl (lv_at hl 0 rfl) ?_
  refine va_get (D := D) (ci := 0) (v := .ref q0) (C := "CliqueSearch") (T := cs_T0) (N := 10) hx hb hts (fun w hw => km (cs_in0 w hw) (k_u0 w hw)) hown hK hP 0 rfl rfl 0 (by decide) (hts _ (km gw_231 rfl)) (fun _ h9 => h9) rfl dk_CS_98 ?_
  have hFc := kf (q := q6) (e := ye_Search) hD hS hA
  refine va_callv (va_runIN (As := [.ref q0]) (rest := [.ref q6, .ref h0]) ⟨hx, hb, hml, hown, hts⟩ (kc_Search l D cA q6 q0 H.size) ⟨va_cnB 1 hts (kgood gw_140) rfl rfl rfl (hkx.1 _ gw_138 rfl) (hts _ (km gw_7 rfl)) (by decide +kernel) ⟨Nat.le_of_ble_eq_true rfl, Nat.le_of_ble_eq_true rfl⟩, rfl, (hts _ (km gw_139 rfl))⟩ (kP_pre hP.one hK va_D.one hkx) rfl rfl hl.1 rfl (lv_room (Nat.le_of_ble_eq_true rfl)) dk_CS_101 ⟨Nat.le_of_ble_eq_true rfl, Nat.le_of_ble_eq_true rfl⟩) hS (fun q _ h => hFc q h) hFc (fun u6 t H1 locs ht hvm hw hB hz1 hk1 hS => ?_)
  obtain ⟨hP1, hK1, hD1⟩ := hB
  rw [ht] at hP1
  obtain ⟨hP, hD⟩ := kj hP hD hk1 hFc hP1 hD1
  generalize H1 = H at hP hS ⊢
  have hP : va_P D cs_cl ((h0, .inr (0, [.ref q0, .ref q1, .ref q2, .ref q3, .ref q4, .ref q5, .null, .null, .null, .null])) :: (((((((wk_Net cA q0 u0) ++ wk_MaximalSets0 cA q1 q0 u1) ++ wk_MaximalSets1 cA q2 q0 u2) ++ wk_SizeCounts cA q3 q0 u3) ++ wk_NearSets cA q4 q0 u4) ++ wk_Peeling cA q5 q0 u5) ++ wk_Search cA q6 q0 u6)) H := hP
  have hD : va_D A ((h0, .inr (0, [.ref q0, .ref q1, .ref q2, .ref q3, .ref q4, .ref q5, .null, .null, .null, .null])) :: (((((((wk_Net cA q0 u0) ++ wk_MaximalSets0 cA q1 q0 u1) ++ wk_MaximalSets1 cA q2 q0 u2) ++ wk_SizeCounts cA q3 q0 u3) ++ wk_NearSets cA q4 q0 u4) ++ wk_Peeling cA q5 q0 u5) ++ wk_Search cA q6 q0 u6)) := hD
  refine va_putF (D := D) (ci := 0) (v := .ref q6) (ty := .object "CliqueSearch$Search") (C := "CliqueSearch") (T := cs_T0) (N := 10) hx hb hts (fun w hw => km (cs_in0 w hw) (k_u0 w hw)) cs_ty0 cs_ty0_ok cs_nm0 hown hK hP hD hS 0 rfl rfl 6 (by decide) (hts _ (km gw_237 rfl)) (fun _ h9 => h9) rfl hin rfl (by decide +kernel) rfl rfl (Nat.le_of_ble_eq_true rfl) dk_CS_104 (fun H locs hP hD hS => ?_)
  have hP : va_P D cs_cl ((h0, .inr (0, [.ref q0, .ref q1, .ref q2, .ref q3, .ref q4, .ref q5, .ref q6, .null, .null, .null])) :: (((((((wk_Net cA q0 u0) ++ wk_MaximalSets0 cA q1 q0 u1) ++ wk_MaximalSets1 cA q2 q0 u2) ++ wk_SizeCounts cA q3 q0 u3) ++ wk_NearSets cA q4 q0 u4) ++ wk_Peeling cA q5 q0 u5) ++ wk_Search cA q6 q0 u6)) H := hP
  have hD : va_D A ((h0, .inr (0, [.ref q0, .ref q1, .ref q2, .ref q3, .ref q4, .ref q5, .ref q6, .null, .null, .null])) :: (((((((wk_Net cA q0 u0) ++ wk_MaximalSets0 cA q1 q0 u1) ++ wk_MaximalSets1 cA q2 q0 u2) ++ wk_SizeCounts cA q3 q0 u3) ++ wk_NearSets cA q4 q0 u4) ++ wk_Peeling cA q5 q0 u5) ++ wk_Search cA q6 q0 u6)) := hD
  refine lv_aload_n hx hb dk_CS_107 rfl (lv_at hl 0 rfl) ?_
  refine va_new (ci := 7) (fs := [.null, .int 0, .int 0, .int 0, .int 0, .int 0]) (C := "CliqueSearch$SureCover") (T := cs_T7) (N := 6) hx hb hts (fun w hw => km (cs_in7 w hw) (k_u7 w hw)) cs_ty7 cs_ty7_ok hown (hts _ (km gw_176 rfl)) (hts _ (km gw_177 rfl)) (hts _ (km gw_8 rfl)) hK hP hD hS hA rfl (fun j hj => k_df7 j hj) (Nat.le_of_ble_eq_true rfl) (Nat.le_of_ble_eq_true rfl) dk_CS_108 (fun q7 H hP hD hS => ?_)
  refine lv_dup hx hb dk_CS_111 rfl ?_
  refine lv_aload_n hx hb dk_CS_112 rfl (lv_at hl 0 rfl) ?_
  refine va_get (D := D) (ci := 0) (v := .ref q0) (C := "CliqueSearch") (T := cs_T0) (N := 10) hx hb hts (fun w hw => km (cs_in0 w hw) (k_u0 w hw)) hown hK hP 0 rfl rfl 0 (by decide) (hts _ (km gw_231 rfl)) (fun _ h9 => h9) rfl dk_CS_113 ?_
  have hFc := kf (q := q7) (e := ye_SureCover) hD hS hA
  refine va_callv (va_runIN (As := [.ref q0]) (rest := [.ref q7, .ref h0]) ⟨hx, hb, hml, hown, hts⟩ (kc_SureCover l D cA q7 q0 H.size) ⟨va_cnB 1 hts (kgood gw_180) rfl rfl rfl (hkx.1 _ gw_178 rfl) (hts _ (km gw_8 rfl)) (by decide +kernel) ⟨Nat.le_of_ble_eq_true rfl, Nat.le_of_ble_eq_true rfl⟩, rfl, (hts _ (km gw_179 rfl))⟩ (kP_pre hP.one hK va_D.one hkx) rfl rfl hl.1 rfl (lv_room (Nat.le_of_ble_eq_true rfl)) dk_CS_116 ⟨Nat.le_of_ble_eq_true rfl, Nat.le_of_ble_eq_true rfl⟩) hS (fun q _ h => hFc q h) hFc (fun u7 t H1 locs ht hvm hw hB hz1 hk1 hS => ?_)
  obtain ⟨hP1, hK1, hD1⟩ := hB
  rw [ht] at hP1
  obtain ⟨hP, hD⟩ := kj hP hD hk1 hFc hP1 hD1
  generalize H1 = H at hP hS ⊢
  have hP : va_P D cs_cl ((h0, .inr (0, [.ref q0, .ref q1, .ref q2, .ref q3, .ref q4, .ref q5, .ref q6, .null, .null, .null])) :: ((((((((wk_Net cA q0 u0) ++ wk_MaximalSets0 cA q1 q0 u1) ++ wk_MaximalSets1 cA q2 q0 u2) ++ wk_SizeCounts cA q3 q0 u3) ++ wk_NearSets cA q4 q0 u4) ++ wk_Peeling cA q5 q0 u5) ++ wk_Search cA q6 q0 u6) ++ wk_SureCover cA q7 q0 u7)) H := hP
  have hD : va_D A ((h0, .inr (0, [.ref q0, .ref q1, .ref q2, .ref q3, .ref q4, .ref q5, .ref q6, .null, .null, .null])) :: ((((((((wk_Net cA q0 u0) ++ wk_MaximalSets0 cA q1 q0 u1) ++ wk_MaximalSets1 cA q2 q0 u2) ++ wk_SizeCounts cA q3 q0 u3) ++ wk_NearSets cA q4 q0 u4) ++ wk_Peeling cA q5 q0 u5) ++ wk_Search cA q6 q0 u6) ++ wk_SureCover cA q7 q0 u7)) := hD
  refine va_putF (D := D) (ci := 0) (v := .ref q7) (ty := .object "CliqueSearch$SureCover") (C := "CliqueSearch") (T := cs_T0) (N := 10) hx hb hts (fun w hw => km (cs_in0 w hw) (k_u0 w hw)) cs_ty0 cs_ty0_ok cs_nm0 hown hK hP hD hS 0 rfl rfl 7 (by decide) (hts _ (km gw_238 rfl)) (fun _ h9 => h9) rfl hin rfl (by decide +kernel) rfl rfl (Nat.le_of_ble_eq_true rfl) dk_CS_119 (fun H locs hP hD hS => ?_)
  have hP : va_P D cs_cl ((h0, .inr (0, [.ref q0, .ref q1, .ref q2, .ref q3, .ref q4, .ref q5, .ref q6, .ref q7, .null, .null])) :: ((((((((wk_Net cA q0 u0) ++ wk_MaximalSets0 cA q1 q0 u1) ++ wk_MaximalSets1 cA q2 q0 u2) ++ wk_SizeCounts cA q3 q0 u3) ++ wk_NearSets cA q4 q0 u4) ++ wk_Peeling cA q5 q0 u5) ++ wk_Search cA q6 q0 u6) ++ wk_SureCover cA q7 q0 u7)) H := hP
  have hD : va_D A ((h0, .inr (0, [.ref q0, .ref q1, .ref q2, .ref q3, .ref q4, .ref q5, .ref q6, .ref q7, .null, .null])) :: ((((((((wk_Net cA q0 u0) ++ wk_MaximalSets0 cA q1 q0 u1) ++ wk_MaximalSets1 cA q2 q0 u2) ++ wk_SizeCounts cA q3 q0 u3) ++ wk_NearSets cA q4 q0 u4) ++ wk_Peeling cA q5 q0 u5) ++ wk_Search cA q6 q0 u6) ++ wk_SureCover cA q7 q0 u7)) := hD
  refine lv_aload_n hx hb dk_CS_122 rfl (lv_at hl 0 rfl) ?_
  refine va_new (ci := 8) (fs := [.null, .null, .null, .null, .null, .int 0, .int 0]) (C := "CliqueSearch$Matching") (T := cs_T8) (N := 7) hx hb hts (fun w hw => km (cs_in8 w hw) (k_u8 w hw)) cs_ty8 cs_ty8_ok hown (hts _ (km gw_203 rfl)) (hts _ (km gw_204 rfl)) (hts _ (km gw_9 rfl)) hK hP hD hS hA rfl (fun j hj => k_df8 j hj) (Nat.le_of_ble_eq_true rfl) (Nat.le_of_ble_eq_true rfl) dk_CS_123 (fun q8 H hP hD hS => ?_)
  refine lv_dup hx hb dk_CS_126 rfl ?_
  refine lv_aload_n hx hb dk_CS_127 rfl (lv_at hl 0 rfl) ?_
  refine va_get (D := D) (ci := 0) (v := .ref q0) (C := "CliqueSearch") (T := cs_T0) (N := 10) hx hb hts (fun w hw => km (cs_in0 w hw) (k_u0 w hw)) hown hK hP 0 rfl rfl 0 (by decide) (hts _ (km gw_231 rfl)) (fun _ h9 => h9) rfl dk_CS_128 ?_
  have hFc := kf (q := q8) (e := ye_Matching) hD hS hA
  refine va_callv (va_runIN (As := [.ref q0]) (rest := [.ref q8, .ref h0]) ⟨hx, hb, hml, hown, hts⟩ (kc_Matching l D cA q8 q0 H.size) ⟨va_cnB 1 hts (kgood gw_207) rfl rfl rfl (hkx.1 _ gw_205 rfl) (hts _ (km gw_9 rfl)) (by decide +kernel) ⟨Nat.le_of_ble_eq_true rfl, Nat.le_of_ble_eq_true rfl⟩, rfl, (hts _ (km gw_206 rfl))⟩ (kP_pre hP.one hK va_D.one hkx) rfl rfl hl.1 rfl (lv_room (Nat.le_of_ble_eq_true rfl)) dk_CS_131 ⟨Nat.le_of_ble_eq_true rfl, Nat.le_of_ble_eq_true rfl⟩) hS (fun q _ h => hFc q h) hFc (fun u8 t H1 locs ht hvm hw hB hz1 hk1 hS => ?_)
  obtain ⟨hP1, hK1, hD1⟩ := hB
  rw [ht] at hP1
  obtain ⟨hP, hD⟩ := kj hP hD hk1 hFc hP1 hD1
  generalize H1 = H at hP hS ⊢
  have hP : va_P D cs_cl ((h0, .inr (0, [.ref q0, .ref q1, .ref q2, .ref q3, .ref q4, .ref q5, .ref q6, .ref q7, .null, .null])) :: (((((((((wk_Net cA q0 u0) ++ wk_MaximalSets0 cA q1 q0 u1) ++ wk_MaximalSets1 cA q2 q0 u2) ++ wk_SizeCounts cA q3 q0 u3) ++ wk_NearSets cA q4 q0 u4) ++ wk_Peeling cA q5 q0 u5) ++ wk_Search cA q6 q0 u6) ++ wk_SureCover cA q7 q0 u7) ++ wk_Matching cA q8 q0 u8)) H := hP
  have hD : va_D A ((h0, .inr (0, [.ref q0, .ref q1, .ref q2, .ref q3, .ref q4, .ref q5, .ref q6, .ref q7, .null, .null])) :: (((((((((wk_Net cA q0 u0) ++ wk_MaximalSets0 cA q1 q0 u1) ++ wk_MaximalSets1 cA q2 q0 u2) ++ wk_SizeCounts cA q3 q0 u3) ++ wk_NearSets cA q4 q0 u4) ++ wk_Peeling cA q5 q0 u5) ++ wk_Search cA q6 q0 u6) ++ wk_SureCover cA q7 q0 u7) ++ wk_Matching cA q8 q0 u8)) := hD
  refine va_putF (D := D) (ci := 0) (v := .ref q8) (ty := .object "CliqueSearch$Matching") (C := "CliqueSearch") (T := cs_T0) (N := 10) hx hb hts (fun w hw => km (cs_in0 w hw) (k_u0 w hw)) cs_ty0 cs_ty0_ok cs_nm0 hown hK hP hD hS 0 rfl rfl 8 (by decide) (hts _ (km gw_239 rfl)) (fun _ h9 => h9) rfl hin rfl (by decide +kernel) rfl rfl (Nat.le_of_ble_eq_true rfl) dk_CS_134 (fun H locs hP hD hS => ?_)
  have hP : va_P D cs_cl ((h0, .inr (0, [.ref q0, .ref q1, .ref q2, .ref q3, .ref q4, .ref q5, .ref q6, .ref q7, .ref q8, .null])) :: (((((((((wk_Net cA q0 u0) ++ wk_MaximalSets0 cA q1 q0 u1) ++ wk_MaximalSets1 cA q2 q0 u2) ++ wk_SizeCounts cA q3 q0 u3) ++ wk_NearSets cA q4 q0 u4) ++ wk_Peeling cA q5 q0 u5) ++ wk_Search cA q6 q0 u6) ++ wk_SureCover cA q7 q0 u7) ++ wk_Matching cA q8 q0 u8)) H := hP
  have hD : va_D A ((h0, .inr (0, [.ref q0, .ref q1, .ref q2, .ref q3, .ref q4, .ref q5, .ref q6, .ref q7, .ref q8, .null])) :: (((((((((wk_Net cA q0 u0) ++ wk_MaximalSets0 cA q1 q0 u1) ++ wk_MaximalSets1 cA q2 q0 u2) ++ wk_SizeCounts cA q3 q0 u3) ++ wk_NearSets cA q4 q0 u4) ++ wk_Peeling cA q5 q0 u5) ++ wk_Search cA q6 q0 u6) ++ wk_SureCover cA q7 q0 u7) ++ wk_Matching cA q8 q0 u8)) := hD
  refine lv_aload_n hx hb dk_CS_137 rfl (lv_at hl 0 rfl) ?_
  refine lv_bipush (v := 17) hx hb dk_CS_138 (by decide) ?_
  refine va_newa (atype := .int) (ty := .int) (N' := 17) (a0 := (17, .inl (fun _ => 0))) hx hb (hts _ (km gw_48 rfl)) rfl hK hP hD hS hA (fun _ => rfl) (by decide) (by decide) (by decide) (Nat.le_of_ble_eq_true rfl) (Nat.le_of_ble_eq_true rfl) dk_CS_140 (fun q9 cA1 H hK1 hP hD hS => ?_)
  have e1 : cA1 = cA 0 := k_same hK1 (i := 3) (j := 0) rfl rfl (by decide)
  subst e1
  have hP : va_P D cs_cl ((h0, .inr (0, [.ref q0, .ref q1, .ref q2, .ref q3, .ref q4, .ref q5, .ref q6, .ref q7, .ref q8, .null])) :: ((((((((((wk_Net cA q0 u0) ++ wk_MaximalSets0 cA q1 q0 u1) ++ wk_MaximalSets1 cA q2 q0 u2) ++ wk_SizeCounts cA q3 q0 u3) ++ wk_NearSets cA q4 q0 u4) ++ wk_Peeling cA q5 q0 u5) ++ wk_Search cA q6 q0 u6) ++ wk_SureCover cA q7 q0 u7) ++ wk_Matching cA q8 q0 u8) ++ [(q9, .inl (cA 0, 17, .inl (fun _ => 0)))])) H := hP
  have hD : va_D A ((h0, .inr (0, [.ref q0, .ref q1, .ref q2, .ref q3, .ref q4, .ref q5, .ref q6, .ref q7, .ref q8, .null])) :: ((((((((((wk_Net cA q0 u0) ++ wk_MaximalSets0 cA q1 q0 u1) ++ wk_MaximalSets1 cA q2 q0 u2) ++ wk_SizeCounts cA q3 q0 u3) ++ wk_NearSets cA q4 q0 u4) ++ wk_Peeling cA q5 q0 u5) ++ wk_Search cA q6 q0 u6) ++ wk_SureCover cA q7 q0 u7) ++ wk_Matching cA q8 q0 u8) ++ [(q9, .inl (cA 0, 17, .inl (fun _ => 0)))])) := hD
  refine va_putF (D := D) (ci := 0) (v := .ref q9) (ty := .array .int) (C := "CliqueSearch") (T := cs_T0) (N := 10) hx hb hts (fun w hw => km (cs_in0 w hw) (k_u0 w hw)) cs_ty0 cs_ty0_ok cs_nm0 hown hK hP hD hS 0 rfl rfl 9 (by decide) (hts _ (km gw_240 rfl)) (fun _ h9 => h9) rfl hin rfl (by decide +kernel) rfl rfl (Nat.le_of_ble_eq_true rfl) dk_CS_142 (fun H locs hP hD hS => ?_)
  have hP : va_P D cs_cl ((h0, .inr (0, [.ref q0, .ref q1, .ref q2, .ref q3, .ref q4, .ref q5, .ref q6, .ref q7, .ref q8, .ref q9])) :: ((((((((((wk_Net cA q0 u0) ++ wk_MaximalSets0 cA q1 q0 u1) ++ wk_MaximalSets1 cA q2 q0 u2) ++ wk_SizeCounts cA q3 q0 u3) ++ wk_NearSets cA q4 q0 u4) ++ wk_Peeling cA q5 q0 u5) ++ wk_Search cA q6 q0 u6) ++ wk_SureCover cA q7 q0 u7) ++ wk_Matching cA q8 q0 u8) ++ [(q9, .inl (cA 0, 17, .inl (fun _ => 0)))])) H := hP
  have hD : va_D A ((h0, .inr (0, [.ref q0, .ref q1, .ref q2, .ref q3, .ref q4, .ref q5, .ref q6, .ref q7, .ref q8, .ref q9])) :: ((((((((((wk_Net cA q0 u0) ++ wk_MaximalSets0 cA q1 q0 u1) ++ wk_MaximalSets1 cA q2 q0 u2) ++ wk_SizeCounts cA q3 q0 u3) ++ wk_NearSets cA q4 q0 u4) ++ wk_Peeling cA q5 q0 u5) ++ wk_Search cA q6 q0 u6) ++ wk_SureCover cA q7 q0 u7) ++ wk_Matching cA q8 q0 u8) ++ [(q9, .inl (cA 0, 17, .inl (fun _ => 0)))])) := hD
  have hx4 : ∀ k, k < 19 → u4 k = ([0, q0, u0 0, u0 1, q1, u1 0, u1 1, q2, u2 0, u2 1, q3, u3 0, q4, u4 0, u4 1, u4 2, u4 3, u4 4, u4 5, u4 6, u4 7, u4 8, u4 9, u4 10, u4 11, u4 12, u4 13, u4 14, u4 15, u4 16, u4 17, u4 18, q5, u5 0, u5 1, q6, u6 0, u6 1, u6 2, u6 3, u6 4, u6 5, u6 6, u6 7, u6 8, u6 9, u6 10, u6 11, u6 12, u6 13, u6 14, u6 15, u6 16, u6 17, q7, q8, u8 0, u8 1, u8 2, u8 3, q9] : List Nat).getD (13 + k) 0 := fun k hk => by
    match k, hk with
    | 0, _ => rfl
    | 1, _ => rfl
    | 2, _ => rfl
    | 3, _ => rfl
    | 4, _ => rfl
    | 5, _ => rfl
    | 6, _ => rfl
    | 7, _ => rfl
    | 8, _ => rfl
    | 9, _ => rfl
    | 10, _ => rfl
    | 11, _ => rfl
    | 12, _ => rfl
    | 13, _ => rfl
    | 14, _ => rfl
    | 15, _ => rfl
    | 16, _ => rfl
    | 17, _ => rfl
    | 18, _ => rfl
    | n + 19, hk => omega
  rw [wk_NearSets_ext hx4] at hP hD
  have hx6 : ∀ k, k < 18 → u6 k = ([0, q0, u0 0, u0 1, q1, u1 0, u1 1, q2, u2 0, u2 1, q3, u3 0, q4, u4 0, u4 1, u4 2, u4 3, u4 4, u4 5, u4 6, u4 7, u4 8, u4 9, u4 10, u4 11, u4 12, u4 13, u4 14, u4 15, u4 16, u4 17, u4 18, q5, u5 0, u5 1, q6, u6 0, u6 1, u6 2, u6 3, u6 4, u6 5, u6 6, u6 7, u6 8, u6 9, u6 10, u6 11, u6 12, u6 13, u6 14, u6 15, u6 16, u6 17, q7, q8, u8 0, u8 1, u8 2, u8 3, q9] : List Nat).getD (36 + k) 0 := fun k hk => by
    match k, hk with
    | 0, _ => rfl
    | 1, _ => rfl
    | 2, _ => rfl
    | 3, _ => rfl
    | 4, _ => rfl
    | 5, _ => rfl
    | 6, _ => rfl
    | 7, _ => rfl
    | 8, _ => rfl
    | 9, _ => rfl
    | 10, _ => rfl
    | 11, _ => rfl
    | 12, _ => rfl
    | 13, _ => rfl
    | 14, _ => rfl
    | 15, _ => rfl
    | 16, _ => rfl
    | 17, _ => rfl
    | n + 18, hk => omega
  rw [wk_Search_ext hx6] at hP hD
  refine W.widen (k := 60) (n := 1318) (by decide) (by decide) ?_
  exact W.vret hx hb hr (fun t ht hW => ⟨⟨(fun k => ([0, q0, u0 0, u0 1, q1, u1 0, u1 1, q2, u2 0, u2 1, q3, u3 0, q4, u4 0, u4 1, u4 2, u4 3, u4 4, u4 5, u4 6, u4 7, u4 8, u4 9, u4 10, u4 11, u4 12, u4 13, u4 14, u4 15, u4 16, u4 17, u4 18, q5, u5 0, u5 1, q6, u6 0, u6 1, u6 2, u6 3, u6 4, u6 5, u6 6, u6 7, u6 8, u6 9, u6 10, u6 11, u6 12, u6 13, u6 14, u6 15, u6 16, u6 17, q7, q8, u8 0, u8 1, u8 2, u8 3, q9] : List Nat).getD k 0), rfl, trivial, by rw [ht]; exact hP, va_K.moved hW.alike hK, hD⟩, hS.F ht⟩) hS.2.2 dk_CS_145

theorem k_u0 : ∀ w ∈ u_ws "CliqueSearch" cs_T0 10, goodWord w = true := by
  intro w hw
  simp only [u_ws, List.range, List.range.loop, List.map_cons, List.map_nil, List.mem_cons, List.not_mem_nil, or_false] at hw
  rcases hw with rfl | rfl | rfl | rfl | rfl | rfl | rfl | rfl | rfl | rfl <;> rfl
theorem k_u1 : ∀ w ∈ u_ws "CliqueSearch$Net" cs_T1 4, goodWord w = true := by
  intro w hw
  simp only [u_ws, List.range, List.range.loop, List.map_cons, List.map_nil, List.mem_cons, List.not_mem_nil, or_false] at hw
  rcases hw with rfl | rfl | rfl | rfl <;> rfl
theorem k_u2 : ∀ w ∈ u_ws "CliqueSearch$MaximalSets" cs_T2 6, goodWord w = true := by
  intro w hw
  simp only [u_ws, List.range, List.range.loop, List.map_cons, List.map_nil, List.mem_cons, List.not_mem_nil, or_false] at hw
  rcases hw with rfl | rfl | rfl | rfl | rfl | rfl <;> rfl
theorem k_u3 : ∀ w ∈ u_ws "CliqueSearch$SizeCounts" cs_T3 3, goodWord w = true := by
  intro w hw
  simp only [u_ws, List.range, List.range.loop, List.map_cons, List.map_nil, List.mem_cons, List.not_mem_nil, or_false] at hw
  rcases hw with rfl | rfl | rfl <;> rfl
theorem k_u4 : ∀ w ∈ u_ws "CliqueSearch$NearSets" cs_T4 6, goodWord w = true := by
  intro w hw
  simp only [u_ws, List.range, List.range.loop, List.map_cons, List.map_nil, List.mem_cons, List.not_mem_nil, or_false] at hw
  rcases hw with rfl | rfl | rfl | rfl | rfl | rfl <;> rfl
theorem k_u5 : ∀ w ∈ u_ws "CliqueSearch$Peeling" cs_T5 4, goodWord w = true := by
  intro w hw
  simp only [u_ws, List.range, List.range.loop, List.map_cons, List.map_nil, List.mem_cons, List.not_mem_nil, or_false] at hw
  rcases hw with rfl | rfl | rfl | rfl <;> rfl
theorem k_u6 : ∀ w ∈ u_ws "CliqueSearch$Search" cs_T6 9, goodWord w = true := by
  intro w hw
  simp only [u_ws, List.range, List.range.loop, List.map_cons, List.map_nil, List.mem_cons, List.not_mem_nil, or_false] at hw
  rcases hw with rfl | rfl | rfl | rfl | rfl | rfl | rfl | rfl | rfl <;> rfl
theorem k_u7 : ∀ w ∈ u_ws "CliqueSearch$SureCover" cs_T7 6, goodWord w = true := by
  intro w hw
  simp only [u_ws, List.range, List.range.loop, List.map_cons, List.map_nil, List.mem_cons, List.not_mem_nil, or_false] at hw
  rcases hw with rfl | rfl | rfl | rfl | rfl | rfl <;> rfl
theorem k_u8 : ∀ w ∈ u_ws "CliqueSearch$Matching" cs_T8 7, goodWord w = true := by
  intro w hw
  simp only [u_ws, List.range, List.range.loop, List.map_cons, List.map_nil, List.mem_cons, List.not_mem_nil, or_false] at hw
  rcases hw with rfl | rfl | rfl | rfl | rfl | rfl | rfl <;> rfl
theorem k_u9 : ∀ w ∈ u_ws "CliqueSearchModel" cs_T9 18, goodWord w = true := by
  intro w hw
  simp only [u_ws, List.range, List.range.loop, List.map_cons, List.map_nil, List.mem_cons, List.not_mem_nil, or_false] at hw
  rcases hw with rfl | rfl | rfl | rfl | rfl | rfl | rfl | rfl | rfl | rfl | rfl | rfl | rfl | rfl | rfl | rfl | rfl | rfl <;> rfl
theorem dk_Net_0 : decode prog_5_method_1_code 0 = .ok (.aload_n 0, 1) := by decide +kernel
theorem dk_Net_1 : decode prog_5_method_1_code 1 = .ok (.invokespecial 3, 3) := by decide +kernel
theorem dk_Net_4 : decode prog_5_method_1_code 4 = .ok (.aload_n 0, 1) := by decide +kernel
theorem dk_Net_5 : decode prog_5_method_1_code 5 = .ok (.bipush 16, 2) := by decide +kernel
theorem dk_Net_7 : decode prog_5_method_1_code 7 = .ok (.newarray .int, 2) := by decide +kernel
theorem dk_Net_9 : decode prog_5_method_1_code 9 = .ok (.putfield 9, 3) := by decide +kernel
theorem dk_Net_12 : decode prog_5_method_1_code 12 = .ok (.aload_n 0, 1) := by decide +kernel
theorem dk_Net_13 : decode prog_5_method_1_code 13 = .ok (.bipush 16, 2) := by decide +kernel
theorem dk_Net_15 : decode prog_5_method_1_code 15 = .ok (.newarray .int, 2) := by decide +kernel
theorem dk_Net_17 : decode prog_5_method_1_code 17 = .ok (.putfield 15, 3) := by decide +kernel
theorem dk_Net_20 : decode prog_5_method_1_code 20 = .ok (.return_, 1) := by decide +kernel
theorem gw_28 : Cond.methodLink "CliqueSearch$Net" (3 : Nat) ({ cls := "java/lang/Object", name := "<init>", desc := "()V" } : MethodName) ∈ cs_G := List.mem_filter.mpr ⟨List.mem_append_right _ (List.mem_append_left _ (List.mem_of_getElem? (i := 28) rfl)), rfl⟩
theorem gw_21 : Cond.instanceMethod ({ cls := "java/lang/Object", name := "<init>", desc := "()V" } : MethodName) ∈ cs_G := List.mem_filter.mpr ⟨List.mem_append_right _ (List.mem_append_left _ (List.mem_of_getElem? (i := 21) rfl)), rfl⟩
theorem gw_22 : Cond.code ({ cls := "java/lang/Object", name := "<init>", desc := "()V" } : MethodName) object_method_1_code (1 : Nat) (Option.none : Option FieldType) ∈ cs_G := List.mem_filter.mpr ⟨List.mem_append_right _ (List.mem_append_left _ (List.mem_of_getElem? (i := 22) rfl)), rfl⟩
theorem gw_48 : Cond.arrayClass FieldType.int ∈ cs_G := List.mem_filter.mpr ⟨List.mem_append_right _ (List.mem_append_left _ (List.mem_of_getElem? (i := 48) rfl)), rfl⟩
def wk_Net (cA : Nat → ClassId) (h0 : Nat)  (u : Nat → Nat) : va_W := [(h0, .inr (1, [.int 0, .int 0, .ref (u 0), .ref (u 1)])), (u 0, .inl (cA 0, 16, .inl (fun _ => 0))), (u 1, .inl (cA 0, 16, .inl (fun _ => 0)))]
def yk_Net : MethodName := ⟨"CliqueSearch$Net", "<init>", "()V"⟩
def ye_Net : va_E := .inr (1, [.int 0, .int 0, .null, .null])
set_option maxHeartbeats 4000000 in
set_option maxRecDepth 100000 in
theorem kc_Net (l : Launch) (D : va_G) (cA : Nat → ClassId) (h0 : Nat)  (sz : Nat) : Met l yk_Net (mi_ws cs_G (yk_Net, prog_5_method_1_code, 1, none)) ({ frames := 1, cells := 2, slots := 32, locals := 12 }) (kP D cA h0 ye_Net [.ref h0] sz) (kQ D cA (wk_Net cA h0 ) (va_A [(h0, ye_Net)] sz)) 2 32 (va_A [(h0, ye_Net)] sz) := by
  refine Met.ofW (cc := prog_5_method_1_code) (maxL := 1) (ret := none) (by decide) rfl ?_
  intro p e s m args below meth c s₁ B hml hv
  obtain ⟨rfl, hsz, hP, hK, hD0, hkx⟩ := hv
  have hx := B.exec
  have hb := B.bytes
  have hr := B.returns
  have hts := atoms_spec (ws := mi_ws cs_G (yk_Net, prog_5_method_1_code, 1, none)) B.pre
  have hown : s.vm.findClass "CliqueSearch$Net" = some m.cls := findClass_of_methodNamed B.named
  have hin : meth.name = "<init>" := (name_of_methodNamed B.named B.method).1
  subst hsz
  have hD := hD0.self (sz := s.heap.size)
  generalize hAe : va_A [(h0, ye_Net)] s.heap.size = A at hD ⊢
  have hA : ∀ q : Nat, s.heap.size ≤ q → A q := fun q h => by rw [← hAe]; exact Or.inr h
  have hS : va_S A s.heap s.heap [] := va_S.rf
  have hP : va_P D cs_cl [(h0, .inr (1, [.int 0, .int 0, .null, .null]))] s.heap := hP
  have hD : va_D A [(h0, .inr (1, [.int 0, .int 0, .null, .null]))] := hD
  have hl := lv_entry ([.ref h0]) (n := 1) (Nat.le_of_ble_eq_true rfl)
  rw [lg_entry_eq]
  generalize (lg_sl ([.ref h0]) ++ List.replicate (1 - (lg_sl ([.ref h0])).length) Slot.unset).toArray = ls at hl ⊢
  have hl : lv_has ls 1 [(0, .ref h0)] := hl
  refine lv_aload_n hx hb dk_Net_0 rfl (lv_at hl 0 rfl) ?_
  refine W.objInit hx hb hown (hts _ (km gw_28 rfl)) (hts _ (km gw_21 rfl)) (hts _ (km gw_22 rfl)) rfl (by rw [hml]; exact hl.1) rfl dk_Net_1 (Nat.le_of_ble_eq_true rfl) (Nat.le_of_ble_eq_true rfl) ?_
  refine W.eq (g2 := F0 m 4 ls []) rfl ?_
  refine lv_aload_n hx hb dk_Net_4 rfl (lv_at hl 0 rfl) ?_
  refine lv_bipush (v := 16) hx hb dk_Net_5 (by decide) ?_
  refine va_newa (atype := .int) (ty := .int) (N' := 16) (a0 := (16, .inl (fun _ => 0))) hx hb (hts _ (km gw_48 rfl)) rfl hK hP hD hS hA (fun _ => rfl) (by decide) (by decide) (by decide) (Nat.le_of_ble_eq_true rfl) (Nat.le_of_ble_eq_true rfl) dk_Net_7 (fun q0 cA1 H hK1 hP hD hS => ?_)
  have e1 : cA1 = cA 0 := k_same hK1 (i := 3) (j := 0) rfl rfl (by decide)
  subst e1
  have hP : va_P D cs_cl [(h0, .inr (1, [.int 0, .int 0, .null, .null])), (q0, .inl (cA 0, 16, .inl (fun _ => 0)))] H := hP
  have hD : va_D A [(h0, .inr (1, [.int 0, .int 0, .null, .null])), (q0, .inl (cA 0, 16, .inl (fun _ => 0)))] := hD
  refine va_putF (D := D) (ci := 1) (v := .ref q0) (ty := .array .int) (C := "CliqueSearch$Net") (T := cs_T1) (N := 4) hx hb hts (fun w hw => km (cs_in1 w hw) (k_u1 w hw)) cs_ty1 cs_ty1_ok cs_nm1 hown hK hP hD hS 0 rfl rfl 2 (by decide) (hts _ (km gw_37 rfl)) (fun _ h9 => h9) rfl hin rfl (by decide +kernel) rfl rfl (Nat.le_of_ble_eq_true rfl) dk_Net_9 (fun H locs hP hD hS => ?_)
  have hP : va_P D cs_cl [(h0, .inr (1, [.int 0, .int 0, .ref q0, .null])), (q0, .inl (cA 0, 16, .inl (fun _ => 0)))] H := hP
  have hD : va_D A [(h0, .inr (1, [.int 0, .int 0, .ref q0, .null])), (q0, .inl (cA 0, 16, .inl (fun _ => 0)))] := hD
  refine lv_aload_n hx hb dk_Net_12 rfl (lv_at hl 0 rfl) ?_
  refine lv_bipush (v := 16) hx hb dk_Net_13 (by decide) ?_
  refine va_newa (atype := .int) (ty := .int) (N' := 16) (a0 := (16, .inl (fun _ => 0))) hx hb (hts _ (km gw_48 rfl)) rfl hK hP hD hS hA (fun _ => rfl) (by decide) (by decide) (by decide) (Nat.le_of_ble_eq_true rfl) (Nat.le_of_ble_eq_true rfl) dk_Net_15 (fun q1 cA1 H hK1 hP hD hS => ?_)
  have e1 : cA1 = cA 0 := k_same hK1 (i := 3) (j := 0) rfl rfl (by decide)
  subst e1
  have hP : va_P D cs_cl [(h0, .inr (1, [.int 0, .int 0, .ref q0, .null])), (q0, .inl (cA 0, 16, .inl (fun _ => 0))), (q1, .inl (cA 0, 16, .inl (fun _ => 0)))] H := hP
  have hD : va_D A [(h0, .inr (1, [.int 0, .int 0, .ref q0, .null])), (q0, .inl (cA 0, 16, .inl (fun _ => 0))), (q1, .inl (cA 0, 16, .inl (fun _ => 0)))] := hD
  refine va_putF (D := D) (ci := 1) (v := .ref q1) (ty := .array .int) (C := "CliqueSearch$Net") (T := cs_T1) (N := 4) hx hb hts (fun w hw => km (cs_in1 w hw) (k_u1 w hw)) cs_ty1 cs_ty1_ok cs_nm1 hown hK hP hD hS 0 rfl rfl 3 (by decide) (hts _ (km gw_38 rfl)) (fun _ h9 => h9) rfl hin rfl (by decide +kernel) rfl rfl (Nat.le_of_ble_eq_true rfl) dk_Net_17 (fun H locs hP hD hS => ?_)
  have hP : va_P D cs_cl [(h0, .inr (1, [.int 0, .int 0, .ref q0, .ref q1])), (q0, .inl (cA 0, 16, .inl (fun _ => 0))), (q1, .inl (cA 0, 16, .inl (fun _ => 0)))] H := hP
  have hD : va_D A [(h0, .inr (1, [.int 0, .int 0, .ref q0, .ref q1])), (q0, .inl (cA 0, 16, .inl (fun _ => 0))), (q1, .inl (cA 0, 16, .inl (fun _ => 0)))] := hD
  refine W.widen (k := 2) (n := 32) (by decide) (by decide) ?_
  exact W.vret hx hb hr (fun t ht hW => ⟨⟨(fun k => [q0, q1].getD k 0), rfl, trivial, by rw [ht]; exact hP, va_K.moved hW.alike hK, hD⟩, hS.F ht⟩) hS.2.2 dk_Net_20
theorem dk_MaximalSets0_0 : decode prog_3_method_1_code 0 = .ok (.aload_n 0, 1) := by decide +kernel
theorem dk_MaximalSets0_1 : decode prog_3_method_1_code 1 = .ok (.invokespecial 3, 3) := by decide +kernel
theorem dk_MaximalSets0_4 : decode prog_3_method_1_code 4 = .ok (.aload_n 0, 1) := by decide +kernel
theorem dk_MaximalSets0_5 : decode prog_3_method_1_code 5 = .ok (.bipush 16, 2) := by decide +kernel
theorem dk_MaximalSets0_7 : decode prog_3_method_1_code 7 = .ok (.newarray .int, 2) := by decide +kernel
theorem dk_MaximalSets0_9 : decode prog_3_method_1_code 9 = .ok (.putfield 9, 3) := by decide +kernel
theorem dk_MaximalSets0_12 : decode prog_3_method_1_code 12 = .ok (.aload_n 0, 1) := by decide +kernel
theorem dk_MaximalSets0_13 : decode prog_3_method_1_code 13 = .ok (.sipush 324, 3) := by decide +kernel
theorem dk_MaximalSets0_16 : decode prog_3_method_1_code 16 = .ok (.newarray .int, 2) := by decide +kernel
theorem dk_MaximalSets0_18 : decode prog_3_method_1_code 18 = .ok (.putfield 15, 3) := by decide +kernel
theorem dk_MaximalSets0_21 : decode prog_3_method_1_code 21 = .ok (.aload_n 0, 1) := by decide +kernel
theorem dk_MaximalSets0_22 : decode prog_3_method_1_code 22 = .ok (.iconst (-1), 1) := by decide +kernel
theorem dk_MaximalSets0_23 : decode prog_3_method_1_code 23 = .ok (.putfield 18, 3) := by decide +kernel
theorem dk_MaximalSets0_26 : decode prog_3_method_1_code 26 = .ok (.aload_n 0, 1) := by decide +kernel
theorem dk_MaximalSets0_27 : decode prog_3_method_1_code 27 = .ok (.aload_n 1, 1) := by decide +kernel
theorem dk_MaximalSets0_28 : decode prog_3_method_1_code 28 = .ok (.putfield 22, 3) := by decide +kernel
theorem dk_MaximalSets0_31 : decode prog_3_method_1_code 31 = .ok (.aload_n 0, 1) := by decide +kernel
theorem dk_MaximalSets0_32 : decode prog_3_method_1_code 32 = .ok (.iload_n 2, 1) := by decide +kernel
theorem dk_MaximalSets0_33 : decode prog_3_method_1_code 33 = .ok (.putfield 26, 3) := by decide +kernel
theorem dk_MaximalSets0_36 : decode prog_3_method_1_code 36 = .ok (.return_, 1) := by decide +kernel
theorem gw_54 : Cond.methodLink "CliqueSearch$MaximalSets" (3 : Nat) ({ cls := "java/lang/Object", name := "<init>", desc := "()V" } : MethodName) ∈ cs_G := List.mem_filter.mpr ⟨List.mem_append_right _ (List.mem_append_left _ (List.mem_of_getElem? (i := 54) rfl)), rfl⟩
def wk_MaximalSets0 (cA : Nat → ClassId) (h0 : Nat) (n0 : Nat) (u : Nat → Nat) : va_W := [(h0, .inr (2, [.ref n0, .int 0, .ref (u 0), .ref (u 1), .int 0, .int (-1)])), (u 0, .inl (cA 0, 16, .inl (fun _ => 0))), (u 1, .inl (cA 0, 324, .inl (fun _ => 0)))]
def yk_MaximalSets0 : MethodName := ⟨"CliqueSearch$MaximalSets", "<init>", "(LCliqueSearch$Net;Z)V"⟩
def ye_MaximalSets0 : va_E := .inr (2, [.null, .int 0, .null, .null, .int 0, .int 0])
set_option maxHeartbeats 4000000 in
set_option maxRecDepth 100000 in
theorem kc_MaximalSets0 (l : Launch) (D : va_G) (cA : Nat → ClassId) (h0 : Nat) (n0 : Nat) (sz : Nat) : Met l yk_MaximalSets0 (mi_ws cs_G (yk_MaximalSets0, prog_3_method_1_code, 3, none)) ({ frames := 1, cells := 2, slots := 340, locals := 12 }) (kP D cA h0 ye_MaximalSets0 [.ref h0, .ref n0, .int 0] sz) (kQ D cA (wk_MaximalSets0 cA h0 n0) (va_A [(h0, ye_MaximalSets0)] sz)) 2 340 (va_A [(h0, ye_MaximalSets0)] sz) := by
  refine Met.ofW (cc := prog_3_method_1_code) (maxL := 3) (ret := none) (by decide) rfl ?_
  intro p e s m args below meth c s₁ B hml hv
  obtain ⟨rfl, hsz, hP, hK, hD0, hkx⟩ := hv
  have hx := B.exec
  have hb := B.bytes
  have hr := B.returns
  have hts := atoms_spec (ws := mi_ws cs_G (yk_MaximalSets0, prog_3_method_1_code, 3, none)) B.pre
  have hown : s.vm.findClass "CliqueSearch$MaximalSets" = some m.cls := findClass_of_methodNamed B.named
  have hin : meth.name = "<init>" := (name_of_methodNamed B.named B.method).1
  subst hsz
  have hD := hD0.self (sz := s.heap.size)
  generalize hAe : va_A [(h0, ye_MaximalSets0)] s.heap.size = A at hD ⊢
  have hA : ∀ q : Nat, s.heap.size ≤ q → A q := fun q h => by rw [← hAe]; exact Or.inr h
  have hS : va_S A s.heap s.heap [] := va_S.rf
  have hP : va_P D cs_cl [(h0, .inr (2, [.null, .int 0, .null, .null, .int 0, .int 0]))] s.heap := hP
  have hD : va_D A [(h0, .inr (2, [.null, .int 0, .null, .null, .int 0, .int 0]))] := hD
  have hl := lv_entry ([.ref h0, .ref n0, .int 0]) (n := 3) (Nat.le_of_ble_eq_true rfl)
  rw [lg_entry_eq]
  generalize (lg_sl ([.ref h0, .ref n0, .int 0]) ++ List.replicate (3 - (lg_sl ([.ref h0, .ref n0, .int 0])).length) Slot.unset).toArray = ls at hl ⊢
  have hl : lv_has ls 3 [(0, .ref h0), (1, .ref n0), (2, .int 0)] := hl
  refine lv_aload_n hx hb dk_MaximalSets0_0 rfl (lv_at hl 0 rfl) ?_
  refine W.objInit hx hb hown (hts _ (km gw_54 rfl)) (hts _ (km gw_21 rfl)) (hts _ (km gw_22 rfl)) rfl (by rw [hml]; exact hl.1) rfl dk_MaximalSets0_1 (Nat.le_of_ble_eq_true rfl) (Nat.le_of_ble_eq_true rfl) ?_
  refine W.eq (g2 := F0 m 4 ls []) rfl ?_
  refine lv_aload_n hx hb dk_MaximalSets0_4 rfl (lv_at hl 0 rfl) ?_
  refine lv_bipush (v := 16) hx hb dk_MaximalSets0_5 (by decide) ?_
  refine va_newa (atype := .int) (ty := .int) (N' := 16) (a0 := (16, .inl (fun _ => 0))) hx hb (hts _ (km gw_48 rfl)) rfl hK hP hD hS hA (fun _ => rfl) (by decide) (by decide) (by decide) (Nat.le_of_ble_eq_true rfl) (Nat.le_of_ble_eq_true rfl) dk_MaximalSets0_7 (fun q0 cA1 H hK1 hP hD hS => ?_)
  have e1 : cA1 = cA 0 := k_same hK1 (i := 3) (j := 0) rfl rfl (by decide)
  subst e1
  have hP : va_P D cs_cl [(h0, .inr (2, [.null, .int 0, .null, .null, .int 0, .int 0])), (q0, .inl (cA 0, 16, .inl (fun _ => 0)))] H := hP
  have hD : va_D A [(h0, .inr (2, [.null, .int 0, .null, .null, .int 0, .int 0])), (q0, .inl (cA 0, 16, .inl (fun _ => 0)))] := hD
  refine va_putF (D := D) (ci := 2) (v := .ref q0) (ty := .array .int) (C := "CliqueSearch$MaximalSets") (T := cs_T2) (N := 6) hx hb hts (fun w hw => km (cs_in2 w hw) (k_u2 w hw)) cs_ty2 cs_ty2_ok cs_nm2 hown hK hP hD hS 0 rfl rfl 2 (by decide) (hts _ (km gw_57 rfl)) (fun _ h9 => h9) rfl hin rfl (by decide +kernel) rfl rfl (Nat.le_of_ble_eq_true rfl) dk_MaximalSets0_9 (fun H locs hP hD hS => ?_)
  have hP : va_P D cs_cl [(h0, .inr (2, [.null, .int 0, .ref q0, .null, .int 0, .int 0])), (q0, .inl (cA 0, 16, .inl (fun _ => 0)))] H := hP
  have hD : va_D A [(h0, .inr (2, [.null, .int 0, .ref q0, .null, .int 0, .int 0])), (q0, .inl (cA 0, 16, .inl (fun _ => 0)))] := hD
  refine lv_aload_n hx hb dk_MaximalSets0_12 rfl (lv_at hl 0 rfl) ?_
  refine lv_sipush (v := 324) hx hb dk_MaximalSets0_13 (by decide) ?_
  refine va_newa (atype := .int) (ty := .int) (N' := 324) (a0 := (324, .inl (fun _ => 0))) hx hb (hts _ (km gw_48 rfl)) rfl hK hP hD hS hA (fun _ => rfl) (by decide) (by decide) (by decide) (Nat.le_of_ble_eq_true rfl) (Nat.le_of_ble_eq_true rfl) dk_MaximalSets0_16 (fun q1 cA1 H hK1 hP hD hS => ?_)
  have e1 : cA1 = cA 0 := k_same hK1 (i := 3) (j := 0) rfl rfl (by decide)
  subst e1
  have hP : va_P D cs_cl [(h0, .inr (2, [.null, .int 0, .ref q0, .null, .int 0, .int 0])), (q0, .inl (cA 0, 16, .inl (fun _ => 0))), (q1, .inl (cA 0, 324, .inl (fun _ => 0)))] H := hP
  have hD : va_D A [(h0, .inr (2, [.null, .int 0, .ref q0, .null, .int 0, .int 0])), (q0, .inl (cA 0, 16, .inl (fun _ => 0))), (q1, .inl (cA 0, 324, .inl (fun _ => 0)))] := hD
  refine va_putF (D := D) (ci := 2) (v := .ref q1) (ty := .array .int) (C := "CliqueSearch$MaximalSets") (T := cs_T2) (N := 6) hx hb hts (fun w hw => km (cs_in2 w hw) (k_u2 w hw)) cs_ty2 cs_ty2_ok cs_nm2 hown hK hP hD hS 0 rfl rfl 3 (by decide) (hts _ (km gw_58 rfl)) (fun _ h9 => h9) rfl hin rfl (by decide +kernel) rfl rfl (Nat.le_of_ble_eq_true rfl) dk_MaximalSets0_18 (fun H locs hP hD hS => ?_)
  have hP : va_P D cs_cl [(h0, .inr (2, [.null, .int 0, .ref q0, .ref q1, .int 0, .int 0])), (q0, .inl (cA 0, 16, .inl (fun _ => 0))), (q1, .inl (cA 0, 324, .inl (fun _ => 0)))] H := hP
  have hD : va_D A [(h0, .inr (2, [.null, .int 0, .ref q0, .ref q1, .int 0, .int 0])), (q0, .inl (cA 0, 16, .inl (fun _ => 0))), (q1, .inl (cA 0, 324, .inl (fun _ => 0)))] := hD
  refine lv_aload_n hx hb dk_MaximalSets0_21 rfl (lv_at hl 0 rfl) ?_
  refine lv_iconst (v := -1) hx hb dk_MaximalSets0_22 (by decide) ?_
  refine va_put (D := D) (ci := 2) (v := .int (-1)) (ty := .int) (C := "CliqueSearch$MaximalSets") (T := cs_T2) (N := 6) hx hb hts (fun w hw => km (cs_in2 w hw) (k_u2 w hw)) cs_ty2 cs_ty2_ok cs_nm2 hown hK hP hD hS 0 rfl rfl 5 (by decide) (hts _ (km gw_60 rfl)) (fun _ h9 => h9) rfl (by decide +kernel) rfl rfl (Nat.le_of_ble_eq_true rfl) dk_MaximalSets0_23 (fun H locs hP hD hS => ?_)
  have hP : va_P D cs_cl [(h0, .inr (2, [.null, .int 0, .ref q0, .ref q1, .int 0, .int (-1)])), (q0, .inl (cA 0, 16, .inl (fun _ => 0))), (q1, .inl (cA 0, 324, .inl (fun _ => 0)))] H := hP
  have hD : va_D A [(h0, .inr (2, [.null, .int 0, .ref q0, .ref q1, .int 0, .int (-1)])), (q0, .inl (cA 0, 16, .inl (fun _ => 0))), (q1, .inl (cA 0, 324, .inl (fun _ => 0)))] := hD
  refine lv_aload_n hx hb dk_MaximalSets0_26 rfl (lv_at hl 0 rfl) ?_
  refine lv_aload_n hx hb dk_MaximalSets0_27 rfl (lv_at hl 1 rfl) ?_
  refine va_putF (D := D) (ci := 2) (v := .ref n0) (ty := .object "CliqueSearch$Net") (C := "CliqueSearch$MaximalSets") (T := cs_T2) (N := 6) hx hb hts (fun w hw => km (cs_in2 w hw) (k_u2 w hw)) cs_ty2 cs_ty2_ok cs_nm2 hown hK hP hD hS 0 rfl rfl 0 (by decide) (hts _ (km gw_55 rfl)) (fun _ h9 => h9) rfl hin rfl (by decide +kernel) rfl rfl (Nat.le_of_ble_eq_true rfl) dk_MaximalSets0_28 (fun H locs hP hD hS => ?_)
  have hP : va_P D cs_cl [(h0, .inr (2, [.ref n0, .int 0, .ref q0, .ref q1, .int 0, .int (-1)])), (q0, .inl (cA 0, 16, .inl (fun _ => 0))), (q1, .inl (cA 0, 324, .inl (fun _ => 0)))] H := hP
  have hD : va_D A [(h0, .inr (2, [.ref n0, .int 0, .ref q0, .ref q1, .int 0, .int (-1)])), (q0, .inl (cA 0, 16, .inl (fun _ => 0))), (q1, .inl (cA 0, 324, .inl (fun _ => 0)))] := hD
  refine lv_aload_n hx hb dk_MaximalSets0_31 rfl (lv_at hl 0 rfl) ?_
  refine lv_iload_n hx hb dk_MaximalSets0_32 rfl (lv_at hl 2 rfl) ?_
  refine va_putF (D := D) (ci := 2) (v := .int 0) (ty := .boolean) (C := "CliqueSearch$MaximalSets") (T := cs_T2) (N := 6) hx hb hts (fun w hw => km (cs_in2 w hw) (k_u2 w hw)) cs_ty2 cs_ty2_ok cs_nm2 hown hK hP hD hS 0 rfl rfl 1 (by decide) (hts _ (km gw_56 rfl)) (fun _ h9 => h9) rfl hin rfl (by decide +kernel) rfl rfl (Nat.le_of_ble_eq_true rfl) dk_MaximalSets0_33 (fun H locs hP hD hS => ?_)
  have hP : va_P D cs_cl [(h0, .inr (2, [.ref n0, .int 0, .ref q0, .ref q1, .int 0, .int (-1)])), (q0, .inl (cA 0, 16, .inl (fun _ => 0))), (q1, .inl (cA 0, 324, .inl (fun _ => 0)))] H := hP
  have hD : va_D A [(h0, .inr (2, [.ref n0, .int 0, .ref q0, .ref q1, .int 0, .int (-1)])), (q0, .inl (cA 0, 16, .inl (fun _ => 0))), (q1, .inl (cA 0, 324, .inl (fun _ => 0)))] := hD
  refine W.widen (k := 2) (n := 340) (by decide) (by decide) ?_
  exact W.vret hx hb hr (fun t ht hW => ⟨⟨(fun k => [q0, q1].getD k 0), rfl, trivial, by rw [ht]; exact hP, va_K.moved hW.alike hK, hD⟩, hS.F ht⟩) hS.2.2 dk_MaximalSets0_36
theorem dk_MaximalSets1_0 : decode prog_3_method_1_code 0 = .ok (.aload_n 0, 1) := by decide +kernel
theorem dk_MaximalSets1_1 : decode prog_3_method_1_code 1 = .ok (.invokespecial 3, 3) := by decide +kernel
theorem dk_MaximalSets1_4 : decode prog_3_method_1_code 4 = .ok (.aload_n 0, 1) := by decide +kernel
theorem dk_MaximalSets1_5 : decode prog_3_method_1_code 5 = .ok (.bipush 16, 2) := by decide +kernel
theorem dk_MaximalSets1_7 : decode prog_3_method_1_code 7 = .ok (.newarray .int, 2) := by decide +kernel
theorem dk_MaximalSets1_9 : decode prog_3_method_1_code 9 = .ok (.putfield 9, 3) := by decide +kernel
theorem dk_MaximalSets1_12 : decode prog_3_method_1_code 12 = .ok (.aload_n 0, 1) := by decide +kernel
theorem dk_MaximalSets1_13 : decode prog_3_method_1_code 13 = .ok (.sipush 324, 3) := by decide +kernel
theorem dk_MaximalSets1_16 : decode prog_3_method_1_code 16 = .ok (.newarray .int, 2) := by decide +kernel
theorem dk_MaximalSets1_18 : decode prog_3_method_1_code 18 = .ok (.putfield 15, 3) := by decide +kernel
theorem dk_MaximalSets1_21 : decode prog_3_method_1_code 21 = .ok (.aload_n 0, 1) := by decide +kernel
theorem dk_MaximalSets1_22 : decode prog_3_method_1_code 22 = .ok (.iconst (-1), 1) := by decide +kernel
theorem dk_MaximalSets1_23 : decode prog_3_method_1_code 23 = .ok (.putfield 18, 3) := by decide +kernel
theorem dk_MaximalSets1_26 : decode prog_3_method_1_code 26 = .ok (.aload_n 0, 1) := by decide +kernel
theorem dk_MaximalSets1_27 : decode prog_3_method_1_code 27 = .ok (.aload_n 1, 1) := by decide +kernel
theorem dk_MaximalSets1_28 : decode prog_3_method_1_code 28 = .ok (.putfield 22, 3) := by decide +kernel
theorem dk_MaximalSets1_31 : decode prog_3_method_1_code 31 = .ok (.aload_n 0, 1) := by decide +kernel
theorem dk_MaximalSets1_32 : decode prog_3_method_1_code 32 = .ok (.iload_n 2, 1) := by decide +kernel
theorem dk_MaximalSets1_33 : decode prog_3_method_1_code 33 = .ok (.putfield 26, 3) := by decide +kernel
theorem dk_MaximalSets1_36 : decode prog_3_method_1_code 36 = .ok (.return_, 1) := by decide +kernel
def wk_MaximalSets1 (cA : Nat → ClassId) (h0 : Nat) (n0 : Nat) (u : Nat → Nat) : va_W := [(h0, .inr (2, [.ref n0, .int 1, .ref (u 0), .ref (u 1), .int 0, .int (-1)])), (u 0, .inl (cA 0, 16, .inl (fun _ => 0))), (u 1, .inl (cA 0, 324, .inl (fun _ => 0)))]
def yk_MaximalSets1 : MethodName := ⟨"CliqueSearch$MaximalSets", "<init>", "(LCliqueSearch$Net;Z)V"⟩
def ye_MaximalSets1 : va_E := .inr (2, [.null, .int 0, .null, .null, .int 0, .int 0])
set_option maxHeartbeats 4000000 in
set_option maxRecDepth 100000 in
theorem kc_MaximalSets1 (l : Launch) (D : va_G) (cA : Nat → ClassId) (h0 : Nat) (n0 : Nat) (sz : Nat) : Met l yk_MaximalSets1 (mi_ws cs_G (yk_MaximalSets1, prog_3_method_1_code, 3, none)) ({ frames := 1, cells := 2, slots := 340, locals := 12 }) (kP D cA h0 ye_MaximalSets1 [.ref h0, .ref n0, .int 1] sz) (kQ D cA (wk_MaximalSets1 cA h0 n0) (va_A [(h0, ye_MaximalSets1)] sz)) 2 340 (va_A [(h0, ye_MaximalSets1)] sz) := by
  refine Met.ofW (cc := prog_3_method_1_code) (maxL := 3) (ret := none) (by decide) rfl ?_
  intro p e s m args below meth c s₁ B hml hv
  obtain ⟨rfl, hsz, hP, hK, hD0, hkx⟩ := hv
  have hx := B.exec
  have hb := B.bytes
  have hr := B.returns
  have hts := atoms_spec (ws := mi_ws cs_G (yk_MaximalSets1, prog_3_method_1_code, 3, none)) B.pre
  have hown : s.vm.findClass "CliqueSearch$MaximalSets" = some m.cls := findClass_of_methodNamed B.named
  have hin : meth.name = "<init>" := (name_of_methodNamed B.named B.method).1
  subst hsz
  have hD := hD0.self (sz := s.heap.size)
  generalize hAe : va_A [(h0, ye_MaximalSets1)] s.heap.size = A at hD ⊢
  have hA : ∀ q : Nat, s.heap.size ≤ q → A q := fun q h => by rw [← hAe]; exact Or.inr h
  have hS : va_S A s.heap s.heap [] := va_S.rf
  have hP : va_P D cs_cl [(h0, .inr (2, [.null, .int 0, .null, .null, .int 0, .int 0]))] s.heap := hP
  have hD : va_D A [(h0, .inr (2, [.null, .int 0, .null, .null, .int 0, .int 0]))] := hD
  have hl := lv_entry ([.ref h0, .ref n0, .int 1]) (n := 3) (Nat.le_of_ble_eq_true rfl)
  rw [lg_entry_eq]
  generalize (lg_sl ([.ref h0, .ref n0, .int 1]) ++ List.replicate (3 - (lg_sl ([.ref h0, .ref n0, .int 1])).length) Slot.unset).toArray = ls at hl ⊢
  have hl : lv_has ls 3 [(0, .ref h0), (1, .ref n0), (2, .int 1)] := hl
  refine lv_aload_n hx hb dk_MaximalSets1_0 rfl (lv_at hl 0 rfl) ?_
  refine W.objInit hx hb hown (hts _ (km gw_54 rfl)) (hts _ (km gw_21 rfl)) (hts _ (km gw_22 rfl)) rfl (by rw [hml]; exact hl.1) rfl dk_MaximalSets1_1 (Nat.le_of_ble_eq_true rfl) (Nat.le_of_ble_eq_true rfl) ?_
  refine W.eq (g2 := F0 m 4 ls []) rfl ?_
  refine lv_aload_n hx hb dk_MaximalSets1_4 rfl (lv_at hl 0 rfl) ?_
  refine lv_bipush (v := 16) hx hb dk_MaximalSets1_5 (by decide) ?_
  refine va_newa (atype := .int) (ty := .int) (N' := 16) (a0 := (16, .inl (fun _ => 0))) hx hb (hts _ (km gw_48 rfl)) rfl hK hP hD hS hA (fun _ => rfl) (by decide) (by decide) (by decide) (Nat.le_of_ble_eq_true rfl) (Nat.le_of_ble_eq_true rfl) dk_MaximalSets1_7 (fun q0 cA1 H hK1 hP hD hS => ?_)
  have e1 : cA1 = cA 0 := k_same hK1 (i := 3) (j := 0) rfl rfl (by decide)
  subst e1
  have hP : va_P D cs_cl [(h0, .inr (2, [.null, .int 0, .null, .null, .int 0, .int 0])), (q0, .inl (cA 0, 16, .inl (fun _ => 0)))] H := hP
  have hD : va_D A [(h0, .inr (2, [.null, .int 0, .null, .null, .int 0, .int 0])), (q0, .inl (cA 0, 16, .inl (fun _ => 0)))] := hD
  refine va_putF (D := D) (ci := 2) (v := .ref q0) (ty := .array .int) (C := "CliqueSearch$MaximalSets") (T := cs_T2) (N := 6) hx hb hts (fun w hw => km (cs_in2 w hw) (k_u2 w hw)) cs_ty2 cs_ty2_ok cs_nm2 hown hK hP hD hS 0 rfl rfl 2 (by decide) (hts _ (km gw_57 rfl)) (fun _ h9 => h9) rfl hin rfl (by decide +kernel) rfl rfl (Nat.le_of_ble_eq_true rfl) dk_MaximalSets1_9 (fun H locs hP hD hS => ?_)
  have hP : va_P D cs_cl [(h0, .inr (2, [.null, .int 0, .ref q0, .null, .int 0, .int 0])), (q0, .inl (cA 0, 16, .inl (fun _ => 0)))] H := hP
  have hD : va_D A [(h0, .inr (2, [.null, .int 0, .ref q0, .null, .int 0, .int 0])), (q0, .inl (cA 0, 16, .inl (fun _ => 0)))] := hD
  refine lv_aload_n hx hb dk_MaximalSets1_12 rfl (lv_at hl 0 rfl) ?_
  refine lv_sipush (v := 324) hx hb dk_MaximalSets1_13 (by decide) ?_
  refine va_newa (atype := .int) (ty := .int) (N' := 324) (a0 := (324, .inl (fun _ => 0))) hx hb (hts _ (km gw_48 rfl)) rfl hK hP hD hS hA (fun _ => rfl) (by decide) (by decide) (by decide) (Nat.le_of_ble_eq_true rfl) (Nat.le_of_ble_eq_true rfl) dk_MaximalSets1_16 (fun q1 cA1 H hK1 hP hD hS => ?_)
  have e1 : cA1 = cA 0 := k_same hK1 (i := 3) (j := 0) rfl rfl (by decide)
  subst e1
  have hP : va_P D cs_cl [(h0, .inr (2, [.null, .int 0, .ref q0, .null, .int 0, .int 0])), (q0, .inl (cA 0, 16, .inl (fun _ => 0))), (q1, .inl (cA 0, 324, .inl (fun _ => 0)))] H := hP
  have hD : va_D A [(h0, .inr (2, [.null, .int 0, .ref q0, .null, .int 0, .int 0])), (q0, .inl (cA 0, 16, .inl (fun _ => 0))), (q1, .inl (cA 0, 324, .inl (fun _ => 0)))] := hD
  refine va_putF (D := D) (ci := 2) (v := .ref q1) (ty := .array .int) (C := "CliqueSearch$MaximalSets") (T := cs_T2) (N := 6) hx hb hts (fun w hw => km (cs_in2 w hw) (k_u2 w hw)) cs_ty2 cs_ty2_ok cs_nm2 hown hK hP hD hS 0 rfl rfl 3 (by decide) (hts _ (km gw_58 rfl)) (fun _ h9 => h9) rfl hin rfl (by decide +kernel) rfl rfl (Nat.le_of_ble_eq_true rfl) dk_MaximalSets1_18 (fun H locs hP hD hS => ?_)
  have hP : va_P D cs_cl [(h0, .inr (2, [.null, .int 0, .ref q0, .ref q1, .int 0, .int 0])), (q0, .inl (cA 0, 16, .inl (fun _ => 0))), (q1, .inl (cA 0, 324, .inl (fun _ => 0)))] H := hP
  have hD : va_D A [(h0, .inr (2, [.null, .int 0, .ref q0, .ref q1, .int 0, .int 0])), (q0, .inl (cA 0, 16, .inl (fun _ => 0))), (q1, .inl (cA 0, 324, .inl (fun _ => 0)))] := hD
  refine lv_aload_n hx hb dk_MaximalSets1_21 rfl (lv_at hl 0 rfl) ?_
  refine lv_iconst (v := -1) hx hb dk_MaximalSets1_22 (by decide) ?_
  refine va_put (D := D) (ci := 2) (v := .int (-1)) (ty := .int) (C := "CliqueSearch$MaximalSets") (T := cs_T2) (N := 6) hx hb hts (fun w hw => km (cs_in2 w hw) (k_u2 w hw)) cs_ty2 cs_ty2_ok cs_nm2 hown hK hP hD hS 0 rfl rfl 5 (by decide) (hts _ (km gw_60 rfl)) (fun _ h9 => h9) rfl (by decide +kernel) rfl rfl (Nat.le_of_ble_eq_true rfl) dk_MaximalSets1_23 (fun H locs hP hD hS => ?_)
  have hP : va_P D cs_cl [(h0, .inr (2, [.null, .int 0, .ref q0, .ref q1, .int 0, .int (-1)])), (q0, .inl (cA 0, 16, .inl (fun _ => 0))), (q1, .inl (cA 0, 324, .inl (fun _ => 0)))] H := hP
  have hD : va_D A [(h0, .inr (2, [.null, .int 0, .ref q0, .ref q1, .int 0, .int (-1)])), (q0, .inl (cA 0, 16, .inl (fun _ => 0))), (q1, .inl (cA 0, 324, .inl (fun _ => 0)))] := hD
  refine lv_aload_n hx hb dk_MaximalSets1_26 rfl (lv_at hl 0 rfl) ?_
  refine lv_aload_n hx hb dk_MaximalSets1_27 rfl (lv_at hl 1 rfl) ?_
  refine va_putF (D := D) (ci := 2) (v := .ref n0) (ty := .object "CliqueSearch$Net") (C := "CliqueSearch$MaximalSets") (T := cs_T2) (N := 6) hx hb hts (fun w hw => km (cs_in2 w hw) (k_u2 w hw)) cs_ty2 cs_ty2_ok cs_nm2 hown hK hP hD hS 0 rfl rfl 0 (by decide) (hts _ (km gw_55 rfl)) (fun _ h9 => h9) rfl hin rfl (by decide +kernel) rfl rfl (Nat.le_of_ble_eq_true rfl) dk_MaximalSets1_28 (fun H locs hP hD hS => ?_)
  have hP : va_P D cs_cl [(h0, .inr (2, [.ref n0, .int 0, .ref q0, .ref q1, .int 0, .int (-1)])), (q0, .inl (cA 0, 16, .inl (fun _ => 0))), (q1, .inl (cA 0, 324, .inl (fun _ => 0)))] H := hP
  have hD : va_D A [(h0, .inr (2, [.ref n0, .int 0, .ref q0, .ref q1, .int 0, .int (-1)])), (q0, .inl (cA 0, 16, .inl (fun _ => 0))), (q1, .inl (cA 0, 324, .inl (fun _ => 0)))] := hD
  refine lv_aload_n hx hb dk_MaximalSets1_31 rfl (lv_at hl 0 rfl) ?_
  refine lv_iload_n hx hb dk_MaximalSets1_32 rfl (lv_at hl 2 rfl) ?_
  refine va_putF (D := D) (ci := 2) (v := .int 1) (ty := .boolean) (C := "CliqueSearch$MaximalSets") (T := cs_T2) (N := 6) hx hb hts (fun w hw => km (cs_in2 w hw) (k_u2 w hw)) cs_ty2 cs_ty2_ok cs_nm2 hown hK hP hD hS 0 rfl rfl 1 (by decide) (hts _ (km gw_56 rfl)) (fun _ h9 => h9) rfl hin rfl (by decide +kernel) rfl rfl (Nat.le_of_ble_eq_true rfl) dk_MaximalSets1_33 (fun H locs hP hD hS => ?_)
  have hP : va_P D cs_cl [(h0, .inr (2, [.ref n0, .int 1, .ref q0, .ref q1, .int 0, .int (-1)])), (q0, .inl (cA 0, 16, .inl (fun _ => 0))), (q1, .inl (cA 0, 324, .inl (fun _ => 0)))] H := hP
  have hD : va_D A [(h0, .inr (2, [.ref n0, .int 1, .ref q0, .ref q1, .int 0, .int (-1)])), (q0, .inl (cA 0, 16, .inl (fun _ => 0))), (q1, .inl (cA 0, 324, .inl (fun _ => 0)))] := hD
  refine W.widen (k := 2) (n := 340) (by decide) (by decide) ?_
  exact W.vret hx hb hr (fun t ht hW => ⟨⟨(fun k => [q0, q1].getD k 0), rfl, trivial, by rw [ht]; exact hP, va_K.moved hW.alike hK, hD⟩, hS.F ht⟩) hS.2.2 dk_MaximalSets1_36
theorem dk_SizeCounts_0 : decode prog_8_method_1_code 0 = .ok (.aload_n 0, 1) := by decide +kernel
theorem dk_SizeCounts_1 : decode prog_8_method_1_code 1 = .ok (.invokespecial 3, 3) := by decide +kernel
theorem dk_SizeCounts_4 : decode prog_8_method_1_code 4 = .ok (.aload_n 0, 1) := by decide +kernel
theorem dk_SizeCounts_5 : decode prog_8_method_1_code 5 = .ok (.bipush 17, 2) := by decide +kernel
theorem dk_SizeCounts_7 : decode prog_8_method_1_code 7 = .ok (.newarray .int, 2) := by decide +kernel
theorem dk_SizeCounts_9 : decode prog_8_method_1_code 9 = .ok (.putfield 9, 3) := by decide +kernel
theorem dk_SizeCounts_12 : decode prog_8_method_1_code 12 = .ok (.aload_n 0, 1) := by decide +kernel
theorem dk_SizeCounts_13 : decode prog_8_method_1_code 13 = .ok (.iconst (-1), 1) := by decide +kernel
theorem dk_SizeCounts_14 : decode prog_8_method_1_code 14 = .ok (.putfield 15, 3) := by decide +kernel
theorem dk_SizeCounts_17 : decode prog_8_method_1_code 17 = .ok (.aload_n 0, 1) := by decide +kernel
theorem dk_SizeCounts_18 : decode prog_8_method_1_code 18 = .ok (.aload_n 1, 1) := by decide +kernel
theorem dk_SizeCounts_19 : decode prog_8_method_1_code 19 = .ok (.putfield 19, 3) := by decide +kernel
theorem dk_SizeCounts_22 : decode prog_8_method_1_code 22 = .ok (.return_, 1) := by decide +kernel
theorem gw_79 : Cond.methodLink "CliqueSearch$SizeCounts" (3 : Nat) ({ cls := "java/lang/Object", name := "<init>", desc := "()V" } : MethodName) ∈ cs_G := List.mem_filter.mpr ⟨List.mem_append_right _ (List.mem_append_left _ (List.mem_of_getElem? (i := 79) rfl)), rfl⟩
def wk_SizeCounts (cA : Nat → ClassId) (h0 : Nat) (n0 : Nat) (u : Nat → Nat) : va_W := [(h0, .inr (3, [.ref n0, .ref (u 0), .int (-1)])), (u 0, .inl (cA 0, 17, .inl (fun _ => 0)))]
def yk_SizeCounts : MethodName := ⟨"CliqueSearch$SizeCounts", "<init>", "(LCliqueSearch$Net;)V"⟩
def ye_SizeCounts : va_E := .inr (3, [.null, .null, .int 0])
set_option maxHeartbeats 4000000 in
set_option maxRecDepth 100000 in
theorem kc_SizeCounts (l : Launch) (D : va_G) (cA : Nat → ClassId) (h0 : Nat) (n0 : Nat) (sz : Nat) : Met l yk_SizeCounts (mi_ws cs_G (yk_SizeCounts, prog_8_method_1_code, 2, none)) ({ frames := 1, cells := 1, slots := 17, locals := 12 }) (kP D cA h0 ye_SizeCounts [.ref h0, .ref n0] sz) (kQ D cA (wk_SizeCounts cA h0 n0) (va_A [(h0, ye_SizeCounts)] sz)) 1 17 (va_A [(h0, ye_SizeCounts)] sz) := by
  refine Met.ofW (cc := prog_8_method_1_code) (maxL := 2) (ret := none) (by decide) rfl ?_
  intro p e s m args below meth c s₁ B hml hv
  obtain ⟨rfl, hsz, hP, hK, hD0, hkx⟩ := hv
  have hx := B.exec
  have hb := B.bytes
  have hr := B.returns
  have hts := atoms_spec (ws := mi_ws cs_G (yk_SizeCounts, prog_8_method_1_code, 2, none)) B.pre
  have hown : s.vm.findClass "CliqueSearch$SizeCounts" = some m.cls := findClass_of_methodNamed B.named
  have hin : meth.name = "<init>" := (name_of_methodNamed B.named B.method).1
  subst hsz
  have hD := hD0.self (sz := s.heap.size)
  generalize hAe : va_A [(h0, ye_SizeCounts)] s.heap.size = A at hD ⊢
  have hA : ∀ q : Nat, s.heap.size ≤ q → A q := fun q h => by rw [← hAe]; exact Or.inr h
  have hS : va_S A s.heap s.heap [] := va_S.rf
  have hP : va_P D cs_cl [(h0, .inr (3, [.null, .null, .int 0]))] s.heap := hP
  have hD : va_D A [(h0, .inr (3, [.null, .null, .int 0]))] := hD
  have hl := lv_entry ([.ref h0, .ref n0]) (n := 2) (Nat.le_of_ble_eq_true rfl)
  rw [lg_entry_eq]
  generalize (lg_sl ([.ref h0, .ref n0]) ++ List.replicate (2 - (lg_sl ([.ref h0, .ref n0])).length) Slot.unset).toArray = ls at hl ⊢
  have hl : lv_has ls 2 [(0, .ref h0), (1, .ref n0)] := hl
  refine lv_aload_n hx hb dk_SizeCounts_0 rfl (lv_at hl 0 rfl) ?_
  refine W.objInit hx hb hown (hts _ (km gw_79 rfl)) (hts _ (km gw_21 rfl)) (hts _ (km gw_22 rfl)) rfl (by rw [hml]; exact hl.1) rfl dk_SizeCounts_1 (Nat.le_of_ble_eq_true rfl) (Nat.le_of_ble_eq_true rfl) ?_
  refine W.eq (g2 := F0 m 4 ls []) rfl ?_
  refine lv_aload_n hx hb dk_SizeCounts_4 rfl (lv_at hl 0 rfl) ?_
  refine lv_bipush (v := 17) hx hb dk_SizeCounts_5 (by decide) ?_
  refine va_newa (atype := .int) (ty := .int) (N' := 17) (a0 := (17, .inl (fun _ => 0))) hx hb (hts _ (km gw_48 rfl)) rfl hK hP hD hS hA (fun _ => rfl) (by decide) (by decide) (by decide) (Nat.le_of_ble_eq_true rfl) (Nat.le_of_ble_eq_true rfl) dk_SizeCounts_7 (fun q0 cA1 H hK1 hP hD hS => ?_)
  have e1 : cA1 = cA 0 := k_same hK1 (i := 3) (j := 0) rfl rfl (by decide)
  subst e1
  have hP : va_P D cs_cl [(h0, .inr (3, [.null, .null, .int 0])), (q0, .inl (cA 0, 17, .inl (fun _ => 0)))] H := hP
  have hD : va_D A [(h0, .inr (3, [.null, .null, .int 0])), (q0, .inl (cA 0, 17, .inl (fun _ => 0)))] := hD
  refine va_putF (D := D) (ci := 3) (v := .ref q0) (ty := .array .int) (C := "CliqueSearch$SizeCounts") (T := cs_T3) (N := 3) hx hb hts (fun w hw => km (cs_in3 w hw) (k_u3 w hw)) cs_ty3 cs_ty3_ok cs_nm3 hown hK hP hD hS 0 rfl rfl 1 (by decide) (hts _ (km gw_81 rfl)) (fun _ h9 => h9) rfl hin rfl (by decide +kernel) rfl rfl (Nat.le_of_ble_eq_true rfl) dk_SizeCounts_9 (fun H locs hP hD hS => ?_)
  have hP : va_P D cs_cl [(h0, .inr (3, [.null, .ref q0, .int 0])), (q0, .inl (cA 0, 17, .inl (fun _ => 0)))] H := hP
  have hD : va_D A [(h0, .inr (3, [.null, .ref q0, .int 0])), (q0, .inl (cA 0, 17, .inl (fun _ => 0)))] := hD
  refine lv_aload_n hx hb dk_SizeCounts_12 rfl (lv_at hl 0 rfl) ?_
  refine lv_iconst (v := -1) hx hb dk_SizeCounts_13 (by decide) ?_
  refine va_put (D := D) (ci := 3) (v := .int (-1)) (ty := .int) (C := "CliqueSearch$SizeCounts") (T := cs_T3) (N := 3) hx hb hts (fun w hw => km (cs_in3 w hw) (k_u3 w hw)) cs_ty3 cs_ty3_ok cs_nm3 hown hK hP hD hS 0 rfl rfl 2 (by decide) (hts _ (km gw_82 rfl)) (fun _ h9 => h9) rfl (by decide +kernel) rfl rfl (Nat.le_of_ble_eq_true rfl) dk_SizeCounts_14 (fun H locs hP hD hS => ?_)
  have hP : va_P D cs_cl [(h0, .inr (3, [.null, .ref q0, .int (-1)])), (q0, .inl (cA 0, 17, .inl (fun _ => 0)))] H := hP
  have hD : va_D A [(h0, .inr (3, [.null, .ref q0, .int (-1)])), (q0, .inl (cA 0, 17, .inl (fun _ => 0)))] := hD
  refine lv_aload_n hx hb dk_SizeCounts_17 rfl (lv_at hl 0 rfl) ?_
  refine lv_aload_n hx hb dk_SizeCounts_18 rfl (lv_at hl 1 rfl) ?_
  refine va_putF (D := D) (ci := 3) (v := .ref n0) (ty := .object "CliqueSearch$Net") (C := "CliqueSearch$SizeCounts") (T := cs_T3) (N := 3) hx hb hts (fun w hw => km (cs_in3 w hw) (k_u3 w hw)) cs_ty3 cs_ty3_ok cs_nm3 hown hK hP hD hS 0 rfl rfl 0 (by decide) (hts _ (km gw_80 rfl)) (fun _ h9 => h9) rfl hin rfl (by decide +kernel) rfl rfl (Nat.le_of_ble_eq_true rfl) dk_SizeCounts_19 (fun H locs hP hD hS => ?_)
  have hP : va_P D cs_cl [(h0, .inr (3, [.ref n0, .ref q0, .int (-1)])), (q0, .inl (cA 0, 17, .inl (fun _ => 0)))] H := hP
  have hD : va_D A [(h0, .inr (3, [.ref n0, .ref q0, .int (-1)])), (q0, .inl (cA 0, 17, .inl (fun _ => 0)))] := hD
  refine W.widen (k := 1) (n := 17) (by decide) (by decide) ?_
  exact W.vret hx hb hr (fun t ht hW => ⟨⟨(fun k => [q0].getD k 0), rfl, trivial, by rw [ht]; exact hP, va_K.moved hW.alike hK, hD⟩, hS.F ht⟩) hS.2.2 dk_SizeCounts_22
theorem dk_Peeling_0 : decode prog_6_method_1_code 0 = .ok (.aload_n 0, 1) := by decide +kernel
theorem dk_Peeling_1 : decode prog_6_method_1_code 1 = .ok (.invokespecial 3, 3) := by decide +kernel
theorem dk_Peeling_4 : decode prog_6_method_1_code 4 = .ok (.aload_n 0, 1) := by decide +kernel
theorem dk_Peeling_5 : decode prog_6_method_1_code 5 = .ok (.bipush 16, 2) := by decide +kernel
theorem dk_Peeling_7 : decode prog_6_method_1_code 7 = .ok (.newarray .int, 2) := by decide +kernel
theorem dk_Peeling_9 : decode prog_6_method_1_code 9 = .ok (.putfield 9, 3) := by decide +kernel
theorem dk_Peeling_12 : decode prog_6_method_1_code 12 = .ok (.aload_n 0, 1) := by decide +kernel
theorem dk_Peeling_13 : decode prog_6_method_1_code 13 = .ok (.bipush 16, 2) := by decide +kernel
theorem dk_Peeling_15 : decode prog_6_method_1_code 15 = .ok (.newarray .int, 2) := by decide +kernel
theorem dk_Peeling_17 : decode prog_6_method_1_code 17 = .ok (.putfield 15, 3) := by decide +kernel
theorem dk_Peeling_20 : decode prog_6_method_1_code 20 = .ok (.aload_n 0, 1) := by decide +kernel
theorem dk_Peeling_21 : decode prog_6_method_1_code 21 = .ok (.iconst (-1), 1) := by decide +kernel
theorem dk_Peeling_22 : decode prog_6_method_1_code 22 = .ok (.putfield 18, 3) := by decide +kernel
theorem dk_Peeling_25 : decode prog_6_method_1_code 25 = .ok (.aload_n 0, 1) := by decide +kernel
theorem dk_Peeling_26 : decode prog_6_method_1_code 26 = .ok (.aload_n 1, 1) := by decide +kernel
theorem dk_Peeling_27 : decode prog_6_method_1_code 27 = .ok (.putfield 22, 3) := by decide +kernel
theorem dk_Peeling_30 : decode prog_6_method_1_code 30 = .ok (.return_, 1) := by decide +kernel
theorem gw_122 : Cond.methodLink "CliqueSearch$Peeling" (3 : Nat) ({ cls := "java/lang/Object", name := "<init>", desc := "()V" } : MethodName) ∈ cs_G := List.mem_filter.mpr ⟨List.mem_append_right _ (List.mem_append_left _ (List.mem_of_getElem? (i := 122) rfl)), rfl⟩
def wk_Peeling (cA : Nat → ClassId) (h0 : Nat) (n0 : Nat) (u : Nat → Nat) : va_W := [(h0, .inr (5, [.ref n0, .ref (u 0), .ref (u 1), .int (-1)])), (u 0, .inl (cA 0, 16, .inl (fun _ => 0))), (u 1, .inl (cA 0, 16, .inl (fun _ => 0)))]
def yk_Peeling : MethodName := ⟨"CliqueSearch$Peeling", "<init>", "(LCliqueSearch$Net;)V"⟩
def ye_Peeling : va_E := .inr (5, [.null, .null, .null, .int 0])
set_option maxHeartbeats 4000000 in
set_option maxRecDepth 100000 in
theorem kc_Peeling (l : Launch) (D : va_G) (cA : Nat → ClassId) (h0 : Nat) (n0 : Nat) (sz : Nat) : Met l yk_Peeling (mi_ws cs_G (yk_Peeling, prog_6_method_1_code, 2, none)) ({ frames := 1, cells := 2, slots := 32, locals := 12 }) (kP D cA h0 ye_Peeling [.ref h0, .ref n0] sz) (kQ D cA (wk_Peeling cA h0 n0) (va_A [(h0, ye_Peeling)] sz)) 2 32 (va_A [(h0, ye_Peeling)] sz) := by
  refine Met.ofW (cc := prog_6_method_1_code) (maxL := 2) (ret := none) (by decide) rfl ?_
  intro p e s m args below meth c s₁ B hml hv
  obtain ⟨rfl, hsz, hP, hK, hD0, hkx⟩ := hv
  have hx := B.exec
  have hb := B.bytes
  have hr := B.returns
  have hts := atoms_spec (ws := mi_ws cs_G (yk_Peeling, prog_6_method_1_code, 2, none)) B.pre
  have hown : s.vm.findClass "CliqueSearch$Peeling" = some m.cls := findClass_of_methodNamed B.named
  have hin : meth.name = "<init>" := (name_of_methodNamed B.named B.method).1
  subst hsz
  have hD := hD0.self (sz := s.heap.size)
  generalize hAe : va_A [(h0, ye_Peeling)] s.heap.size = A at hD ⊢
  have hA : ∀ q : Nat, s.heap.size ≤ q → A q := fun q h => by rw [← hAe]; exact Or.inr h
  have hS : va_S A s.heap s.heap [] := va_S.rf
  have hP : va_P D cs_cl [(h0, .inr (5, [.null, .null, .null, .int 0]))] s.heap := hP
  have hD : va_D A [(h0, .inr (5, [.null, .null, .null, .int 0]))] := hD
  have hl := lv_entry ([.ref h0, .ref n0]) (n := 2) (Nat.le_of_ble_eq_true rfl)
  rw [lg_entry_eq]
  generalize (lg_sl ([.ref h0, .ref n0]) ++ List.replicate (2 - (lg_sl ([.ref h0, .ref n0])).length) Slot.unset).toArray = ls at hl ⊢
  have hl : lv_has ls 2 [(0, .ref h0), (1, .ref n0)] := hl
  refine lv_aload_n hx hb dk_Peeling_0 rfl (lv_at hl 0 rfl) ?_
  refine W.objInit hx hb hown (hts _ (km gw_122 rfl)) (hts _ (km gw_21 rfl)) (hts _ (km gw_22 rfl)) rfl (by rw [hml]; exact hl.1) rfl dk_Peeling_1 (Nat.le_of_ble_eq_true rfl) (Nat.le_of_ble_eq_true rfl) ?_
  refine W.eq (g2 := F0 m 4 ls []) rfl ?_
  refine lv_aload_n hx hb dk_Peeling_4 rfl (lv_at hl 0 rfl) ?_
  refine lv_bipush (v := 16) hx hb dk_Peeling_5 (by decide) ?_
  refine va_newa (atype := .int) (ty := .int) (N' := 16) (a0 := (16, .inl (fun _ => 0))) hx hb (hts _ (km gw_48 rfl)) rfl hK hP hD hS hA (fun _ => rfl) (by decide) (by decide) (by decide) (Nat.le_of_ble_eq_true rfl) (Nat.le_of_ble_eq_true rfl) dk_Peeling_7 (fun q0 cA1 H hK1 hP hD hS => ?_)
  have e1 : cA1 = cA 0 := k_same hK1 (i := 3) (j := 0) rfl rfl (by decide)
  subst e1
  have hP : va_P D cs_cl [(h0, .inr (5, [.null, .null, .null, .int 0])), (q0, .inl (cA 0, 16, .inl (fun _ => 0)))] H := hP
  have hD : va_D A [(h0, .inr (5, [.null, .null, .null, .int 0])), (q0, .inl (cA 0, 16, .inl (fun _ => 0)))] := hD
  refine va_putF (D := D) (ci := 5) (v := .ref q0) (ty := .array .int) (C := "CliqueSearch$Peeling") (T := cs_T5) (N := 4) hx hb hts (fun w hw => km (cs_in5 w hw) (k_u5 w hw)) cs_ty5 cs_ty5_ok cs_nm5 hown hK hP hD hS 0 rfl rfl 1 (by decide) (hts _ (km gw_124 rfl)) (fun _ h9 => h9) rfl hin rfl (by decide +kernel) rfl rfl (Nat.le_of_ble_eq_true rfl) dk_Peeling_9 (fun H locs hP hD hS => ?_)
  have hP : va_P D cs_cl [(h0, .inr (5, [.null, .ref q0, .null, .int 0])), (q0, .inl (cA 0, 16, .inl (fun _ => 0)))] H := hP
  have hD : va_D A [(h0, .inr (5, [.null, .ref q0, .null, .int 0])), (q0, .inl (cA 0, 16, .inl (fun _ => 0)))] := hD
  refine lv_aload_n hx hb dk_Peeling_12 rfl (lv_at hl 0 rfl) ?_
  refine lv_bipush (v := 16) hx hb dk_Peeling_13 (by decide) ?_
  refine va_newa (atype := .int) (ty := .int) (N' := 16) (a0 := (16, .inl (fun _ => 0))) hx hb (hts _ (km gw_48 rfl)) rfl hK hP hD hS hA (fun _ => rfl) (by decide) (by decide) (by decide) (Nat.le_of_ble_eq_true rfl) (Nat.le_of_ble_eq_true rfl) dk_Peeling_15 (fun q1 cA1 H hK1 hP hD hS => ?_)
  have e1 : cA1 = cA 0 := k_same hK1 (i := 3) (j := 0) rfl rfl (by decide)
  subst e1
  have hP : va_P D cs_cl [(h0, .inr (5, [.null, .ref q0, .null, .int 0])), (q0, .inl (cA 0, 16, .inl (fun _ => 0))), (q1, .inl (cA 0, 16, .inl (fun _ => 0)))] H := hP
  have hD : va_D A [(h0, .inr (5, [.null, .ref q0, .null, .int 0])), (q0, .inl (cA 0, 16, .inl (fun _ => 0))), (q1, .inl (cA 0, 16, .inl (fun _ => 0)))] := hD
  refine va_putF (D := D) (ci := 5) (v := .ref q1) (ty := .array .int) (C := "CliqueSearch$Peeling") (T := cs_T5) (N := 4) hx hb hts (fun w hw => km (cs_in5 w hw) (k_u5 w hw)) cs_ty5 cs_ty5_ok cs_nm5 hown hK hP hD hS 0 rfl rfl 2 (by decide) (hts _ (km gw_125 rfl)) (fun _ h9 => h9) rfl hin rfl (by decide +kernel) rfl rfl (Nat.le_of_ble_eq_true rfl) dk_Peeling_17 (fun H locs hP hD hS => ?_)
  have hP : va_P D cs_cl [(h0, .inr (5, [.null, .ref q0, .ref q1, .int 0])), (q0, .inl (cA 0, 16, .inl (fun _ => 0))), (q1, .inl (cA 0, 16, .inl (fun _ => 0)))] H := hP
  have hD : va_D A [(h0, .inr (5, [.null, .ref q0, .ref q1, .int 0])), (q0, .inl (cA 0, 16, .inl (fun _ => 0))), (q1, .inl (cA 0, 16, .inl (fun _ => 0)))] := hD
  refine lv_aload_n hx hb dk_Peeling_20 rfl (lv_at hl 0 rfl) ?_
  refine lv_iconst (v := -1) hx hb dk_Peeling_21 (by decide) ?_
  refine va_put (D := D) (ci := 5) (v := .int (-1)) (ty := .int) (C := "CliqueSearch$Peeling") (T := cs_T5) (N := 4) hx hb hts (fun w hw => km (cs_in5 w hw) (k_u5 w hw)) cs_ty5 cs_ty5_ok cs_nm5 hown hK hP hD hS 0 rfl rfl 3 (by decide) (hts _ (km gw_126 rfl)) (fun _ h9 => h9) rfl (by decide +kernel) rfl rfl (Nat.le_of_ble_eq_true rfl) dk_Peeling_22 (fun H locs hP hD hS => ?_)
  have hP : va_P D cs_cl [(h0, .inr (5, [.null, .ref q0, .ref q1, .int (-1)])), (q0, .inl (cA 0, 16, .inl (fun _ => 0))), (q1, .inl (cA 0, 16, .inl (fun _ => 0)))] H := hP
  have hD : va_D A [(h0, .inr (5, [.null, .ref q0, .ref q1, .int (-1)])), (q0, .inl (cA 0, 16, .inl (fun _ => 0))), (q1, .inl (cA 0, 16, .inl (fun _ => 0)))] := hD
  refine lv_aload_n hx hb dk_Peeling_25 rfl (lv_at hl 0 rfl) ?_
  refine lv_aload_n hx hb dk_Peeling_26 rfl (lv_at hl 1 rfl) ?_
  refine va_putF (D := D) (ci := 5) (v := .ref n0) (ty := .object "CliqueSearch$Net") (C := "CliqueSearch$Peeling") (T := cs_T5) (N := 4) hx hb hts (fun w hw => km (cs_in5 w hw) (k_u5 w hw)) cs_ty5 cs_ty5_ok cs_nm5 hown hK hP hD hS 0 rfl rfl 0 (by decide) (hts _ (km gw_123 rfl)) (fun _ h9 => h9) rfl hin rfl (by decide +kernel) rfl rfl (Nat.le_of_ble_eq_true rfl) dk_Peeling_27 (fun H locs hP hD hS => ?_)
  have hP : va_P D cs_cl [(h0, .inr (5, [.ref n0, .ref q0, .ref q1, .int (-1)])), (q0, .inl (cA 0, 16, .inl (fun _ => 0))), (q1, .inl (cA 0, 16, .inl (fun _ => 0)))] H := hP
  have hD : va_D A [(h0, .inr (5, [.ref n0, .ref q0, .ref q1, .int (-1)])), (q0, .inl (cA 0, 16, .inl (fun _ => 0))), (q1, .inl (cA 0, 16, .inl (fun _ => 0)))] := hD
  refine W.widen (k := 2) (n := 32) (by decide) (by decide) ?_
  exact W.vret hx hb hr (fun t ht hW => ⟨⟨(fun k => [q0, q1].getD k 0), rfl, trivial, by rw [ht]; exact hP, va_K.moved hW.alike hK, hD⟩, hS.F ht⟩) hS.2.2 dk_Peeling_30
theorem dk_SureCover_0 : decode prog_9_method_1_code 0 = .ok (.aload_n 0, 1) := by decide +kernel
theorem dk_SureCover_1 : decode prog_9_method_1_code 1 = .ok (.invokespecial 3, 3) := by decide +kernel
theorem dk_SureCover_4 : decode prog_9_method_1_code 4 = .ok (.aload_n 0, 1) := by decide +kernel
theorem dk_SureCover_5 : decode prog_9_method_1_code 5 = .ok (.aload_n 1, 1) := by decide +kernel
theorem dk_SureCover_6 : decode prog_9_method_1_code 6 = .ok (.putfield 9, 3) := by decide +kernel
theorem dk_SureCover_9 : decode prog_9_method_1_code 9 = .ok (.return_, 1) := by decide +kernel
theorem gw_181 : Cond.methodLink "CliqueSearch$SureCover" (3 : Nat) ({ cls := "java/lang/Object", name := "<init>", desc := "()V" } : MethodName) ∈ cs_G := List.mem_filter.mpr ⟨List.mem_append_right _ (List.mem_append_left _ (List.mem_of_getElem? (i := 181) rfl)), rfl⟩
def wk_SureCover (cA : Nat → ClassId) (h0 : Nat) (n0 : Nat) (u : Nat → Nat) : va_W := [(h0, .inr (7, [.ref n0, .int 0, .int 0, .int 0, .int 0, .int 0]))]
def yk_SureCover : MethodName := ⟨"CliqueSearch$SureCover", "<init>", "(LCliqueSearch$Net;)V"⟩
def ye_SureCover : va_E := .inr (7, [.null, .int 0, .int 0, .int 0, .int 0, .int 0])
set_option maxHeartbeats 4000000 in
set_option maxRecDepth 100000 in
theorem kc_SureCover (l : Launch) (D : va_G) (cA : Nat → ClassId) (h0 : Nat) (n0 : Nat) (sz : Nat) : Met l yk_SureCover (mi_ws cs_G (yk_SureCover, prog_9_method_1_code, 2, none)) ({ frames := 1, cells := 0, slots := 0, locals := 12 }) (kP D cA h0 ye_SureCover [.ref h0, .ref n0] sz) (kQ D cA (wk_SureCover cA h0 n0) (va_A [(h0, ye_SureCover)] sz)) 0 0 (va_A [(h0, ye_SureCover)] sz) := by
  refine Met.ofW (cc := prog_9_method_1_code) (maxL := 2) (ret := none) (by decide) rfl ?_
  intro p e s m args below meth c s₁ B hml hv
  obtain ⟨rfl, hsz, hP, hK, hD0, hkx⟩ := hv
  have hx := B.exec
  have hb := B.bytes
  have hr := B.returns
  have hts := atoms_spec (ws := mi_ws cs_G (yk_SureCover, prog_9_method_1_code, 2, none)) B.pre
  have hown : s.vm.findClass "CliqueSearch$SureCover" = some m.cls := findClass_of_methodNamed B.named
  have hin : meth.name = "<init>" := (name_of_methodNamed B.named B.method).1
  subst hsz
  have hD := hD0.self (sz := s.heap.size)
  generalize hAe : va_A [(h0, ye_SureCover)] s.heap.size = A at hD ⊢
  have hA : ∀ q : Nat, s.heap.size ≤ q → A q := fun q h => by rw [← hAe]; exact Or.inr h
  have hS : va_S A s.heap s.heap [] := va_S.rf
  have hP : va_P D cs_cl [(h0, .inr (7, [.null, .int 0, .int 0, .int 0, .int 0, .int 0]))] s.heap := hP
  have hD : va_D A [(h0, .inr (7, [.null, .int 0, .int 0, .int 0, .int 0, .int 0]))] := hD
  have hl := lv_entry ([.ref h0, .ref n0]) (n := 2) (Nat.le_of_ble_eq_true rfl)
  rw [lg_entry_eq]
  generalize (lg_sl ([.ref h0, .ref n0]) ++ List.replicate (2 - (lg_sl ([.ref h0, .ref n0])).length) Slot.unset).toArray = ls at hl ⊢
  have hl : lv_has ls 2 [(0, .ref h0), (1, .ref n0)] := hl
  refine lv_aload_n hx hb dk_SureCover_0 rfl (lv_at hl 0 rfl) ?_
  refine W.objInit hx hb hown (hts _ (km gw_181 rfl)) (hts _ (km gw_21 rfl)) (hts _ (km gw_22 rfl)) rfl (by rw [hml]; exact hl.1) rfl dk_SureCover_1 (Nat.le_of_ble_eq_true rfl) (Nat.le_of_ble_eq_true rfl) ?_
  refine W.eq (g2 := F0 m 4 ls []) rfl ?_
  refine lv_aload_n hx hb dk_SureCover_4 rfl (lv_at hl 0 rfl) ?_
  refine lv_aload_n hx hb dk_SureCover_5 rfl (lv_at hl 1 rfl) ?_
  refine va_putF (D := D) (ci := 7) (v := .ref n0) (ty := .object "CliqueSearch$Net") (C := "CliqueSearch$SureCover") (T := cs_T7) (N := 6) hx hb hts (fun w hw => km (cs_in7 w hw) (k_u7 w hw)) cs_ty7 cs_ty7_ok cs_nm7 hown hK hP hD hS 0 rfl rfl 0 (by decide) (hts _ (km gw_182 rfl)) (fun _ h9 => h9) rfl hin rfl (by decide +kernel) rfl rfl (Nat.le_of_ble_eq_true rfl) dk_SureCover_6 (fun H locs hP hD hS => ?_)
  have hP : va_P D cs_cl [(h0, .inr (7, [.ref n0, .int 0, .int 0, .int 0, .int 0, .int 0]))] H := hP
  have hD : va_D A [(h0, .inr (7, [.ref n0, .int 0, .int 0, .int 0, .int 0, .int 0]))] := hD
  refine W.widen (k := 0) (n := 0) (by decide) (by decide) ?_
  exact W.vret hx hb hr (fun t ht hW => ⟨⟨(fun k => [].getD k 0), rfl, trivial, by rw [ht]; exact hP, va_K.moved hW.alike hK, hD⟩, hS.F ht⟩) hS.2.2 dk_SureCover_9
theorem dk_Matching_0 : decode prog_2_method_1_code 0 = .ok (.aload_n 0, 1) := by decide +kernel
theorem dk_Matching_1 : decode prog_2_method_1_code 1 = .ok (.invokespecial 3, 3) := by decide +kernel
theorem dk_Matching_4 : decode prog_2_method_1_code 4 = .ok (.aload_n 0, 1) := by decide +kernel
theorem dk_Matching_5 : decode prog_2_method_1_code 5 = .ok (.bipush 16, 2) := by decide +kernel
theorem dk_Matching_7 : decode prog_2_method_1_code 7 = .ok (.newarray .int, 2) := by decide +kernel
theorem dk_Matching_9 : decode prog_2_method_1_code 9 = .ok (.putfield 9, 3) := by decide +kernel
theorem dk_Matching_12 : decode prog_2_method_1_code 12 = .ok (.aload_n 0, 1) := by decide +kernel
theorem dk_Matching_13 : decode prog_2_method_1_code 13 = .ok (.bipush 16, 2) := by decide +kernel
theorem dk_Matching_15 : decode prog_2_method_1_code 15 = .ok (.newarray .int, 2) := by decide +kernel
theorem dk_Matching_17 : decode prog_2_method_1_code 17 = .ok (.putfield 15, 3) := by decide +kernel
theorem dk_Matching_20 : decode prog_2_method_1_code 20 = .ok (.aload_n 0, 1) := by decide +kernel
theorem dk_Matching_21 : decode prog_2_method_1_code 21 = .ok (.bipush 16, 2) := by decide +kernel
theorem dk_Matching_23 : decode prog_2_method_1_code 23 = .ok (.newarray .int, 2) := by decide +kernel
theorem dk_Matching_25 : decode prog_2_method_1_code 25 = .ok (.putfield 18, 3) := by decide +kernel
theorem dk_Matching_28 : decode prog_2_method_1_code 28 = .ok (.aload_n 0, 1) := by decide +kernel
theorem dk_Matching_29 : decode prog_2_method_1_code 29 = .ok (.bipush 16, 2) := by decide +kernel
theorem dk_Matching_31 : decode prog_2_method_1_code 31 = .ok (.newarray .int, 2) := by decide +kernel
theorem dk_Matching_33 : decode prog_2_method_1_code 33 = .ok (.putfield 21, 3) := by decide +kernel
theorem dk_Matching_36 : decode prog_2_method_1_code 36 = .ok (.aload_n 0, 1) := by decide +kernel
theorem dk_Matching_37 : decode prog_2_method_1_code 37 = .ok (.aload_n 1, 1) := by decide +kernel
theorem dk_Matching_38 : decode prog_2_method_1_code 38 = .ok (.putfield 24, 3) := by decide +kernel
theorem dk_Matching_41 : decode prog_2_method_1_code 41 = .ok (.return_, 1) := by decide +kernel
theorem gw_208 : Cond.methodLink "CliqueSearch$Matching" (3 : Nat) ({ cls := "java/lang/Object", name := "<init>", desc := "()V" } : MethodName) ∈ cs_G := List.mem_filter.mpr ⟨List.mem_append_right _ (List.mem_append_left _ (List.mem_of_getElem? (i := 208) rfl)), rfl⟩
def wk_Matching (cA : Nat → ClassId) (h0 : Nat) (n0 : Nat) (u : Nat → Nat) : va_W := [(h0, .inr (8, [.ref n0, .ref (u 0), .ref (u 1), .ref (u 2), .ref (u 3), .int 0, .int 0])), (u 0, .inl (cA 0, 16, .inl (fun _ => 0))), (u 1, .inl (cA 0, 16, .inl (fun _ => 0))), (u 2, .inl (cA 0, 16, .inl (fun _ => 0))), (u 3, .inl (cA 0, 16, .inl (fun _ => 0)))]
def yk_Matching : MethodName := ⟨"CliqueSearch$Matching", "<init>", "(LCliqueSearch$Net;)V"⟩
def ye_Matching : va_E := .inr (8, [.null, .null, .null, .null, .null, .int 0, .int 0])
set_option maxHeartbeats 4000000 in
set_option maxRecDepth 100000 in
theorem kc_Matching (l : Launch) (D : va_G) (cA : Nat → ClassId) (h0 : Nat) (n0 : Nat) (sz : Nat) : Met l yk_Matching (mi_ws cs_G (yk_Matching, prog_2_method_1_code, 2, none)) ({ frames := 1, cells := 4, slots := 64, locals := 12 }) (kP D cA h0 ye_Matching [.ref h0, .ref n0] sz) (kQ D cA (wk_Matching cA h0 n0) (va_A [(h0, ye_Matching)] sz)) 4 64 (va_A [(h0, ye_Matching)] sz) := by
  refine Met.ofW (cc := prog_2_method_1_code) (maxL := 2) (ret := none) (by decide) rfl ?_
  intro p e s m args below meth c s₁ B hml hv
  obtain ⟨rfl, hsz, hP, hK, hD0, hkx⟩ := hv
  have hx := B.exec
  have hb := B.bytes
  have hr := B.returns
  have hts := atoms_spec (ws := mi_ws cs_G (yk_Matching, prog_2_method_1_code, 2, none)) B.pre
  have hown : s.vm.findClass "CliqueSearch$Matching" = some m.cls := findClass_of_methodNamed B.named
  have hin : meth.name = "<init>" := (name_of_methodNamed B.named B.method).1
  subst hsz
  have hD := hD0.self (sz := s.heap.size)
  generalize hAe : va_A [(h0, ye_Matching)] s.heap.size = A at hD ⊢
  have hA : ∀ q : Nat, s.heap.size ≤ q → A q := fun q h => by rw [← hAe]; exact Or.inr h
  have hS : va_S A s.heap s.heap [] := va_S.rf
  have hP : va_P D cs_cl [(h0, .inr (8, [.null, .null, .null, .null, .null, .int 0, .int 0]))] s.heap := hP
  have hD : va_D A [(h0, .inr (8, [.null, .null, .null, .null, .null, .int 0, .int 0]))] := hD
  have hl := lv_entry ([.ref h0, .ref n0]) (n := 2) (Nat.le_of_ble_eq_true rfl)
  rw [lg_entry_eq]
  generalize (lg_sl ([.ref h0, .ref n0]) ++ List.replicate (2 - (lg_sl ([.ref h0, .ref n0])).length) Slot.unset).toArray = ls at hl ⊢
  have hl : lv_has ls 2 [(0, .ref h0), (1, .ref n0)] := hl
  refine lv_aload_n hx hb dk_Matching_0 rfl (lv_at hl 0 rfl) ?_
  refine W.objInit hx hb hown (hts _ (km gw_208 rfl)) (hts _ (km gw_21 rfl)) (hts _ (km gw_22 rfl)) rfl (by rw [hml]; exact hl.1) rfl dk_Matching_1 (Nat.le_of_ble_eq_true rfl) (Nat.le_of_ble_eq_true rfl) ?_
  refine W.eq (g2 := F0 m 4 ls []) rfl ?_
  refine lv_aload_n hx hb dk_Matching_4 rfl (lv_at hl 0 rfl) ?_
  refine lv_bipush (v := 16) hx hb dk_Matching_5 (by decide) ?_
  refine va_newa (atype := .int) (ty := .int) (N' := 16) (a0 := (16, .inl (fun _ => 0))) hx hb (hts _ (km gw_48 rfl)) rfl hK hP hD hS hA (fun _ => rfl) (by decide) (by decide) (by decide) (Nat.le_of_ble_eq_true rfl) (Nat.le_of_ble_eq_true rfl) dk_Matching_7 (fun q0 cA1 H hK1 hP hD hS => ?_)
  have e1 : cA1 = cA 0 := k_same hK1 (i := 3) (j := 0) rfl rfl (by decide)
  subst e1
  have hP : va_P D cs_cl [(h0, .inr (8, [.null, .null, .null, .null, .null, .int 0, .int 0])), (q0, .inl (cA 0, 16, .inl (fun _ => 0)))] H := hP
  have hD : va_D A [(h0, .inr (8, [.null, .null, .null, .null, .null, .int 0, .int 0])), (q0, .inl (cA 0, 16, .inl (fun _ => 0)))] := hD
  refine va_putF (D := D) (ci := 8) (v := .ref q0) (ty := .array .int) (C := "CliqueSearch$Matching") (T := cs_T8) (N := 7) hx hb hts (fun w hw => km (cs_in8 w hw) (k_u8 w hw)) cs_ty8 cs_ty8_ok cs_nm8 hown hK hP hD hS 0 rfl rfl 1 (by decide) (hts _ (km gw_210 rfl)) (fun _ h9 => h9) rfl hin rfl (by decide +kernel) rfl rfl (Nat.le_of_ble_eq_true rfl) dk_Matching_9 (fun H locs hP hD hS => ?_)
  have hP : va_P D cs_cl [(h0, .inr (8, [.null, .ref q0, .null, .null, .null, .int 0, .int 0])), (q0, .inl (cA 0, 16, .inl (fun _ => 0)))] H := hP
  have hD : va_D A [(h0, .inr (8, [.null, .ref q0, .null, .null, .null, .int 0, .int 0])), (q0, .inl (cA 0, 16, .inl (fun _ => 0)))] := hD
  refine lv_aload_n hx hb dk_Matching_12 rfl (lv_at hl 0 rfl) ?_
  refine lv_bipush (v := 16) hx hb dk_Matching_13 (by decide) ?_
  refine va_newa (atype := .int) (ty := .int) (N' := 16) (a0 := (16, .inl (fun _ => 0))) hx hb (hts _ (km gw_48 rfl)) rfl hK hP hD hS hA (fun _ => rfl) (by decide) (by decide) (by decide) (Nat.le_of_ble_eq_true rfl) (Nat.le_of_ble_eq_true rfl) dk_Matching_15 (fun q1 cA1 H hK1 hP hD hS => ?_)
  have e1 : cA1 = cA 0 := k_same hK1 (i := 3) (j := 0) rfl rfl (by decide)
  subst e1
  have hP : va_P D cs_cl [(h0, .inr (8, [.null, .ref q0, .null, .null, .null, .int 0, .int 0])), (q0, .inl (cA 0, 16, .inl (fun _ => 0))), (q1, .inl (cA 0, 16, .inl (fun _ => 0)))] H := hP
  have hD : va_D A [(h0, .inr (8, [.null, .ref q0, .null, .null, .null, .int 0, .int 0])), (q0, .inl (cA 0, 16, .inl (fun _ => 0))), (q1, .inl (cA 0, 16, .inl (fun _ => 0)))] := hD
  refine va_putF (D := D) (ci := 8) (v := .ref q1) (ty := .array .int) (C := "CliqueSearch$Matching") (T := cs_T8) (N := 7) hx hb hts (fun w hw => km (cs_in8 w hw) (k_u8 w hw)) cs_ty8 cs_ty8_ok cs_nm8 hown hK hP hD hS 0 rfl rfl 2 (by decide) (hts _ (km gw_211 rfl)) (fun _ h9 => h9) rfl hin rfl (by decide +kernel) rfl rfl (Nat.le_of_ble_eq_true rfl) dk_Matching_17 (fun H locs hP hD hS => ?_)
  have hP : va_P D cs_cl [(h0, .inr (8, [.null, .ref q0, .ref q1, .null, .null, .int 0, .int 0])), (q0, .inl (cA 0, 16, .inl (fun _ => 0))), (q1, .inl (cA 0, 16, .inl (fun _ => 0)))] H := hP
  have hD : va_D A [(h0, .inr (8, [.null, .ref q0, .ref q1, .null, .null, .int 0, .int 0])), (q0, .inl (cA 0, 16, .inl (fun _ => 0))), (q1, .inl (cA 0, 16, .inl (fun _ => 0)))] := hD
  refine lv_aload_n hx hb dk_Matching_20 rfl (lv_at hl 0 rfl) ?_
  refine lv_bipush (v := 16) hx hb dk_Matching_21 (by decide) ?_
  refine va_newa (atype := .int) (ty := .int) (N' := 16) (a0 := (16, .inl (fun _ => 0))) hx hb (hts _ (km gw_48 rfl)) rfl hK hP hD hS hA (fun _ => rfl) (by decide) (by decide) (by decide) (Nat.le_of_ble_eq_true rfl) (Nat.le_of_ble_eq_true rfl) dk_Matching_23 (fun q2 cA1 H hK1 hP hD hS => ?_)
  have e1 : cA1 = cA 0 := k_same hK1 (i := 3) (j := 0) rfl rfl (by decide)
  subst e1
  have hP : va_P D cs_cl [(h0, .inr (8, [.null, .ref q0, .ref q1, .null, .null, .int 0, .int 0])), (q0, .inl (cA 0, 16, .inl (fun _ => 0))), (q1, .inl (cA 0, 16, .inl (fun _ => 0))), (q2, .inl (cA 0, 16, .inl (fun _ => 0)))] H := hP
  have hD : va_D A [(h0, .inr (8, [.null, .ref q0, .ref q1, .null, .null, .int 0, .int 0])), (q0, .inl (cA 0, 16, .inl (fun _ => 0))), (q1, .inl (cA 0, 16, .inl (fun _ => 0))), (q2, .inl (cA 0, 16, .inl (fun _ => 0)))] := hD
  refine va_putF (D := D) (ci := 8) (v := .ref q2) (ty := .array .int) (C := "CliqueSearch$Matching") (T := cs_T8) (N := 7) hx hb hts (fun w hw => km (cs_in8 w hw) (k_u8 w hw)) cs_ty8 cs_ty8_ok cs_nm8 hown hK hP hD hS 0 rfl rfl 3 (by decide) (hts _ (km gw_212 rfl)) (fun _ h9 => h9) rfl hin rfl (by decide +kernel) rfl rfl (Nat.le_of_ble_eq_true rfl) dk_Matching_25 (fun H locs hP hD hS => ?_)
  have hP : va_P D cs_cl [(h0, .inr (8, [.null, .ref q0, .ref q1, .ref q2, .null, .int 0, .int 0])), (q0, .inl (cA 0, 16, .inl (fun _ => 0))), (q1, .inl (cA 0, 16, .inl (fun _ => 0))), (q2, .inl (cA 0, 16, .inl (fun _ => 0)))] H := hP
  have hD : va_D A [(h0, .inr (8, [.null, .ref q0, .ref q1, .ref q2, .null, .int 0, .int 0])), (q0, .inl (cA 0, 16, .inl (fun _ => 0))), (q1, .inl (cA 0, 16, .inl (fun _ => 0))), (q2, .inl (cA 0, 16, .inl (fun _ => 0)))] := hD
  refine lv_aload_n hx hb dk_Matching_28 rfl (lv_at hl 0 rfl) ?_
  refine lv_bipush (v := 16) hx hb dk_Matching_29 (by decide) ?_
  refine va_newa (atype := .int) (ty := .int) (N' := 16) (a0 := (16, .inl (fun _ => 0))) hx hb (hts _ (km gw_48 rfl)) rfl hK hP hD hS hA (fun _ => rfl) (by decide) (by decide) (by decide) (Nat.le_of_ble_eq_true rfl) (Nat.le_of_ble_eq_true rfl) dk_Matching_31 (fun q3 cA1 H hK1 hP hD hS => ?_)
  have e1 : cA1 = cA 0 := k_same hK1 (i := 3) (j := 0) rfl rfl (by decide)
  subst e1
  have hP : va_P D cs_cl [(h0, .inr (8, [.null, .ref q0, .ref q1, .ref q2, .null, .int 0, .int 0])), (q0, .inl (cA 0, 16, .inl (fun _ => 0))), (q1, .inl (cA 0, 16, .inl (fun _ => 0))), (q2, .inl (cA 0, 16, .inl (fun _ => 0))), (q3, .inl (cA 0, 16, .inl (fun _ => 0)))] H := hP
  have hD : va_D A [(h0, .inr (8, [.null, .ref q0, .ref q1, .ref q2, .null, .int 0, .int 0])), (q0, .inl (cA 0, 16, .inl (fun _ => 0))), (q1, .inl (cA 0, 16, .inl (fun _ => 0))), (q2, .inl (cA 0, 16, .inl (fun _ => 0))), (q3, .inl (cA 0, 16, .inl (fun _ => 0)))] := hD
  refine va_putF (D := D) (ci := 8) (v := .ref q3) (ty := .array .int) (C := "CliqueSearch$Matching") (T := cs_T8) (N := 7) hx hb hts (fun w hw => km (cs_in8 w hw) (k_u8 w hw)) cs_ty8 cs_ty8_ok cs_nm8 hown hK hP hD hS 0 rfl rfl 4 (by decide) (hts _ (km gw_213 rfl)) (fun _ h9 => h9) rfl hin rfl (by decide +kernel) rfl rfl (Nat.le_of_ble_eq_true rfl) dk_Matching_33 (fun H locs hP hD hS => ?_)
  have hP : va_P D cs_cl [(h0, .inr (8, [.null, .ref q0, .ref q1, .ref q2, .ref q3, .int 0, .int 0])), (q0, .inl (cA 0, 16, .inl (fun _ => 0))), (q1, .inl (cA 0, 16, .inl (fun _ => 0))), (q2, .inl (cA 0, 16, .inl (fun _ => 0))), (q3, .inl (cA 0, 16, .inl (fun _ => 0)))] H := hP
  have hD : va_D A [(h0, .inr (8, [.null, .ref q0, .ref q1, .ref q2, .ref q3, .int 0, .int 0])), (q0, .inl (cA 0, 16, .inl (fun _ => 0))), (q1, .inl (cA 0, 16, .inl (fun _ => 0))), (q2, .inl (cA 0, 16, .inl (fun _ => 0))), (q3, .inl (cA 0, 16, .inl (fun _ => 0)))] := hD
  refine lv_aload_n hx hb dk_Matching_36 rfl (lv_at hl 0 rfl) ?_
  refine lv_aload_n hx hb dk_Matching_37 rfl (lv_at hl 1 rfl) ?_
  refine va_putF (D := D) (ci := 8) (v := .ref n0) (ty := .object "CliqueSearch$Net") (C := "CliqueSearch$Matching") (T := cs_T8) (N := 7) hx hb hts (fun w hw => km (cs_in8 w hw) (k_u8 w hw)) cs_ty8 cs_ty8_ok cs_nm8 hown hK hP hD hS 0 rfl rfl 0 (by decide) (hts _ (km gw_209 rfl)) (fun _ h9 => h9) rfl hin rfl (by decide +kernel) rfl rfl (Nat.le_of_ble_eq_true rfl) dk_Matching_38 (fun H locs hP hD hS => ?_)
  have hP : va_P D cs_cl [(h0, .inr (8, [.ref n0, .ref q0, .ref q1, .ref q2, .ref q3, .int 0, .int 0])), (q0, .inl (cA 0, 16, .inl (fun _ => 0))), (q1, .inl (cA 0, 16, .inl (fun _ => 0))), (q2, .inl (cA 0, 16, .inl (fun _ => 0))), (q3, .inl (cA 0, 16, .inl (fun _ => 0)))] H := hP
  have hD : va_D A [(h0, .inr (8, [.ref n0, .ref q0, .ref q1, .ref q2, .ref q3, .int 0, .int 0])), (q0, .inl (cA 0, 16, .inl (fun _ => 0))), (q1, .inl (cA 0, 16, .inl (fun _ => 0))), (q2, .inl (cA 0, 16, .inl (fun _ => 0))), (q3, .inl (cA 0, 16, .inl (fun _ => 0)))] := hD
  refine W.widen (k := 4) (n := 64) (by decide) (by decide) ?_
  exact W.vret hx hb hr (fun t ht hW => ⟨⟨(fun k => [q0, q1, q2, q3].getD k 0), rfl, trivial, by rw [ht]; exact hP, va_K.moved hW.alike hK, hD⟩, hS.F ht⟩) hS.2.2 dk_Matching_41

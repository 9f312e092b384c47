theorem dk_Model_0 : decode prog_11_method_3_code 0 = .ok (.aload_n 0, 1) := by decide +kernel
theorem dk_Model_1 : decode prog_11_method_3_code 1 = .ok (.invokespecial 7, 3) := by decide +kernel
theorem dk_Model_4 : decode prog_11_method_3_code 4 = .ok (.aload_n 0, 1) := by decide +kernel
theorem dk_Model_5 : decode prog_11_method_3_code 5 = .ok (.bipush 16, 2) := by decide +kernel
theorem dk_Model_7 : decode prog_11_method_3_code 7 = .ok (.newarray .int, 2) := by decide +kernel
theorem dk_Model_9 : decode prog_11_method_3_code 9 = .ok (.putfield 13, 3) := by decide +kernel
theorem dk_Model_12 : decode prog_11_method_3_code 12 = .ok (.aload_n 0, 1) := by decide +kernel
theorem dk_Model_13 : decode prog_11_method_3_code 13 = .ok (.bipush 16, 2) := by decide +kernel
theorem dk_Model_15 : decode prog_11_method_3_code 15 = .ok (.newarray .int, 2) := by decide +kernel
theorem dk_Model_17 : decode prog_11_method_3_code 17 = .ok (.putfield 17, 3) := by decide +kernel
theorem dk_Model_20 : decode prog_11_method_3_code 20 = .ok (.aload_n 0, 1) := by decide +kernel
theorem dk_Model_21 : decode prog_11_method_3_code 21 = .ok (.sipush 1000, 3) := by decide +kernel
theorem dk_Model_24 : decode prog_11_method_3_code 24 = .ok (.newarray .int, 2) := by decide +kernel
theorem dk_Model_26 : decode prog_11_method_3_code 26 = .ok (.putfield 20, 3) := by decide +kernel
theorem dk_Model_29 : decode prog_11_method_3_code 29 = .ok (.aload_n 0, 1) := by decide +kernel
theorem dk_Model_30 : decode prog_11_method_3_code 30 = .ok (.bipush 16, 2) := by decide +kernel
theorem dk_Model_32 : decode prog_11_method_3_code 32 = .ok (.newarray .int, 2) := by decide +kernel
theorem dk_Model_34 : decode prog_11_method_3_code 34 = .ok (.putfield 23, 3) := by decide +kernel
theorem dk_Model_37 : decode prog_11_method_3_code 37 = .ok (.aload_n 0, 1) := by decide +kernel
theorem dk_Model_38 : decode prog_11_method_3_code 38 = .ok (.bipush 16, 2) := by decide +kernel
theorem dk_Model_40 : decode prog_11_method_3_code 40 = .ok (.newarray .int, 2) := by decide +kernel
theorem dk_Model_42 : decode prog_11_method_3_code 42 = .ok (.putfield 26, 3) := by decide +kernel
theorem dk_Model_45 : decode prog_11_method_3_code 45 = .ok (.aload_n 0, 1) := by decide +kernel
theorem dk_Model_46 : decode prog_11_method_3_code 46 = .ok (.bipush 16, 2) := by decide +kernel
theorem dk_Model_48 : decode prog_11_method_3_code 48 = .ok (.newarray .int, 2) := by decide +kernel
theorem dk_Model_50 : decode prog_11_method_3_code 50 = .ok (.putfield 29, 3) := by decide +kernel
theorem dk_Model_53 : decode prog_11_method_3_code 53 = .ok (.aload_n 0, 1) := by decide +kernel
theorem dk_Model_54 : decode prog_11_method_3_code 54 = .ok (.ldc 32, 2) := by decide +kernel
theorem dk_Model_56 : decode prog_11_method_3_code 56 = .ok (.newarray .byte, 2) := by decide +kernel
theorem dk_Model_58 : decode prog_11_method_3_code 58 = .ok (.putfield 33, 3) := by decide +kernel
theorem dk_Model_61 : decode prog_11_method_3_code 61 = .ok (.aload_n 0, 1) := by decide +kernel
theorem dk_Model_62 : decode prog_11_method_3_code 62 = .ok (.iconst 0, 1) := by decide +kernel
theorem dk_Model_63 : decode prog_11_method_3_code 63 = .ok (.putfield 1, 3) := by decide +kernel
theorem dk_Model_66 : decode prog_11_method_3_code 66 = .ok (.return_, 1) := by decide +kernel
theorem gw_634 : Cond.methodLink "CliqueSearchModel" (7 : Nat) ({ cls := "java/lang/Object", name := "<init>", desc := "()V" } : MethodName) ∈ cs_G := List.mem_filter.mpr ⟨List.mem_append_right _ (List.mem_append_right _ (List.mem_append_right _ (List.mem_append_left _ (List.mem_of_getElem? (i := 154) rfl)))), rfl⟩
theorem gw_635 : Cond.constant "CliqueSearchModel" (32 : Nat) (65536 : Int32) ∈ cs_G := List.mem_filter.mpr ⟨List.mem_append_right _ (List.mem_append_right _ (List.mem_append_right _ (List.mem_append_left _ (List.mem_of_getElem? (i := 155) rfl)))), rfl⟩
theorem gw_691 : Cond.arrayClass FieldType.byte ∈ cs_G := List.mem_filter.mpr ⟨List.mem_append_right _ (List.mem_append_right _ (List.mem_append_right _ (List.mem_append_left _ (List.mem_of_getElem? (i := 211) rfl)))), rfl⟩
def wk_Model (cA : Nat → ClassId) (h0 : Nat)  (u : Nat → Nat) : va_W := [(h0, .inr (9, [.int 0, .int 0, .ref (u 0), .ref (u 1), .ref (u 2), .ref (u 3), .ref (u 4), .ref (u 5), .int 0, .int 0, .int 0, .int 0, .int 0, .int 0, .int 0, .int 0, .int 0, .ref (u 6)])), (u 0, .inl (cA 0, 16, .inl (fun _ => 0))), (u 1, .inl (cA 0, 16, .inl (fun _ => 0))), (u 2, .inl (cA 0, 1000, .inl (fun _ => 0))), (u 3, .inl (cA 0, 16, .inl (fun _ => 0))), (u 4, .inl (cA 0, 16, .inl (fun _ => 0))), (u 5, .inl (cA 0, 16, .inl (fun _ => 0))), (u 6, .inl (cA 1, 65536, .inl (fun _ => 0)))]
def yk_Model : MethodName := ⟨"CliqueSearchModel", "<init>", "()V"⟩
def ye_Model : va_E := .inr (9, [.int 0, .int 0, .null, .null, .null, .null, .null, .null, .int 0, .int 0, .int 0, .int 0, .int 0, .int 0, .int 0, .int 0, .int 0, .null])
set_option maxHeartbeats 4000000 in
set_option maxRecDepth 100000 in
theorem kc_Model (l : Launch) (D : va_G) (cA : Nat → ClassId) (h0 : Nat)  (sz : Nat) : Met l yk_Model (mi_ws cs_G (yk_Model, prog_11_method_3_code, 1, none)) ({ frames := 1, cells := 7, slots := 66616, locals := 12 }) (kP D cA h0 ye_Model [.ref h0] sz) (kQ D cA (wk_Model cA h0 ) (va_A [(h0, ye_Model)] sz)) 7 66616 (va_A [(h0, ye_Model)] sz) := by
  refine Met.ofW (cc := prog_11_method_3_code) (maxL := 1) (ret := none) (by decide) rfl ?_
  intro p e s m args below meth c s₁ B hml hv
  obtain ⟨rfl, hsz, hP, hK, hD0, hkx⟩ := hv
  have hx := B.exec
  have hb := B.bytes
  have hr := B.returns
  have hts := atoms_spec (ws := mi_ws cs_G (yk_Model, prog_11_method_3_code, 1, none)) B.pre
  have hown : s.vm.findClass "CliqueSearchModel" = some m.cls := findClass_of_methodNamed B.named
  have hin : meth.name = "<init>" := (name_of_methodNamed B.named B.method).1
  subst hsz
  have hD := hD0.self (sz := s.heap.size)
  generalize hAe : va_A [(h0, ye_Model)] s.heap.size = A at hD ⊢
  have hA : ∀ q : Nat, s.heap.size ≤ q → A q := fun q h => by rw [← hAe]; exact Or.inr h
  have hS : va_S A s.heap s.heap [] := va_S.rf
  have hP : va_P D cs_cl [(h0, .inr (9, [.int 0, .int 0, .null, .null, .null, .null, .null, .null, .int 0, .int 0, .int 0, .int 0, .int 0, .int 0, .int 0, .int 0, .int 0, .null]))] s.heap := hP
  have hD : va_D A [(h0, .inr (9, [.int 0, .int 0, .null, .null, .null, .null, .null, .null, .int 0, .int 0, .int 0, .int 0, .int 0, .int 0, .int 0, .int 0, .int 0, .null]))] := hD
  have hl := lv_entry ([.ref h0]) (n := 1) (Nat.le_of_ble_eq_true rfl)
  rw [lg_entry_eq]
  generalize (lg_sl ([.ref h0]) ++ List.replicate (1 - (lg_sl ([.ref h0])).length) Slot.unset).toArray = ls at hl ⊢
  have hl : lv_has ls 1 [(0, .ref h0)] := hl
  refine lv_aload_n hx hb dk_Model_0 rfl (lv_at hl 0 rfl) ?_
  refine W.objInit hx hb hown (hts _ (km gw_634 rfl)) (hts _ (km gw_21 rfl)) (hts _ (km gw_22 rfl)) rfl (by rw [hml]; exact hl.1) rfl dk_Model_1 (Nat.le_of_ble_eq_true rfl) (Nat.le_of_ble_eq_true rfl) ?_
  refine W.eq (g2 := F0 m 4 ls []) rfl ?_
  refine lv_aload_n hx hb dk_Model_4 rfl (lv_at hl 0 rfl) ?_
  refine lv_bipush (v := 16) hx hb dk_Model_5 (by decide) ?_
  refine va_newa (atype := .int) (ty := .int) (N' := 16) (a0 := (16, .inl (fun _ => 0))) hx hb (hts _ (km gw_48 rfl)) rfl hK hP hD hS hA (fun _ => rfl) (by decide) (by decide) (by decide) (Nat.le_of_ble_eq_true rfl) (Nat.le_of_ble_eq_true rfl) dk_Model_7 (fun q0 cA1 H hK1 hP hD hS => ?_)
  have e1 : cA1 = cA 0 := k_same hK1 (i := 3) (j := 0) rfl rfl (by decide)
  subst e1
  have hP : va_P D cs_cl [(h0, .inr (9, [.int 0, .int 0, .null, .null, .null, .null, .null, .null, .int 0, .int 0, .int 0, .int 0, .int 0, .int 0, .int 0, .int 0, .int 0, .null])), (q0, .inl (cA 0, 16, .inl (fun _ => 0)))] H := hP
  have hD : va_D A [(h0, .inr (9, [.int 0, .int 0, .null, .null, .null, .null, .null, .null, .int 0, .int 0, .int 0, .int 0, .int 0, .int 0, .int 0, .int 0, .int 0, .null])), (q0, .inl (cA 0, 16, .inl (fun _ => 0)))] := hD
  refine va_putF (D := D) (ci := 9) (v := .ref q0) (ty := .array .int) (C := "CliqueSearchModel") (T := cs_T9) (N := 18) hx hb hts (fun w hw => km (cs_in9 w hw) (k_u9 w hw)) cs_ty9 cs_ty9_ok cs_nm9 hown hK hP hD hS 0 rfl rfl 2 (by decide) (hts _ (km gw_638 rfl)) (fun _ h9 => h9) rfl hin rfl (by decide +kernel) rfl rfl (Nat.le_of_ble_eq_true rfl) dk_Model_9 (fun H locs hP hD hS => ?_)
  have hP : va_P D cs_cl [(h0, .inr (9, [.int 0, .int 0, .ref q0, .null, .null, .null, .null, .null, .int 0, .int 0, .int 0, .int 0, .int 0, .int 0, .int 0, .int 0, .int 0, .null])), (q0, .inl (cA 0, 16, .inl (fun _ => 0)))] H := hP
  have hD : va_D A [(h0, .inr (9, [.int 0, .int 0, .ref q0, .null, .null, .null, .null, .null, .int 0, .int 0, .int 0, .int 0, .int 0, .int 0, .int 0, .int 0, .int 0, .null])), (q0, .inl (cA 0, 16, .inl (fun _ => 0)))] := hD
  refine lv_aload_n hx hb dk_Model_12 rfl (lv_at hl 0 rfl) ?_
  refine lv_bipush (v := 16) hx hb dk_Model_13 (by decide) ?_
  refine va_newa (atype := .int) (ty := .int) (N' := 16) (a0 := (16, .inl (fun _ => 0))) hx hb (hts _ (km gw_48 rfl)) rfl hK hP hD hS hA (fun _ => rfl) (by decide) (by decide) (by decide) (Nat.le_of_ble_eq_true rfl) (Nat.le_of_ble_eq_true rfl) dk_Model_15 (fun q1 cA1 H hK1 hP hD hS => ?_)
  have e1 : cA1 = cA 0 := k_same hK1 (i := 3) (j := 0) rfl rfl (by decide)
  subst e1
  have hP : va_P D cs_cl [(h0, .inr (9, [.int 0, .int 0, .ref q0, .null, .null, .null, .null, .null, .int 0, .int 0, .int 0, .int 0, .int 0, .int 0, .int 0, .int 0, .int 0, .null])), (q0, .inl (cA 0, 16, .inl (fun _ => 0))), (q1, .inl (cA 0, 16, .inl (fun _ => 0)))] H := hP
  have hD : va_D A [(h0, .inr (9, [.int 0, .int 0, .ref q0, .null, .null, .null, .null, .null, .int 0, .int 0, .int 0, .int 0, .int 0, .int 0, .int 0, .int 0, .int 0, .null])), (q0, .inl (cA 0, 16, .inl (fun _ => 0))), (q1, .inl (cA 0, 16, .inl (fun _ => 0)))] := hD
  refine va_putF (D := D) (ci := 9) (v := .ref q1) (ty := .array .int) (C := "CliqueSearchModel") (T := cs_T9) (N := 18) hx hb hts (fun w hw => km (cs_in9 w hw) (k_u9 w hw)) cs_ty9 cs_ty9_ok cs_nm9 hown hK hP hD hS 0 rfl rfl 3 (by decide) (hts _ (km gw_639 rfl)) (fun _ h9 => h9) rfl hin rfl (by decide +kernel) rfl rfl (Nat.le_of_ble_eq_true rfl) dk_Model_17 (fun H locs hP hD hS => ?_)
  have hP : va_P D cs_cl [(h0, .inr (9, [.int 0, .int 0, .ref q0, .ref q1, .null, .null, .null, .null, .int 0, .int 0, .int 0, .int 0, .int 0, .int 0, .int 0, .int 0, .int 0, .null])), (q0, .inl (cA 0, 16, .inl (fun _ => 0))), (q1, .inl (cA 0, 16, .inl (fun _ => 0)))] H := hP
  have hD : va_D A [(h0, .inr (9, [.int 0, .int 0, .ref q0, .ref q1, .null, .null, .null, .null, .int 0, .int 0, .int 0, .int 0, .int 0, .int 0, .int 0, .int 0, .int 0, .null])), (q0, .inl (cA 0, 16, .inl (fun _ => 0))), (q1, .inl (cA 0, 16, .inl (fun _ => 0)))] := hD
  refine lv_aload_n hx hb dk_Model_20 rfl (lv_at hl 0 rfl) ?_
  refine lv_sipush (v := 1000) hx hb dk_Model_21 (by decide) ?_
  refine va_newa (atype := .int) (ty := .int) (N' := 1000) (a0 := (1000, .inl (fun _ => 0))) hx hb (hts _ (km gw_48 rfl)) rfl hK hP hD hS hA (fun _ => rfl) (by decide) (by decide) (by decide) (Nat.le_of_ble_eq_true rfl) (Nat.le_of_ble_eq_true rfl) dk_Model_24 (fun q2 cA1 H hK1 hP hD hS => ?_)
  have e1 : cA1 = cA 0 := k_same hK1 (i := 3) (j := 0) rfl rfl (by decide)
  subst e1
  have hP : va_P D cs_cl [(h0, .inr (9, [.int 0, .int 0, .ref q0, .ref q1, .null, .null, .null, .null, .int 0, .int 0, .int 0, .int 0, .int 0, .int 0, .int 0, .int 0, .int 0, .null])), (q0, .inl (cA 0, 16, .inl (fun _ => 0))), (q1, .inl (cA 0, 16, .inl (fun _ => 0))), (q2, .inl (cA 0, 1000, .inl (fun _ => 0)))] H := hP
  have hD : va_D A [(h0, .inr (9, [.int 0, .int 0, .ref q0, .ref q1, .null, .null, .null, .null, .int 0, .int 0, .int 0, .int 0, .int 0, .int 0, .int 0, .int 0, .int 0, .null])), (q0, .inl (cA 0, 16, .inl (fun _ => 0))), (q1, .inl (cA 0, 16, .inl (fun _ => 0))), (q2, .inl (cA 0, 1000, .inl (fun _ => 0)))] := hD
  refine va_putF (D := D) (ci := 9) (v := .ref q2) (ty := .array .int) (C := "CliqueSearchModel") (T := cs_T9) (N := 18) hx hb hts (fun w hw => km (cs_in9 w hw) (k_u9 w hw)) cs_ty9 cs_ty9_ok cs_nm9 hown hK hP hD hS 0 rfl rfl 4 (by decide) (hts _ (km gw_640 rfl)) (fun _ h9 => h9) rfl hin rfl (by decide +kernel) rfl rfl (Nat.le_of_ble_eq_true rfl) dk_Model_26 (fun H locs hP hD hS => ?_)
  have hP : va_P D cs_cl [(h0, .inr (9, [.int 0, .int 0, .ref q0, .ref q1, .ref q2, .null, .null, .null, .int 0, .int 0, .int 0, .int 0, .int 0, .int 0, .int 0, .int 0, .int 0, .null])), (q0, .inl (cA 0, 16, .inl (fun _ => 0))), (q1, .inl (cA 0, 16, .inl (fun _ => 0))), (q2, .inl (cA 0, 1000, .inl (fun _ => 0)))] H := hP
  have hD : va_D A [(h0, .inr (9, [.int 0, .int 0, .ref q0, .ref q1, .ref q2, .null, .null, .null, .int 0, .int 0, .int 0, .int 0, .int 0, .int 0, .int 0, .int 0, .int 0, .null])), (q0, .inl (cA 0, 16, .inl (fun _ => 0))), (q1, .inl (cA 0, 16, .inl (fun _ => 0))), (q2, .inl (cA 0, 1000, .inl (fun _ => 0)))] := hD
  refine lv_aload_n hx hb dk_Model_29 rfl (lv_at hl 0 rfl) ?_
  refine lv_bipush (v := 16) hx hb dk_Model_30 (by decide) ?_
  refine va_newa (atype := .int) (ty := .int) (N' := 16) (a0 := (16, .inl (fun _ => 0))) hx hb (hts _ (km gw_48 rfl)) rfl hK hP hD hS hA (fun _ => rfl) (by decide) (by decide) (by decide) (Nat.le_of_ble_eq_true rfl) (Nat.le_of_ble_eq_true rfl) dk_Model_32 (fun q3 cA1 H hK1 hP hD hS => ?_)
  have e1 : cA1 = cA 0 := k_same hK1 (i := 3) (j := 0) rfl rfl (by decide)
  subst e1
  have hP : va_P D cs_cl [(h0, .inr (9, [.int 0, .int 0, .ref q0, .ref q1, .ref q2, .null, .null, .null, .int 0, .int 0, .int 0, .int 0, .int 0, .int 0, .int 0, .int 0, .int 0, .null])), (q0, .inl (cA 0, 16, .inl (fun _ => 0))), (q1, .inl (cA 0, 16, .inl (fun _ => 0))), (q2, .inl (cA 0, 1000, .inl (fun _ => 0))), (q3, .inl (cA 0, 16, .inl (fun _ => 0)))] H := hP
  have hD : va_D A [(h0, .inr (9, [.int 0, .int 0, .ref q0, .ref q1, .ref q2, .null, .null, .null, .int 0, .int 0, .int 0, .int 0, .int 0, .int 0, .int 0, .int 0, .int 0, .null])), (q0, .inl (cA 0, 16, .inl (fun _ => 0))), (q1, .inl (cA 0, 16, .inl (fun _ => 0))), (q2, .inl (cA 0, 1000, .inl (fun _ => 0))), (q3, .inl (cA 0, 16, .inl (fun _ => 0)))] := hD
  refine va_putF (D := D) (ci := 9) (v := .ref q3) (ty := .array .int) (C := "CliqueSearchModel") (T := cs_T9) (N := 18) hx hb hts (fun w hw => km (cs_in9 w hw) (k_u9 w hw)) cs_ty9 cs_ty9_ok cs_nm9 hown hK hP hD hS 0 rfl rfl 5 (by decide) (hts _ (km gw_641 rfl)) (fun _ h9 => h9) rfl hin rfl (by decide +kernel) rfl rfl (Nat.le_of_ble_eq_true rfl) dk_Model_34 (fun H locs hP hD hS => ?_)
  have hP : va_P D cs_cl [(h0, .inr (9, [.int 0, .int 0, .ref q0, .ref q1, .ref q2, .ref q3, .null, .null, .int 0, .int 0, .int 0, .int 0, .int 0, .int 0, .int 0, .int 0, .int 0, .null])), (q0, .inl (cA 0, 16, .inl (fun _ => 0))), (q1, .inl (cA 0, 16, .inl (fun _ => 0))), (q2, .inl (cA 0, 1000, .inl (fun _ => 0))), (q3, .inl (cA 0, 16, .inl (fun _ => 0)))] H := hP
  have hD : va_D A [(h0, .inr (9, [.int 0, .int 0, .ref q0, .ref q1, .ref q2, .ref q3, .null, .null, .int 0, .int 0, .int 0, .int 0, .int 0, .int 0, .int 0, .int 0, .int 0, .null])), (q0, .inl (cA 0, 16, .inl (fun _ => 0))), (q1, .inl (cA 0, 16, .inl (fun _ => 0))), (q2, .inl (cA 0, 1000, .inl (fun _ => 0))), (q3, .inl (cA 0, 16, .inl (fun _ => 0)))] := hD
  refine lv_aload_n hx hb dk_Model_37 rfl (lv_at hl 0 rfl) ?_
  refine lv_bipush (v := 16) hx hb dk_Model_38 (by decide) ?_
  refine va_newa (atype := .int) (ty := .int) (N' := 16) (a0 := (16, .inl (fun _ => 0))) hx hb (hts _ (km gw_48 rfl)) rfl hK hP hD hS hA (fun _ => rfl) (by decide) (by decide) (by decide) (Nat.le_of_ble_eq_true rfl) (Nat.le_of_ble_eq_true rfl) dk_Model_40 (fun q4 cA1 H hK1 hP hD hS => ?_)
  have e1 : cA1 = cA 0 := k_same hK1 (i := 3) (j := 0) rfl rfl (by decide)
  subst e1
  have hP : va_P D cs_cl [(h0, .inr (9, [.int 0, .int 0, .ref q0, .ref q1, .ref q2, .ref q3, .null, .null, .int 0, .int 0, .int 0, .int 0, .int 0, .int 0, .int 0, .int 0, .int 0, .null])), (q0, .inl (cA 0, 16, .inl (fun _ => 0))), (q1, .inl (cA 0, 16, .inl (fun _ => 0))), (q2, .inl (cA 0, 1000, .inl (fun _ => 0))), (q3, .inl (cA 0, 16, .inl (fun _ => 0))), (q4, .inl (cA 0, 16, .inl (fun _ => 0)))] H := hP
  have hD : va_D A [(h0, .inr (9, [.int 0, .int 0, .ref q0, .ref q1, .ref q2, .ref q3, .null, .null, .int 0, .int 0, .int 0, .int 0, .int 0, .int 0, .int 0, .int 0, .int 0, .null])), (q0, .inl (cA 0, 16, .inl (fun _ => 0))), (q1, .inl (cA 0, 16, .inl (fun _ => 0))), (q2, .inl (cA 0, 1000, .inl (fun _ => 0))), (q3, .inl (cA 0, 16, .inl (fun _ => 0))), (q4, .inl (cA 0, 16, .inl (fun _ => 0)))] := hD
  refine va_putF (D := D) (ci := 9) (v := .ref q4) (ty := .array .int) (C := "CliqueSearchModel") (T := cs_T9) (N := 18) hx hb hts (fun w hw => km (cs_in9 w hw) (k_u9 w hw)) cs_ty9 cs_ty9_ok cs_nm9 hown hK hP hD hS 0 rfl rfl 6 (by decide) (hts _ (km gw_642 rfl)) (fun _ h9 => h9) rfl hin rfl (by decide +kernel) rfl rfl (Nat.le_of_ble_eq_true rfl) dk_Model_42 (fun H locs hP hD hS => ?_)
  have hP : va_P D cs_cl [(h0, .inr (9, [.int 0, .int 0, .ref q0, .ref q1, .ref q2, .ref q3, .ref q4, .null, .int 0, .int 0, .int 0, .int 0, .int 0, .int 0, .int 0, .int 0, .int 0, .null])), (q0, .inl (cA 0, 16, .inl (fun _ => 0))), (q1, .inl (cA 0, 16, .inl (fun _ => 0))), (q2, .inl (cA 0, 1000, .inl (fun _ => 0))), (q3, .inl (cA 0, 16, .inl (fun _ => 0))), (q4, .inl (cA 0, 16, .inl (fun _ => 0)))] H := hP
  have hD : va_D A [(h0, .inr (9, [.int 0, .int 0, .ref q0, .ref q1, .ref q2, .ref q3, .ref q4, .null, .int 0, .int 0, .int 0, .int 0, .int 0, .int 0, .int 0, .int 0, .int 0, .null])), (q0, .inl (cA 0, 16, .inl (fun _ => 0))), (q1, .inl (cA 0, 16, .inl (fun _ => 0))), (q2, .inl (cA 0, 1000, .inl (fun _ => 0))), (q3, .inl (cA 0, 16, .inl (fun _ => 0))), (q4, .inl (cA 0, 16, .inl (fun _ => 0)))] := hD
  refine lv_aload_n hx hb dk_Model_45 rfl (lv_at hl 0 rfl) ?_
  refine lv_bipush (v := 16) hx hb dk_Model_46 (by decide) ?_
  refine va_newa (atype := .int) (ty := .int) (N' := 16) (a0 := (16, .inl (fun _ => 0))) hx hb (hts _ (km gw_48 rfl)) rfl hK hP hD hS hA (fun _ => rfl) (by decide) (by decide) (by decide) (Nat.le_of_ble_eq_true rfl) (Nat.le_of_ble_eq_true rfl) dk_Model_48 (fun q5 cA1 H hK1 hP hD hS => ?_)
  have e1 : cA1 = cA 0 := k_same hK1 (i := 3) (j := 0) rfl rfl (by decide)
  subst e1
  have hP : va_P D cs_cl [(h0, .inr (9, [.int 0, .int 0, .ref q0, .ref q1, .ref q2, .ref q3, .ref q4, .null, .int 0, .int 0, .int 0, .int 0, .int 0, .int 0, .int 0, .int 0, .int 0, .null])), (q0, .inl (cA 0, 16, .inl (fun _ => 0))), (q1, .inl (cA 0, 16, .inl (fun _ => 0))), (q2, .inl (cA 0, 1000, .inl (fun _ => 0))), (q3, .inl (cA 0, 16, .inl (fun _ => 0))), (q4, .inl (cA 0, 16, .inl (fun _ => 0))), (q5, .inl (cA 0, 16, .inl (fun _ => 0)))] H := hP
  have hD : va_D A [(h0, .inr (9, [.int 0, .int 0, .ref q0, .ref q1, .ref q2, .ref q3, .ref q4, .null, .int 0, .int 0, .int 0, .int 0, .int 0, .int 0, .int 0, .int 0, .int 0, .null])), (q0, .inl (cA 0, 16, .inl (fun _ => 0))), (q1, .inl (cA 0, 16, .inl (fun _ => 0))), (q2, .inl (cA 0, 1000, .inl (fun _ => 0))), (q3, .inl (cA 0, 16, .inl (fun _ => 0))), (q4, .inl (cA 0, 16, .inl (fun _ => 0))), (q5, .inl (cA 0, 16, .inl (fun _ => 0)))] := hD
  refine va_putF (D := D) (ci := 9) (v := .ref q5) (ty := .array .int) (C := "CliqueSearchModel") (T := cs_T9) (N := 18) hx hb hts (fun w hw => km (cs_in9 w hw) (k_u9 w hw)) cs_ty9 cs_ty9_ok cs_nm9 hown hK hP hD hS 0 rfl rfl 7 (by decide) (hts _ (km gw_643 rfl)) (fun _ h9 => h9) rfl hin rfl (by decide +kernel) rfl rfl (Nat.le_of_ble_eq_true rfl) dk_Model_50 (fun H locs hP hD hS => ?_)
  have hP : va_P D cs_cl [(h0, .inr (9, [.int 0, .int 0, .ref q0, .ref q1, .ref q2, .ref q3, .ref q4, .ref q5, .int 0, .int 0, .int 0, .int 0, .int 0, .int 0, .int 0, .int 0, .int 0, .null])), (q0, .inl (cA 0, 16, .inl (fun _ => 0))), (q1, .inl (cA 0, 16, .inl (fun _ => 0))), (q2, .inl (cA 0, 1000, .inl (fun _ => 0))), (q3, .inl (cA 0, 16, .inl (fun _ => 0))), (q4, .inl (cA 0, 16, .inl (fun _ => 0))), (q5, .inl (cA 0, 16, .inl (fun _ => 0)))] H := hP
  have hD : va_D A [(h0, .inr (9, [.int 0, .int 0, .ref q0, .ref q1, .ref q2, .ref q3, .ref q4, .ref q5, .int 0, .int 0, .int 0, .int 0, .int 0, .int 0, .int 0, .int 0, .int 0, .null])), (q0, .inl (cA 0, 16, .inl (fun _ => 0))), (q1, .inl (cA 0, 16, .inl (fun _ => 0))), (q2, .inl (cA 0, 1000, .inl (fun _ => 0))), (q3, .inl (cA 0, 16, .inl (fun _ => 0))), (q4, .inl (cA 0, 16, .inl (fun _ => 0))), (q5, .inl (cA 0, 16, .inl (fun _ => 0)))] := hD
  refine lv_aload_n hx hb dk_Model_53 rfl (lv_at hl 0 rfl) ?_
  refine lv_ldc (v := 65536) hx hb hown (hts _ (km gw_635 rfl)) dk_Model_54 ?_
  refine va_newa (atype := .byte) (ty := .byte) (N' := 65536) (a0 := (65536, .inl (fun _ => 0))) hx hb (hts _ (km gw_691 rfl)) rfl hK hP hD hS hA (fun _ => rfl) (by decide) (by decide) (by decide) (Nat.le_of_ble_eq_true rfl) (Nat.le_of_ble_eq_true rfl) dk_Model_56 (fun q6 cA1 H hK1 hP hD hS => ?_)
  have e1 : cA1 = cA 1 := k_same hK1 (i := 3) (j := 1) rfl rfl (by decide)
  subst e1
  have hP : va_P D cs_cl [(h0, .inr (9, [.int 0, .int 0, .ref q0, .ref q1, .ref q2, .ref q3, .ref q4, .ref q5, .int 0, .int 0, .int 0, .int 0, .int 0, .int 0, .int 0, .int 0, .int 0, .null])), (q0, .inl (cA 0, 16, .inl (fun _ => 0))), (q1, .inl (cA 0, 16, .inl (fun _ => 0))), (q2, .inl (cA 0, 1000, .inl (fun _ => 0))), (q3, .inl (cA 0, 16, .inl (fun _ => 0))), (q4, .inl (cA 0, 16, .inl (fun _ => 0))), (q5, .inl (cA 0, 16, .inl (fun _ => 0))), (q6, .inl (cA 1, 65536, .inl (fun _ => 0)))] H := hP
  have hD : va_D A [(h0, .inr (9, [.int 0, .int 0, .ref q0, .ref q1, .ref q2, .ref q3, .ref q4, .ref q5, .int 0, .int 0, .int 0, .int 0, .int 0, .int 0, .int 0, .int 0, .int 0, .null])), (q0, .inl (cA 0, 16, .inl (fun _ => 0))), (q1, .inl (cA 0, 16, .inl (fun _ => 0))), (q2, .inl (cA 0, 1000, .inl (fun _ => 0))), (q3, .inl (cA 0, 16, .inl (fun _ => 0))), (q4, .inl (cA 0, 16, .inl (fun _ => 0))), (q5, .inl (cA 0, 16, .inl (fun _ => 0))), (q6, .inl (cA 1, 65536, .inl (fun _ => 0)))] := hD
  refine va_putF (D := D) (ci := 9) (v := .ref q6) (ty := .array .byte) (C := "CliqueSearchModel") (T := cs_T9) (N := 18) hx hb hts (fun w hw => km (cs_in9 w hw) (k_u9 w hw)) cs_ty9 cs_ty9_ok cs_nm9 hown hK hP hD hS 0 rfl rfl 17 (by decide) (hts _ (km gw_653 rfl)) (fun _ h9 => h9) rfl hin rfl (by decide +kernel) rfl rfl (Nat.le_of_ble_eq_true rfl) dk_Model_58 (fun H locs hP hD hS => ?_)
  have hP : va_P D cs_cl [(h0, .inr (9, [.int 0, .int 0, .ref q0, .ref q1, .ref q2, .ref q3, .ref q4, .ref q5, .int 0, .int 0, .int 0, .int 0, .int 0, .int 0, .int 0, .int 0, .int 0, .ref q6])), (q0, .inl (cA 0, 16, .inl (fun _ => 0))), (q1, .inl (cA 0, 16, .inl (fun _ => 0))), (q2, .inl (cA 0, 1000, .inl (fun _ => 0))), (q3, .inl (cA 0, 16, .inl (fun _ => 0))), (q4, .inl (cA 0, 16, .inl (fun _ => 0))), (q5, .inl (cA 0, 16, .inl (fun _ => 0))), (q6, .inl (cA 1, 65536, .inl (fun _ => 0)))] H := hP
  have hD : va_D A [(h0, .inr (9, [.int 0, .int 0, .ref q0, .ref q1, .ref q2, .ref q3, .ref q4, .ref q5, .int 0, .int 0, .int 0, .int 0, .int 0, .int 0, .int 0, .int 0, .int 0, .ref q6])), (q0, .inl (cA 0, 16, .inl (fun _ => 0))), (q1, .inl (cA 0, 16, .inl (fun _ => 0))), (q2, .inl (cA 0, 1000, .inl (fun _ => 0))), (q3, .inl (cA 0, 16, .inl (fun _ => 0))), (q4, .inl (cA 0, 16, .inl (fun _ => 0))), (q5, .inl (cA 0, 16, .inl (fun _ => 0))), (q6, .inl (cA 1, 65536, .inl (fun _ => 0)))] := hD
  refine lv_aload_n hx hb dk_Model_61 rfl (lv_at hl 0 rfl) ?_
  refine lv_iconst (v := 0) hx hb dk_Model_62 (by decide) ?_
  refine va_put (D := D) (ci := 9) (v := .int 0) (ty := .int) (C := "CliqueSearchModel") (T := cs_T9) (N := 18) hx hb hts (fun w hw => km (cs_in9 w hw) (k_u9 w hw)) cs_ty9 cs_ty9_ok cs_nm9 hown hK hP hD hS 0 rfl rfl 0 (by decide) (hts _ (km gw_636 rfl)) (fun _ h9 => h9) rfl (by decide +kernel) rfl rfl (Nat.le_of_ble_eq_true rfl) dk_Model_63 (fun H locs hP hD hS => ?_)
  have hP : va_P D cs_cl [(h0, .inr (9, [.int 0, .int 0, .ref q0, .ref q1, .ref q2, .ref q3, .ref q4, .ref q5, .int 0, .int 0, .int 0, .int 0, .int 0, .int 0, .int 0, .int 0, .int 0, .ref q6])), (q0, .inl (cA 0, 16, .inl (fun _ => 0))), (q1, .inl (cA 0, 16, .inl (fun _ => 0))), (q2, .inl (cA 0, 1000, .inl (fun _ => 0))), (q3, .inl (cA 0, 16, .inl (fun _ => 0))), (q4, .inl (cA 0, 16, .inl (fun _ => 0))), (q5, .inl (cA 0, 16, .inl (fun _ => 0))), (q6, .inl (cA 1, 65536, .inl (fun _ => 0)))] H := hP
  have hD : va_D A [(h0, .inr (9, [.int 0, .int 0, .ref q0, .ref q1, .ref q2, .ref q3, .ref q4, .ref q5, .int 0, .int 0, .int 0, .int 0, .int 0, .int 0, .int 0, .int 0, .int 0, .ref q6])), (q0, .inl (cA 0, 16, .inl (fun _ => 0))), (q1, .inl (cA 0, 16, .inl (fun _ => 0))), (q2, .inl (cA 0, 1000, .inl (fun _ => 0))), (q3, .inl (cA 0, 16, .inl (fun _ => 0))), (q4, .inl (cA 0, 16, .inl (fun _ => 0))), (q5, .inl (cA 0, 16, .inl (fun _ => 0))), (q6, .inl (cA 1, 65536, .inl (fun _ => 0)))] := hD
  refine W.widen (k := 7) (n := 66616) (by decide) (by decide) ?_
  exact W.vret hx hb hr (fun t ht hW => ⟨⟨(fun k => [q0, q1, q2, q3, q4, q5, q6].getD k 0), rfl, trivial, by rw [ht]; exact hP, va_K.moved hW.alike hK, hD⟩, hS.F ht⟩) hS.2.2 dk_Model_66

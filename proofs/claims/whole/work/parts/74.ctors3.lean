theorem dk_NearSets_0 : decode prog_4_method_1_code 0 = .ok (.aload_n 0, 1) := by decide +kernel
theorem dk_NearSets_1 : decode prog_4_method_1_code 1 = .ok (.invokespecial 3, 3) := by decide +kernel
theorem dk_NearSets_4 : decode prog_4_method_1_code 4 = .ok (.aload_n 0, 1) := by decide +kernel
theorem dk_NearSets_5 : decode prog_4_method_1_code 5 = .ok (.bipush 17, 2) := by decide +kernel
theorem dk_NearSets_7 : decode prog_4_method_1_code 7 = .ok (.iconst 5, 1) := by decide +kernel
theorem dk_NearSets_8 : decode prog_4_method_1_code 8 = .ok (.multianewarray 9 2, 4) := by decide +kernel
theorem dk_NearSets_12 : decode prog_4_method_1_code 12 = .ok (.putfield 11, 3) := by decide +kernel
theorem dk_NearSets_15 : decode prog_4_method_1_code 15 = .ok (.aload_n 0, 1) := by decide +kernel
theorem dk_NearSets_16 : decode prog_4_method_1_code 16 = .ok (.bipush 17, 2) := by decide +kernel
theorem dk_NearSets_18 : decode prog_4_method_1_code 18 = .ok (.newarray .int, 2) := by decide +kernel
theorem dk_NearSets_20 : decode prog_4_method_1_code 20 = .ok (.putfield 16, 3) := by decide +kernel
theorem dk_NearSets_23 : decode prog_4_method_1_code 23 = .ok (.aload_n 0, 1) := by decide +kernel
theorem dk_NearSets_24 : decode prog_4_method_1_code 24 = .ok (.aload_n 1, 1) := by decide +kernel
theorem dk_NearSets_25 : decode prog_4_method_1_code 25 = .ok (.putfield 20, 3) := by decide +kernel
theorem dk_NearSets_28 : decode prog_4_method_1_code 28 = .ok (.return_, 1) := by decide +kernel
theorem gw_95 : Cond.methodLink "CliqueSearch$NearSets" (3 : Nat) ({ cls := "java/lang/Object", name := "<init>", desc := "()V" } : MethodName) ∈ cs_G := List.mem_filter.mpr ⟨List.mem_append_right _ (List.mem_append_left _ (List.mem_of_getElem? (i := 95) rfl)), rfl⟩
theorem gw_96 : Cond.classLink "CliqueSearch$NearSets" (9 : Nat) "[[I" ∈ cs_G := List.mem_filter.mpr ⟨List.mem_append_right _ (List.mem_append_left _ (List.mem_of_getElem? (i := 96) rfl)), rfl⟩
def wk_NearSets (cA : Nat → ClassId) (h0 : Nat) (n0 : Nat) (u : Nat → Nat) : va_W := [(h0, .inr (4, [.ref n0, .ref (u 0), .ref (u 18), .int 0, .int 0, .int 0])), (u 0, .inl (cA 2, 17, .inr (.inr (.inr (.inr (fun i => if i < 17 then some (u (1 + i)) else none)))))), (u 1, .inl (cA 0, 5, .inl (fun _ => 0))), (u 2, .inl (cA 0, 5, .inl (fun _ => 0))), (u 3, .inl (cA 0, 5, .inl (fun _ => 0))), (u 4, .inl (cA 0, 5, .inl (fun _ => 0))), (u 5, .inl (cA 0, 5, .inl (fun _ => 0))), (u 6, .inl (cA 0, 5, .inl (fun _ => 0))), (u 7, .inl (cA 0, 5, .inl (fun _ => 0))), (u 8, .inl (cA 0, 5, .inl (fun _ => 0))), (u 9, .inl (cA 0, 5, .inl (fun _ => 0))), (u 10, .inl (cA 0, 5, .inl (fun _ => 0))), (u 11, .inl (cA 0, 5, .inl (fun _ => 0))), (u 12, .inl (cA 0, 5, .inl (fun _ => 0))), (u 13, .inl (cA 0, 5, .inl (fun _ => 0))), (u 14, .inl (cA 0, 5, .inl (fun _ => 0))), (u 15, .inl (cA 0, 5, .inl (fun _ => 0))), (u 16, .inl (cA 0, 5, .inl (fun _ => 0))), (u 17, .inl (cA 0, 5, .inl (fun _ => 0))), (u 18, .inl (cA 0, 17, .inl (fun _ => 0)))]
def yk_NearSets : MethodName := ⟨"CliqueSearch$NearSets", "<init>", "(LCliqueSearch$Net;)V"⟩
def ye_NearSets : va_E := .inr (4, [.null, .null, .null, .int 0, .int 0, .int 0])
set_option maxHeartbeats 4000000 in
set_option maxRecDepth 100000 in
theorem kc_NearSets (l : Launch) (D : va_G) (cA : Nat → ClassId) (h0 : Nat) (n0 : Nat) (sz : Nat) : Met l yk_NearSets (mi_ws cs_G (yk_NearSets, prog_4_method_1_code, 2, none)) ({ frames := 1, cells := 19, slots := 119, locals := 12 }) (kP D cA h0 ye_NearSets [.ref h0, .ref n0] sz) (kQ D cA (wk_NearSets cA h0 n0) (va_A [(h0, ye_NearSets)] sz)) 19 119 (va_A [(h0, ye_NearSets)] sz) := by
  refine Met.ofW (cc := prog_4_method_1_code) (maxL := 2) (ret := none) (by decide) rfl ?_
  intro p e s m args below meth c s₁ B hml hv
  obtain ⟨rfl, hsz, hP, hK, hD0, hkx⟩ := hv
  have hx := B.exec
  have hb := B.bytes
  have hr := B.returns
  have hts := atoms_spec (ws := mi_ws cs_G (yk_NearSets, prog_4_method_1_code, 2, none)) B.pre
  have hown : s.vm.findClass "CliqueSearch$NearSets" = some m.cls := findClass_of_methodNamed B.named
  have hin : meth.name = "<init>" := (name_of_methodNamed B.named B.method).1
  subst hsz
  have hD := hD0.self (sz := s.heap.size)
  generalize hAe : va_A [(h0, ye_NearSets)] s.heap.size = A at hD ⊢
  have hA : ∀ q : Nat, s.heap.size ≤ q → A q := fun q h => by rw [← hAe]; exact Or.inr h
  have hS : va_S A s.heap s.heap [] := va_S.rf
  have hP : va_P D cs_cl [(h0, .inr (4, [.null, .null, .null, .int 0, .int 0, .int 0]))] s.heap := hP
  have hD : va_D A [(h0, .inr (4, [.null, .null, .null, .int 0, .int 0, .int 0]))] := hD
  have hl := lv_entry ([.ref h0, .ref n0]) (n := 2) (Nat.le_of_ble_eq_true rfl)
  rw [lg_entry_eq]
  generalize (lg_sl ([.ref h0, .ref n0]) ++ List.replicate (2 - (lg_sl ([.ref h0, .ref n0])).length) Slot.unset).toArray = ls at hl ⊢
  have hl : lv_has ls 2 [(0, .ref h0), (1, .ref n0)] := hl
  refine lv_aload_n hx hb dk_NearSets_0 rfl (lv_at hl 0 rfl) ?_
  refine W.objInit hx hb hown (hts _ (km gw_95 rfl)) (hts _ (km gw_21 rfl)) (hts _ (km gw_22 rfl)) rfl (by rw [hml]; exact hl.1) rfl dk_NearSets_1 (Nat.le_of_ble_eq_true rfl) (Nat.le_of_ble_eq_true rfl) ?_
  refine W.eq (g2 := F0 m 4 ls []) rfl ?_
  refine lv_aload_n hx hb dk_NearSets_4 rfl (lv_at hl 0 rfl) ?_
  refine lv_bipush (v := 17) hx hb dk_NearSets_5 (by decide) ?_
  refine lv_iconst (v := 5) hx hb dk_NearSets_7 (by decide) ?_
  refine va_mna (X := [(h0, .inr (4, [.null, .null, .null, .int 0, .int 0, .int 0]))]) (L := []) (f := fun _ => .inl (cA 0, 0, .inl (fun _ => 0))) (own := "CliqueSearch$NearSets") (ty := .int) (cy := cA 0) (N' := 17) (K' := 5) (z := (5, .inl (fun _ => 0))) hx hb hown (hts _ (km gw_96 rfl)) hkx.2 (hts _ (km gw_48 rfl)) (hK.2 0 _ rfl).2 hK hP hD hS hA (by decide) (by decide) (by decide) (by decide) (by decide) (by decide) (by decide) (by decide) (by decide) (Nat.le_of_ble_eq_true rfl) (Nat.le_of_ble_eq_true rfl) (fun _ => k_inner _ _) dk_NearSets_8 (fun q0 r0 cA1 H _ _ hK1 hP hD hS => ?_)
  have e1 : cA1 = cA 2 := k_same hK1 (i := 3) (j := 2) rfl rfl (by decide)
  subst e1
  have hP : va_P D cs_cl [(h0, .inr (4, [.null, .null, .null, .int 0, .int 0, .int 0])), (q0, .inl (cA 2, 17, .inr (.inr (.inr (.inr (fun i => if i < 17 then some (r0 i) else none)))))), (r0 0, .inl (cA 0, 5, .inl (fun _ => 0))), (r0 1, .inl (cA 0, 5, .inl (fun _ => 0))), (r0 2, .inl (cA 0, 5, .inl (fun _ => 0))), (r0 3, .inl (cA 0, 5, .inl (fun _ => 0))), (r0 4, .inl (cA 0, 5, .inl (fun _ => 0))), (r0 5, .inl (cA 0, 5, .inl (fun _ => 0))), (r0 6, .inl (cA 0, 5, .inl (fun _ => 0))), (r0 7, .inl (cA 0, 5, .inl (fun _ => 0))), (r0 8, .inl (cA 0, 5, .inl (fun _ => 0))), (r0 9, .inl (cA 0, 5, .inl (fun _ => 0))), (r0 10, .inl (cA 0, 5, .inl (fun _ => 0))), (r0 11, .inl (cA 0, 5, .inl (fun _ => 0))), (r0 12, .inl (cA 0, 5, .inl (fun _ => 0))), (r0 13, .inl (cA 0, 5, .inl (fun _ => 0))), (r0 14, .inl (cA 0, 5, .inl (fun _ => 0))), (r0 15, .inl (cA 0, 5, .inl (fun _ => 0))), (r0 16, .inl (cA 0, 5, .inl (fun _ => 0)))] H := k_pl (X := [(h0, .inr (4, [.null, .null, .null, .int 0, .int 0, .int 0])), (q0, .inl (cA 2, 17, .inr (.inr (.inr (.inr (fun i => if i < 17 then some (r0 i) else none))))))]) (l := (List.range 17).map r0) hP
  have hD : va_D A [(h0, .inr (4, [.null, .null, .null, .int 0, .int 0, .int 0])), (q0, .inl (cA 2, 17, .inr (.inr (.inr (.inr (fun i => if i < 17 then some (r0 i) else none)))))), (r0 0, .inl (cA 0, 5, .inl (fun _ => 0))), (r0 1, .inl (cA 0, 5, .inl (fun _ => 0))), (r0 2, .inl (cA 0, 5, .inl (fun _ => 0))), (r0 3, .inl (cA 0, 5, .inl (fun _ => 0))), (r0 4, .inl (cA 0, 5, .inl (fun _ => 0))), (r0 5, .inl (cA 0, 5, .inl (fun _ => 0))), (r0 6, .inl (cA 0, 5, .inl (fun _ => 0))), (r0 7, .inl (cA 0, 5, .inl (fun _ => 0))), (r0 8, .inl (cA 0, 5, .inl (fun _ => 0))), (r0 9, .inl (cA 0, 5, .inl (fun _ => 0))), (r0 10, .inl (cA 0, 5, .inl (fun _ => 0))), (r0 11, .inl (cA 0, 5, .inl (fun _ => 0))), (r0 12, .inl (cA 0, 5, .inl (fun _ => 0))), (r0 13, .inl (cA 0, 5, .inl (fun _ => 0))), (r0 14, .inl (cA 0, 5, .inl (fun _ => 0))), (r0 15, .inl (cA 0, 5, .inl (fun _ => 0))), (r0 16, .inl (cA 0, 5, .inl (fun _ => 0)))] := k_plD (X := [(h0, .inr (4, [.null, .null, .null, .int 0, .int 0, .int 0])), (q0, .inl (cA 2, 17, .inr (.inr (.inr (.inr (fun i => if i < 17 then some (r0 i) else none))))))]) (l := (List.range 17).map r0) hD
  refine va_putF (D := D) (ci := 4) (v := .ref q0) (ty := .array (.array .int)) (C := "CliqueSearch$NearSets") (T := cs_T4) (N := 6) hx hb hts (fun w hw => km (cs_in4 w hw) (k_u4 w hw)) cs_ty4 cs_ty4_ok cs_nm4 hown hK hP hD hS 0 rfl rfl 1 (by decide) (hts _ (km gw_99 rfl)) (fun _ h9 => h9) rfl hin rfl (by decide +kernel) rfl rfl (Nat.le_of_ble_eq_true rfl) dk_NearSets_12 (fun H locs hP hD hS => ?_)
  have hP : va_P D cs_cl [(h0, .inr (4, [.null, .ref q0, .null, .int 0, .int 0, .int 0])), (q0, .inl (cA 2, 17, .inr (.inr (.inr (.inr (fun i => if i < 17 then some (r0 i) else none)))))), (r0 0, .inl (cA 0, 5, .inl (fun _ => 0))), (r0 1, .inl (cA 0, 5, .inl (fun _ => 0))), (r0 2, .inl (cA 0, 5, .inl (fun _ => 0))), (r0 3, .inl (cA 0, 5, .inl (fun _ => 0))), (r0 4, .inl (cA 0, 5, .inl (fun _ => 0))), (r0 5, .inl (cA 0, 5, .inl (fun _ => 0))), (r0 6, .inl (cA 0, 5, .inl (fun _ => 0))), (r0 7, .inl (cA 0, 5, .inl (fun _ => 0))), (r0 8, .inl (cA 0, 5, .inl (fun _ => 0))), (r0 9, .inl (cA 0, 5, .inl (fun _ => 0))), (r0 10, .inl (cA 0, 5, .inl (fun _ => 0))), (r0 11, .inl (cA 0, 5, .inl (fun _ => 0))), (r0 12, .inl (cA 0, 5, .inl (fun _ => 0))), (r0 13, .inl (cA 0, 5, .inl (fun _ => 0))), (r0 14, .inl (cA 0, 5, .inl (fun _ => 0))), (r0 15, .inl (cA 0, 5, .inl (fun _ => 0))), (r0 16, .inl (cA 0, 5, .inl (fun _ => 0)))] H := hP
  have hD : va_D A [(h0, .inr (4, [.null, .ref q0, .null, .int 0, .int 0, .int 0])), (q0, .inl (cA 2, 17, .inr (.inr (.inr (.inr (fun i => if i < 17 then some (r0 i) else none)))))), (r0 0, .inl (cA 0, 5, .inl (fun _ => 0))), (r0 1, .inl (cA 0, 5, .inl (fun _ => 0))), (r0 2, .inl (cA 0, 5, .inl (fun _ => 0))), (r0 3, .inl (cA 0, 5, .inl (fun _ => 0))), (r0 4, .inl (cA 0, 5, .inl (fun _ => 0))), (r0 5, .inl (cA 0, 5, .inl (fun _ => 0))), (r0 6, .inl (cA 0, 5, .inl (fun _ => 0))), (r0 7, .inl (cA 0, 5, .inl (fun _ => 0))), (r0 8, .inl (cA 0, 5, .inl (fun _ => 0))), (r0 9, .inl (cA 0, 5, .inl (fun _ => 0))), (r0 10, .inl (cA 0, 5, .inl (fun _ => 0))), (r0 11, .inl (cA 0, 5, .inl (fun _ => 0))), (r0 12, .inl (cA 0, 5, .inl (fun _ => 0))), (r0 13, .inl (cA 0, 5, .inl (fun _ => 0))), (r0 14, .inl (cA 0, 5, .inl (fun _ => 0))), (r0 15, .inl (cA 0, 5, .inl (fun _ => 0))), (r0 16, .inl (cA 0, 5, .inl (fun _ => 0)))] := hD
  refine lv_aload_n hx hb dk_NearSets_15 rfl (lv_at hl 0 rfl) ?_
  refine lv_bipush (v := 17) hx hb dk_NearSets_16 (by decide) ?_
  refine va_newa (atype := .int) (ty := .int) (N' := 17) (a0 := (17, .inl (fun _ => 0))) hx hb (hts _ (km gw_48 rfl)) rfl hK hP hD hS hA (fun _ => rfl) (by decide) (by decide) (by decide) (Nat.le_of_ble_eq_true rfl) (Nat.le_of_ble_eq_true rfl) dk_NearSets_18 (fun q1 cA1 H hK1 hP hD hS => ?_)
  have e1 : cA1 = cA 0 := k_same hK1 (i := 3) (j := 0) rfl rfl (by decide)
  subst e1
  have hP : va_P D cs_cl [(h0, .inr (4, [.null, .ref q0, .null, .int 0, .int 0, .int 0])), (q0, .inl (cA 2, 17, .inr (.inr (.inr (.inr (fun i => if i < 17 then some (r0 i) else none)))))), (r0 0, .inl (cA 0, 5, .inl (fun _ => 0))), (r0 1, .inl (cA 0, 5, .inl (fun _ => 0))), (r0 2, .inl (cA 0, 5, .inl (fun _ => 0))), (r0 3, .inl (cA 0, 5, .inl (fun _ => 0))), (r0 4, .inl (cA 0, 5, .inl (fun _ => 0))), (r0 5, .inl (cA 0, 5, .inl (fun _ => 0))), (r0 6, .inl (cA 0, 5, .inl (fun _ => 0))), (r0 7, .inl (cA 0, 5, .inl (fun _ => 0))), (r0 8, .inl (cA 0, 5, .inl (fun _ => 0))), (r0 9, .inl (cA 0, 5, .inl (fun _ => 0))), (r0 10, .inl (cA 0, 5, .inl (fun _ => 0))), (r0 11, .inl (cA 0, 5, .inl (fun _ => 0))), (r0 12, .inl (cA 0, 5, .inl (fun _ => 0))), (r0 13, .inl (cA 0, 5, .inl (fun _ => 0))), (r0 14, .inl (cA 0, 5, .inl (fun _ => 0))), (r0 15, .inl (cA 0, 5, .inl (fun _ => 0))), (r0 16, .inl (cA 0, 5, .inl (fun _ => 0))), (q1, .inl (cA 0, 17, .inl (fun _ => 0)))] H := hP
  have hD : va_D A [(h0, .inr (4, [.null, .ref q0, .null, .int 0, .int 0, .int 0])), (q0, .inl (cA 2, 17, .inr (.inr (.inr (.inr (fun i => if i < 17 then some (r0 i) else none)))))), (r0 0, .inl (cA 0, 5, .inl (fun _ => 0))), (r0 1, .inl (cA 0, 5, .inl (fun _ => 0))), (r0 2, .inl (cA 0, 5, .inl (fun _ => 0))), (r0 3, .inl (cA 0, 5, .inl (fun _ => 0))), (r0 4, .inl (cA 0, 5, .inl (fun _ => 0))), (r0 5, .inl (cA 0, 5, .inl (fun _ => 0))), (r0 6, .inl (cA 0, 5, .inl (fun _ => 0))), (r0 7, .inl (cA 0, 5, .inl (fun _ => 0))), (r0 8, .inl (cA 0, 5, .inl (fun _ => 0))), (r0 9, .inl (cA 0, 5, .inl (fun _ => 0))), (r0 10, .inl (cA 0, 5, .inl (fun _ => 0))), (r0 11, .inl (cA 0, 5, .inl (fun _ => 0))), (r0 12, .inl (cA 0, 5, .inl (fun _ => 0))), (r0 13, .inl (cA 0, 5, .inl (fun _ => 0))), (r0 14, .inl (cA 0, 5, .inl (fun _ => 0))), (r0 15, .inl (cA 0, 5, .inl (fun _ => 0))), (r0 16, .inl (cA 0, 5, .inl (fun _ => 0))), (q1, .inl (cA 0, 17, .inl (fun _ => 0)))] := hD
  refine va_putF (D := D) (ci := 4) (v := .ref q1) (ty := .array .int) (C := "CliqueSearch$NearSets") (T := cs_T4) (N := 6) hx hb hts (fun w hw => km (cs_in4 w hw) (k_u4 w hw)) cs_ty4 cs_ty4_ok cs_nm4 hown hK hP hD hS 0 rfl rfl 2 (by decide) (hts _ (km gw_100 rfl)) (fun _ h9 => h9) rfl hin rfl (by decide +kernel) rfl rfl (Nat.le_of_ble_eq_true rfl) dk_NearSets_20 (fun H locs hP hD hS => ?_)
  have hP : va_P D cs_cl [(h0, .inr (4, [.null, .ref q0, .ref q1, .int 0, .int 0, .int 0])), (q0, .inl (cA 2, 17, .inr (.inr (.inr (.inr (fun i => if i < 17 then some (r0 i) else none)))))), (r0 0, .inl (cA 0, 5, .inl (fun _ => 0))), (r0 1, .inl (cA 0, 5, .inl (fun _ => 0))), (r0 2, .inl (cA 0, 5, .inl (fun _ => 0))), (r0 3, .inl (cA 0, 5, .inl (fun _ => 0))), (r0 4, .inl (cA 0, 5, .inl (fun _ => 0))), (r0 5, .inl (cA 0, 5, .inl (fun _ => 0))), (r0 6, .inl (cA 0, 5, .inl (fun _ => 0))), (r0 7, .inl (cA 0, 5, .inl (fun _ => 0))), (r0 8, .inl (cA 0, 5, .inl (fun _ => 0))), (r0 9, .inl (cA 0, 5, .inl (fun _ => 0))), (r0 10, .inl (cA 0, 5, .inl (fun _ => 0))), (r0 11, .inl (cA 0, 5, .inl (fun _ => 0))), (r0 12, .inl (cA 0, 5, .inl (fun _ => 0))), (r0 13, .inl (cA 0, 5, .inl (fun _ => 0))), (r0 14, .inl (cA 0, 5, .inl (fun _ => 0))), (r0 15, .inl (cA 0, 5, .inl (fun _ => 0))), (r0 16, .inl (cA 0, 5, .inl (fun _ => 0))), (q1, .inl (cA 0, 17, .inl (fun _ => 0)))] H := hP
  have hD : va_D A [(h0, .inr (4, [.null, .ref q0, .ref q1, .int 0, .int 0, .int 0])), (q0, .inl (cA 2, 17, .inr (.inr (.inr (.inr (fun i => if i < 17 then some (r0 i) else none)))))), (r0 0, .inl (cA 0, 5, .inl (fun _ => 0))), (r0 1, .inl (cA 0, 5, .inl (fun _ => 0))), (r0 2, .inl (cA 0, 5, .inl (fun _ => 0))), (r0 3, .inl (cA 0, 5, .inl (fun _ => 0))), (r0 4, .inl (cA 0, 5, .inl (fun _ => 0))), (r0 5, .inl (cA 0, 5, .inl (fun _ => 0))), (r0 6, .inl (cA 0, 5, .inl (fun _ => 0))), (r0 7, .inl (cA 0, 5, .inl (fun _ => 0))), (r0 8, .inl (cA 0, 5, .inl (fun _ => 0))), (r0 9, .inl (cA 0, 5, .inl (fun _ => 0))), (r0 10, .inl (cA 0, 5, .inl (fun _ => 0))), (r0 11, .inl (cA 0, 5, .inl (fun _ => 0))), (r0 12, .inl (cA 0, 5, .inl (fun _ => 0))), (r0 13, .inl (cA 0, 5, .inl (fun _ => 0))), (r0 14, .inl (cA 0, 5, .inl (fun _ => 0))), (r0 15, .inl (cA 0, 5, .inl (fun _ => 0))), (r0 16, .inl (cA 0, 5, .inl (fun _ => 0))), (q1, .inl (cA 0, 17, .inl (fun _ => 0)))] := hD
  refine lv_aload_n hx hb dk_NearSets_23 rfl (lv_at hl 0 rfl) ?_
  refine lv_aload_n hx hb dk_NearSets_24 rfl (lv_at hl 1 rfl) ?_
  refine va_putF (D := D) (ci := 4) (v := .ref n0) (ty := .object "CliqueSearch$Net") (C := "CliqueSearch$NearSets") (T := cs_T4) (N := 6) hx hb hts (fun w hw => km (cs_in4 w hw) (k_u4 w hw)) cs_ty4 cs_ty4_ok cs_nm4 hown hK hP hD hS 0 rfl rfl 0 (by decide) (hts _ (km gw_98 rfl)) (fun _ h9 => h9) rfl hin rfl (by decide +kernel) rfl rfl (Nat.le_of_ble_eq_true rfl) dk_NearSets_25 (fun H locs hP hD hS => ?_)
  have hP : va_P D cs_cl [(h0, .inr (4, [.ref n0, .ref q0, .ref q1, .int 0, .int 0, .int 0])), (q0, .inl (cA 2, 17, .inr (.inr (.inr (.inr (fun i => if i < 17 then some (r0 i) else none)))))), (r0 0, .inl (cA 0, 5, .inl (fun _ => 0))), (r0 1, .inl (cA 0, 5, .inl (fun _ => 0))), (r0 2, .inl (cA 0, 5, .inl (fun _ => 0))), (r0 3, .inl (cA 0, 5, .inl (fun _ => 0))), (r0 4, .inl (cA 0, 5, .inl (fun _ => 0))), (r0 5, .inl (cA 0, 5, .inl (fun _ => 0))), (r0 6, .inl (cA 0, 5, .inl (fun _ => 0))), (r0 7, .inl (cA 0, 5, .inl (fun _ => 0))), (r0 8, .inl (cA 0, 5, .inl (fun _ => 0))), (r0 9, .inl (cA 0, 5, .inl (fun _ => 0))), (r0 10, .inl (cA 0, 5, .inl (fun _ => 0))), (r0 11, .inl (cA 0, 5, .inl (fun _ => 0))), (r0 12, .inl (cA 0, 5, .inl (fun _ => 0))), (r0 13, .inl (cA 0, 5, .inl (fun _ => 0))), (r0 14, .inl (cA 0, 5, .inl (fun _ => 0))), (r0 15, .inl (cA 0, 5, .inl (fun _ => 0))), (r0 16, .inl (cA 0, 5, .inl (fun _ => 0))), (q1, .inl (cA 0, 17, .inl (fun _ => 0)))] H := hP
  have hD : va_D A [(h0, .inr (4, [.ref n0, .ref q0, .ref q1, .int 0, .int 0, .int 0])), (q0, .inl (cA 2, 17, .inr (.inr (.inr (.inr (fun i => if i < 17 then some (r0 i) else none)))))), (r0 0, .inl (cA 0, 5, .inl (fun _ => 0))), (r0 1, .inl (cA 0, 5, .inl (fun _ => 0))), (r0 2, .inl (cA 0, 5, .inl (fun _ => 0))), (r0 3, .inl (cA 0, 5, .inl (fun _ => 0))), (r0 4, .inl (cA 0, 5, .inl (fun _ => 0))), (r0 5, .inl (cA 0, 5, .inl (fun _ => 0))), (r0 6, .inl (cA 0, 5, .inl (fun _ => 0))), (r0 7, .inl (cA 0, 5, .inl (fun _ => 0))), (r0 8, .inl (cA 0, 5, .inl (fun _ => 0))), (r0 9, .inl (cA 0, 5, .inl (fun _ => 0))), (r0 10, .inl (cA 0, 5, .inl (fun _ => 0))), (r0 11, .inl (cA 0, 5, .inl (fun _ => 0))), (r0 12, .inl (cA 0, 5, .inl (fun _ => 0))), (r0 13, .inl (cA 0, 5, .inl (fun _ => 0))), (r0 14, .inl (cA 0, 5, .inl (fun _ => 0))), (r0 15, .inl (cA 0, 5, .inl (fun _ => 0))), (r0 16, .inl (cA 0, 5, .inl (fun _ => 0))), (q1, .inl (cA 0, 17, .inl (fun _ => 0)))] := hD
  refine W.widen (k := 19) (n := 119) (by decide) (by decide) ?_
  have hu : ∀ i, i < 17 → ([q0, r0 0, r0 1, r0 2, r0 3, r0 4, r0 5, r0 6, r0 7, r0 8, r0 9, r0 10, r0 11, r0 12, r0 13, r0 14, r0 15, r0 16, q1] : List Nat).getD (1 + i) 0 = r0 i := fun i hi => by
    match i, hi with
    | 0, _ => rfl
    | 1, _ => rfl
    | 2, _ => rfl
    | 3, _ => rfl
    | 4, _ => rfl
    | 5, _ => rfl
    | 6, _ => rfl
    | 7, _ => rfl
    | 8, _ => rfl
    | 9, _ => rfl
    | 10, _ => rfl
    | 11, _ => rfl
    | 12, _ => rfl
    | 13, _ => rfl
    | 14, _ => rfl
    | 15, _ => rfl
    | 16, _ => rfl
    | n + 17, hi => omega
  have hf : (fun i => if i < 17 then some (r0 i) else none) = (fun i => if i < 17 then some (([q0, r0 0, r0 1, r0 2, r0 3, r0 4, r0 5, r0 6, r0 7, r0 8, r0 9, r0 10, r0 11, r0 12, r0 13, r0 14, r0 15, r0 16, q1] : List Nat).getD (1 + i) 0) else none) := funext fun i => by
    by_cases h : i < 17
    · rw [if_pos h, if_pos h, hu i h]
    · rw [if_neg h, if_neg h]
  rw [hf] at hP hD
  exact W.vret hx hb hr (fun t ht hW => ⟨⟨(fun k => [q0, r0 0, r0 1, r0 2, r0 3, r0 4, r0 5, r0 6, r0 7, r0 8, r0 9, r0 10, r0 11, r0 12, r0 13, r0 14, r0 15, r0 16, q1].getD k 0), rfl, trivial, by rw [ht]; exact hP, va_K.moved hW.alike hK, hD⟩, hS.F ht⟩) hS.2.2 dk_NearSets_28
theorem dk_Search_0 : decode prog_7_method_1_code 0 = .ok (.aload_n 0, 1) := by decide +kernel
theorem dk_Search_1 : decode prog_7_method_1_code 1 = .ok (.invokespecial 3, 3) := by decide +kernel
theorem dk_Search_4 : decode prog_7_method_1_code 4 = .ok (.aload_n 0, 1) := by decide +kernel
theorem dk_Search_5 : decode prog_7_method_1_code 5 = .ok (.bipush 17, 2) := by decide +kernel
theorem dk_Search_7 : decode prog_7_method_1_code 7 = .ok (.bipush 17, 2) := by decide +kernel
theorem dk_Search_9 : decode prog_7_method_1_code 9 = .ok (.multianewarray 9 2, 4) := by decide +kernel
theorem dk_Search_13 : decode prog_7_method_1_code 13 = .ok (.putfield 11, 3) := by decide +kernel
theorem dk_Search_16 : decode prog_7_method_1_code 16 = .ok (.aload_n 0, 1) := by decide +kernel
theorem dk_Search_17 : decode prog_7_method_1_code 17 = .ok (.aload_n 1, 1) := by decide +kernel
theorem dk_Search_18 : decode prog_7_method_1_code 18 = .ok (.putfield 16, 3) := by decide +kernel
theorem dk_Search_21 : decode prog_7_method_1_code 21 = .ok (.return_, 1) := by decide +kernel
theorem gw_141 : Cond.methodLink "CliqueSearch$Search" (3 : Nat) ({ cls := "java/lang/Object", name := "<init>", desc := "()V" } : MethodName) ∈ cs_G := List.mem_filter.mpr ⟨List.mem_append_right _ (List.mem_append_left _ (List.mem_of_getElem? (i := 141) rfl)), rfl⟩
theorem gw_142 : Cond.classLink "CliqueSearch$Search" (9 : Nat) "[[I" ∈ cs_G := List.mem_filter.mpr ⟨List.mem_append_right _ (List.mem_append_left _ (List.mem_of_getElem? (i := 142) rfl)), rfl⟩
def wk_Search (cA : Nat → ClassId) (h0 : Nat) (n0 : Nat) (u : Nat → Nat) : va_W := [(h0, .inr (6, [.ref n0, .ref (u 0), .int 0, .int 0, .int 0, .int 0, .int 0, .int 0, .int 0])), (u 0, .inl (cA 2, 17, .inr (.inr (.inr (.inr (fun i => if i < 17 then some (u (1 + i)) else none)))))), (u 1, .inl (cA 0, 17, .inl (fun _ => 0))), (u 2, .inl (cA 0, 17, .inl (fun _ => 0))), (u 3, .inl (cA 0, 17, .inl (fun _ => 0))), (u 4, .inl (cA 0, 17, .inl (fun _ => 0))), (u 5, .inl (cA 0, 17, .inl (fun _ => 0))), (u 6, .inl (cA 0, 17, .inl (fun _ => 0))), (u 7, .inl (cA 0, 17, .inl (fun _ => 0))), (u 8, .inl (cA 0, 17, .inl (fun _ => 0))), (u 9, .inl (cA 0, 17, .inl (fun _ => 0))), (u 10, .inl (cA 0, 17, .inl (fun _ => 0))), (u 11, .inl (cA 0, 17, .inl (fun _ => 0))), (u 12, .inl (cA 0, 17, .inl (fun _ => 0))), (u 13, .inl (cA 0, 17, .inl (fun _ => 0))), (u 14, .inl (cA 0, 17, .inl (fun _ => 0))), (u 15, .inl (cA 0, 17, .inl (fun _ => 0))), (u 16, .inl (cA 0, 17, .inl (fun _ => 0))), (u 17, .inl (cA 0, 17, .inl (fun _ => 0)))]
def yk_Search : MethodName := ⟨"CliqueSearch$Search", "<init>", "(LCliqueSearch$Net;)V"⟩
def ye_Search : va_E := .inr (6, [.null, .null, .int 0, .int 0, .int 0, .int 0, .int 0, .int 0, .int 0])
set_option maxHeartbeats 4000000 in
set_option maxRecDepth 100000 in
theorem kc_Search (l : Launch) (D : va_G) (cA : Nat → ClassId) (h0 : Nat) (n0 : Nat) (sz : Nat) : Met l yk_Search (mi_ws cs_G (yk_Search, prog_7_method_1_code, 2, none)) ({ frames := 1, cells := 18, slots := 306, locals := 12 }) (kP D cA h0 ye_Search [.ref h0, .ref n0] sz) (kQ D cA (wk_Search cA h0 n0) (va_A [(h0, ye_Search)] sz)) 18 306 (va_A [(h0, ye_Search)] sz) := by
  refine Met.ofW (cc := prog_7_method_1_code) (maxL := 2) (ret := none) (by decide) rfl ?_
  intro p e s m args below meth c s₁ B hml hv
  obtain ⟨rfl, hsz, hP, hK, hD0, hkx⟩ := hv
  have hx := B.exec
  have hb := B.bytes
  have hr := B.returns
  have hts := atoms_spec (ws := mi_ws cs_G (yk_Search, prog_7_method_1_code, 2, none)) B.pre
  have hown : s.vm.findClass "CliqueSearch$Search" = some m.cls := findClass_of_methodNamed B.named
  have hin : meth.name = "<init>" := (name_of_methodNamed B.named B.method).1
  subst hsz
  have hD := hD0.self (sz := s.heap.size)
  generalize hAe : va_A [(h0, ye_Search)] s.heap.size = A at hD ⊢
  have hA : ∀ q : Nat, s.heap.size ≤ q → A q := fun q h => by rw [← hAe]; exact Or.inr h
  have hS : va_S A s.heap s.heap [] := va_S.rf
  have hP : va_P D cs_cl [(h0, .inr (6, [.null, .null, .int 0, .int 0, .int 0, .int 0, .int 0, .int 0, .int 0]))] s.heap := hP
  have hD : va_D A [(h0, .inr (6, [.null, .null, .int 0, .int 0, .int 0, .int 0, .int 0, .int 0, .int 0]))] := hD
  have hl := lv_entry ([.ref h0, .ref n0]) (n := 2) (Nat.le_of_ble_eq_true rfl)
  rw [lg_entry_eq]
  generalize (lg_sl ([.ref h0, .ref n0]) ++ List.replicate (2 - (lg_sl ([.ref h0, .ref n0])).length) Slot.unset).toArray = ls at hl ⊢
  have hl : lv_has ls 2 [(0, .ref h0), (1, .ref n0)] := hl
  refine lv_aload_n hx hb dk_Search_0 rfl (lv_at hl 0 rfl) ?_
  refine W.objInit hx hb hown (hts _ (km gw_141 rfl)) (hts _ (km gw_21 rfl)) (hts _ (km gw_22 rfl)) rfl (by rw [hml]; exact hl.1) rfl dk_Search_1 (Nat.le_of_ble_eq_true rfl) (Nat.le_of_ble_eq_true rfl) ?_
  refine W.eq (g2 := F0 m 4 ls []) rfl ?_
  refine lv_aload_n hx hb dk_Search_4 rfl (lv_at hl 0 rfl) ?_
  refine lv_bipush (v := 17) hx hb dk_Search_5 (by decide) ?_
  refine lv_bipush (v := 17) hx hb dk_Search_7 (by decide) ?_
  refine va_mna (X := [(h0, .inr (6, [.null, .null, .int 0, .int 0, .int 0, .int 0, .int 0, .int 0, .int 0]))]) (L := []) (f := fun _ => .inl (cA 0, 0, .inl (fun _ => 0))) (own := "CliqueSearch$Search") (ty := .int) (cy := cA 0) (N' := 17) (K' := 17) (z := (17, .inl (fun _ => 0))) hx hb hown (hts _ (km gw_142 rfl)) hkx.2 (hts _ (km gw_48 rfl)) (hK.2 0 _ rfl).2 hK hP hD hS hA (by decide) (by decide) (by decide) (by decide) (by decide) (by decide) (by decide) (by decide) (by decide) (Nat.le_of_ble_eq_true rfl) (Nat.le_of_ble_eq_true rfl) (fun _ => k_inner _ _) dk_Search_9 (fun q0 r0 cA1 H _ _ hK1 hP hD hS => ?_)
  have e1 : cA1 = cA 2 := k_same hK1 (i := 3) (j := 2) rfl rfl (by decide)
  subst e1
  have hP : va_P D cs_cl [(h0, .inr (6, [.null, .null, .int 0, .int 0, .int 0, .int 0, .int 0, .int 0, .int 0])), (q0, .inl (cA 2, 17, .inr (.inr (.inr (.inr (fun i => if i < 17 then some (r0 i) else none)))))), (r0 0, .inl (cA 0, 17, .inl (fun _ => 0))), (r0 1, .inl (cA 0, 17, .inl (fun _ => 0))), (r0 2, .inl (cA 0, 17, .inl (fun _ => 0))), (r0 3, .inl (cA 0, 17, .inl (fun _ => 0))), (r0 4, .inl (cA 0, 17, .inl (fun _ => 0))), (r0 5, .inl (cA 0, 17, .inl (fun _ => 0))), (r0 6, .inl (cA 0, 17, .inl (fun _ => 0))), (r0 7, .inl (cA 0, 17, .inl (fun _ => 0))), (r0 8, .inl (cA 0, 17, .inl (fun _ => 0))), (r0 9, .inl (cA 0, 17, .inl (fun _ => 0))), (r0 10, .inl (cA 0, 17, .inl (fun _ => 0))), (r0 11, .inl (cA 0, 17, .inl (fun _ => 0))), (r0 12, .inl (cA 0, 17, .inl (fun _ => 0))), (r0 13, .inl (cA 0, 17, .inl (fun _ => 0))), (r0 14, .inl (cA 0, 17, .inl (fun _ => 0))), (r0 15, .inl (cA 0, 17, .inl (fun _ => 0))), (r0 16, .inl (cA 0, 17, .inl (fun _ => 0)))] H := k_pl (X := [(h0, .inr (6, [.null, .null, .int 0, .int 0, .int 0, .int 0, .int 0, .int 0, .int 0])), (q0, .inl (cA 2, 17, .inr (.inr (.inr (.inr (fun i => if i < 17 then some (r0 i) else none))))))]) (l := (List.range 17).map r0) hP
  have hD : va_D A [(h0, .inr (6, [.null, .null, .int 0, .int 0, .int 0, .int 0, .int 0, .int 0, .int 0])), (q0, .inl (cA 2, 17, .inr (.inr (.inr (.inr (fun i => if i < 17 then some (r0 i) else none)))))), (r0 0, .inl (cA 0, 17, .inl (fun _ => 0))), (r0 1, .inl (cA 0, 17, .inl (fun _ => 0))), (r0 2, .inl (cA 0, 17, .inl (fun _ => 0))), (r0 3, .inl (cA 0, 17, .inl (fun _ => 0))), (r0 4, .inl (cA 0, 17, .inl (fun _ => 0))), (r0 5, .inl (cA 0, 17, .inl (fun _ => 0))), (r0 6, .inl (cA 0, 17, .inl (fun _ => 0))), (r0 7, .inl (cA 0, 17, .inl (fun _ => 0))), (r0 8, .inl (cA 0, 17, .inl (fun _ => 0))), (r0 9, .inl (cA 0, 17, .inl (fun _ => 0))), (r0 10, .inl (cA 0, 17, .inl (fun _ => 0))), (r0 11, .inl (cA 0, 17, .inl (fun _ => 0))), (r0 12, .inl (cA 0, 17, .inl (fun _ => 0))), (r0 13, .inl (cA 0, 17, .inl (fun _ => 0))), (r0 14, .inl (cA 0, 17, .inl (fun _ => 0))), (r0 15, .inl (cA 0, 17, .inl (fun _ => 0))), (r0 16, .inl (cA 0, 17, .inl (fun _ => 0)))] := k_plD (X := [(h0, .inr (6, [.null, .null, .int 0, .int 0, .int 0, .int 0, .int 0, .int 0, .int 0])), (q0, .inl (cA 2, 17, .inr (.inr (.inr (.inr (fun i => if i < 17 then some (r0 i) else none))))))]) (l := (List.range 17).map r0) hD
  refine va_putF (D := D) (ci := 6) (v := .ref q0) (ty := .array (.array .int)) (C := "CliqueSearch$Search") (T := cs_T6) (N := 9) hx hb hts (fun w hw => km (cs_in6 w hw) (k_u6 w hw)) cs_ty6 cs_ty6_ok cs_nm6 hown hK hP hD hS 0 rfl rfl 1 (by decide) (hts _ (km gw_144 rfl)) (fun _ h9 => h9) rfl hin rfl (by decide +kernel) rfl rfl (Nat.le_of_ble_eq_true rfl) dk_Search_13 (fun H locs hP hD hS => ?_)
  have hP : va_P D cs_cl [(h0, .inr (6, [.null, .ref q0, .int 0, .int 0, .int 0, .int 0, .int 0, .int 0, .int 0])), (q0, .inl (cA 2, 17, .inr (.inr (.inr (.inr (fun i => if i < 17 then some (r0 i) else none)))))), (r0 0, .inl (cA 0, 17, .inl (fun _ => 0))), (r0 1, .inl (cA 0, 17, .inl (fun _ => 0))), (r0 2, .inl (cA 0, 17, .inl (fun _ => 0))), (r0 3, .inl (cA 0, 17, .inl (fun _ => 0))), (r0 4, .inl (cA 0, 17, .inl (fun _ => 0))), (r0 5, .inl (cA 0, 17, .inl (fun _ => 0))), (r0 6, .inl (cA 0, 17, .inl (fun _ => 0))), (r0 7, .inl (cA 0, 17, .inl (fun _ => 0))), (r0 8, .inl (cA 0, 17, .inl (fun _ => 0))), (r0 9, .inl (cA 0, 17, .inl (fun _ => 0))), (r0 10, .inl (cA 0, 17, .inl (fun _ => 0))), (r0 11, .inl (cA 0, 17, .inl (fun _ => 0))), (r0 12, .inl (cA 0, 17, .inl (fun _ => 0))), (r0 13, .inl (cA 0, 17, .inl (fun _ => 0))), (r0 14, .inl (cA 0, 17, .inl (fun _ => 0))), (r0 15, .inl (cA 0, 17, .inl (fun _ => 0))), (r0 16, .inl (cA 0, 17, .inl (fun _ => 0)))] H := hP
  have hD : va_D A [(h0, .inr (6, [.null, .ref q0, .int 0, .int 0, .int 0, .int 0, .int 0, .int 0, .int 0])), (q0, .inl (cA 2, 17, .inr (.inr (.inr (.inr (fun i => if i < 17 then some (r0 i) else none)))))), (r0 0, .inl (cA 0, 17, .inl (fun _ => 0))), (r0 1, .inl (cA 0, 17, .inl (fun _ => 0))), (r0 2, .inl (cA 0, 17, .inl (fun _ => 0))), (r0 3, .inl (cA 0, 17, .inl (fun _ => 0))), (r0 4, .inl (cA 0, 17, .inl (fun _ => 0))), (r0 5, .inl (cA 0, 17, .inl (fun _ => 0))), (r0 6, .inl (cA 0, 17, .inl (fun _ => 0))), (r0 7, .inl (cA 0, 17, .inl (fun _ => 0))), (r0 8, .inl (cA 0, 17, .inl (fun _ => 0))), (r0 9, .inl (cA 0, 17, .inl (fun _ => 0))), (r0 10, .inl (cA 0, 17, .inl (fun _ => 0))), (r0 11, .inl (cA 0, 17, .inl (fun _ => 0))), (r0 12, .inl (cA 0, 17, .inl (fun _ => 0))), (r0 13, .inl (cA 0, 17, .inl (fun _ => 0))), (r0 14, .inl (cA 0, 17, .inl (fun _ => 0))), (r0 15, .inl (cA 0, 17, .inl (fun _ => 0))), (r0 16, .inl (cA 0, 17, .inl (fun _ => 0)))] := hD
  refine lv_aload_n hx hb dk_Search_16 rfl (lv_at hl 0 rfl) ?_
  refine lv_aload_n hx hb dk_Search_17 rfl (lv_at hl 1 rfl) ?_
  refine va_putF (D := D) (ci := 6) (v := .ref n0) (ty := .object "CliqueSearch$Net") (C := "CliqueSearch$Search") (T := cs_T6) (N := 9) hx hb hts (fun w hw => km (cs_in6 w hw) (k_u6 w hw)) cs_ty6 cs_ty6_ok cs_nm6 hown hK hP hD hS 0 rfl rfl 0 (by decide) (hts _ (km gw_143 rfl)) (fun _ h9 => h9) rfl hin rfl (by decide +kernel) rfl rfl (Nat.le_of_ble_eq_true rfl) dk_Search_18 (fun H locs hP hD hS => ?_)
  have hP : va_P D cs_cl [(h0, .inr (6, [.ref n0, .ref q0, .int 0, .int 0, .int 0, .int 0, .int 0, .int 0, .int 0])), (q0, .inl (cA 2, 17, .inr (.inr (.inr (.inr (fun i => if i < 17 then some (r0 i) else none)))))), (r0 0, .inl (cA 0, 17, .inl (fun _ => 0))), (r0 1, .inl (cA 0, 17, .inl (fun _ => 0))), (r0 2, .inl (cA 0, 17, .inl (fun _ => 0))), (r0 3, .inl (cA 0, 17, .inl (fun _ => 0))), (r0 4, .inl (cA 0, 17, .inl (fun _ => 0))), (r0 5, .inl (cA 0, 17, .inl (fun _ => 0))), (r0 6, .inl (cA 0, 17, .inl (fun _ => 0))), (r0 7, .inl (cA 0, 17, .inl (fun _ => 0))), (r0 8, .inl (cA 0, 17, .inl (fun _ => 0))), (r0 9, .inl (cA 0, 17, .inl (fun _ => 0))), (r0 10, .inl (cA 0, 17, .inl (fun _ => 0))), (r0 11, .inl (cA 0, 17, .inl (fun _ => 0))), (r0 12, .inl (cA 0, 17, .inl (fun _ => 0))), (r0 13, .inl (cA 0, 17, .inl (fun _ => 0))), (r0 14, .inl (cA 0, 17, .inl (fun _ => 0))), (r0 15, .inl (cA 0, 17, .inl (fun _ => 0))), (r0 16, .inl (cA 0, 17, .inl (fun _ => 0)))] H := hP
  have hD : va_D A [(h0, .inr (6, [.ref n0, .ref q0, .int 0, .int 0, .int 0, .int 0, .int 0, .int 0, .int 0])), (q0, .inl (cA 2, 17, .inr (.inr (.inr (.inr (fun i => if i < 17 then some (r0 i) else none)))))), (r0 0, .inl (cA 0, 17, .inl (fun _ => 0))), (r0 1, .inl (cA 0, 17, .inl (fun _ => 0))), (r0 2, .inl (cA 0, 17, .inl (fun _ => 0))), (r0 3, .inl (cA 0, 17, .inl (fun _ => 0))), (r0 4, .inl (cA 0, 17, .inl (fun _ => 0))), (r0 5, .inl (cA 0, 17, .inl (fun _ => 0))), (r0 6, .inl (cA 0, 17, .inl (fun _ => 0))), (r0 7, .inl (cA 0, 17, .inl (fun _ => 0))), (r0 8, .inl (cA 0, 17, .inl (fun _ => 0))), (r0 9, .inl (cA 0, 17, .inl (fun _ => 0))), (r0 10, .inl (cA 0, 17, .inl (fun _ => 0))), (r0 11, .inl (cA 0, 17, .inl (fun _ => 0))), (r0 12, .inl (cA 0, 17, .inl (fun _ => 0))), (r0 13, .inl (cA 0, 17, .inl (fun _ => 0))), (r0 14, .inl (cA 0, 17, .inl (fun _ => 0))), (r0 15, .inl (cA 0, 17, .inl (fun _ => 0))), (r0 16, .inl (cA 0, 17, .inl (fun _ => 0)))] := hD
  refine W.widen (k := 18) (n := 306) (by decide) (by decide) ?_
  have hu : ∀ i, i < 17 → ([q0, r0 0, r0 1, r0 2, r0 3, r0 4, r0 5, r0 6, r0 7, r0 8, r0 9, r0 10, r0 11, r0 12, r0 13, r0 14, r0 15, r0 16] : List Nat).getD (1 + i) 0 = r0 i := fun i hi => by
    match i, hi with
    | 0, _ => rfl
    | 1, _ => rfl
    | 2, _ => rfl
    | 3, _ => rfl
    | 4, _ => rfl
    | 5, _ => rfl
    | 6, _ => rfl
    | 7, _ => rfl
    | 8, _ => rfl
    | 9, _ => rfl
    | 10, _ => rfl
    | 11, _ => rfl
    | 12, _ => rfl
    | 13, _ => rfl
    | 14, _ => rfl
    | 15, _ => rfl
    | 16, _ => rfl
    | n + 17, hi => omega
  have hf : (fun i => if i < 17 then some (r0 i) else none) = (fun i => if i < 17 then some (([q0, r0 0, r0 1, r0 2, r0 3, r0 4, r0 5, r0 6, r0 7, r0 8, r0 9, r0 10, r0 11, r0 12, r0 13, r0 14, r0 15, r0 16] : List Nat).getD (1 + i) 0) else none) := funext fun i => by
    by_cases h : i < 17
    · rw [if_pos h, if_pos h, hu i h]
    · rw [if_neg h, if_neg h]
  rw [hf] at hP hD
  exact W.vret hx hb hr (fun t ht hW => ⟨⟨(fun k => [q0, r0 0, r0 1, r0 2, r0 3, r0 4, r0 5, r0 6, r0 7, r0 8, r0 9, r0 10, r0 11, r0 12, r0 13, r0 14, r0 15, r0 16].getD k 0), rfl, trivial, by rw [ht]; exact hP, va_K.moved hW.alike hK, hD⟩, hS.F ht⟩) hS.2.2 dk_Search_21

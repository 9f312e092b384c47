theorem dd_55_0 : decode prog_1_method_17_code 0 = .ok (.aload_n 0, 1) := by decide +kernel
theorem dd_55_1 : decode prog_1_method_17_code 1 = .ok (.getfield 10, 3) := by decide +kernel
theorem dd_55_4 : decode prog_1_method_17_code 4 = .ok (.iload_n 1, 1) := by decide +kernel
theorem dd_55_5 : decode prog_1_method_17_code 5 = .ok (.invokevirtual 88, 3) := by decide +kernel
theorem dd_55_8 : decode prog_1_method_17_code 8 = .ok (.ifCond .eq 14, 3) := by decide +kernel
theorem dd_55_11 : decode prog_1_method_17_code 11 = .ok (.aload_n 0, 1) := by decide +kernel
theorem dd_55_12 : decode prog_1_method_17_code 12 = .ok (.getfield 47, 3) := by decide +kernel
theorem dd_55_15 : decode prog_1_method_17_code 15 = .ok (.iload_n 1, 1) := by decide +kernel
theorem dd_55_16 : decode prog_1_method_17_code 16 = .ok (.invokevirtual 141, 3) := by decide +kernel
theorem dd_55_19 : decode prog_1_method_17_code 19 = .ok (.goto 4, 3) := by decide +kernel
theorem dd_55_22 : decode prog_1_method_17_code 22 = .ok (.iconst (-1), 1) := by decide +kernel
theorem dd_55_23 : decode prog_1_method_17_code 23 = .ok (.ireturn, 1) := by decide +kernel
theorem ks_55_0 : mi_snd cs_G cs_cl cs_inf 55 0 (mj_aload 0 1) := ms_aload_n (mi_dec ib_55 dd_55_0) rfl
theorem ks_55_1 : mi_snd cs_G cs_cl cs_inf 55 1 (mj_get 0 0 4) := ms_get (T := cs_T0) (k := 0) (mi_dec ib_55 dd_55_1) rfl cs_in0 (by decide) gw_231
theorem ks_55_4 : mi_snd cs_G cs_cl cs_inf 55 4 (mj_iload 1 5) := ms_iload_n (mi_dec ib_55 dd_55_4) rfl
theorem ks_55_5 : mi_snd cs_G cs_cl cs_inf 55 5 (mj_callV 1 5 1 2 8) := ms_callVN iw_c5 (mi_dec ib_55 dd_55_5) gw_282 iw_i5 rfl iw_v5 iw_n5 (by decide +kernel) rfl (by decide)
theorem ks_55_8 : mi_snd cs_G cs_cl cs_inf 55 8 (mj_if (fun x => decide (x = 0)) 22 11) := ms_if_eq (mi_dec ib_55 dd_55_8) (by decide)
theorem ks_55_11 : mi_snd cs_G cs_cl cs_inf 55 11 (mj_aload 0 12) := ms_aload_n (mi_dec ib_55 dd_55_11) rfl
theorem ks_55_12 : mi_snd cs_G cs_cl cs_inf 55 12 (mj_get 0 5 15) := ms_get (T := cs_T0) (k := 5) (mi_dec ib_55 dd_55_12) rfl cs_in0 (by decide) gw_236
theorem ks_55_15 : mi_snd cs_G cs_cl cs_inf 55 15 (mj_iload 1 16) := ms_iload_n (mi_dec ib_55 dd_55_15) rfl
theorem ks_55_16 : mi_snd cs_G cs_cl cs_inf 55 16 (mj_callV 5 56 1 2 19) := ms_callVN iw_c56 (mi_dec ib_55 dd_55_16) gw_507 iw_i56 rfl iw_v56 iw_n56 (by decide +kernel) rfl (by decide)
theorem ks_55_19 : mi_snd cs_G cs_cl cs_inf 55 19 (mj_goto 23) := ms_goto (mi_dec ib_55 dd_55_19) (by decide)
theorem ks_55_22 : mi_snd cs_G cs_cl cs_inf 55 22 (mj_push (.inl (-1)) 23) := ms_iconst (mi_dec ib_55 dd_55_22) (by decide)
theorem ks_55_23 : mi_snd cs_G cs_cl cs_inf 55 23 (mj_iret) := ms_iret (mi_dec ib_55 dd_55_23) rfl
def ct_55 : List (Nat × mi_I) := [
  (0, mj_aload 0 1),
  (1, mj_get 0 0 4),
  (4, mj_iload 1 5),
  (5, mj_callV 1 5 1 2 8),
  (8, mj_if (fun x => decide (x = 0)) 22 11),
  (11, mj_aload 0 12),
  (12, mj_get 0 5 15),
  (15, mj_iload 1 16),
  (16, mj_callV 5 56 1 2 19),
  (19, mj_goto 23),
  (22, mj_push (.inl (-1)) 23),
  (23, mj_iret)]
theorem sd_55 : ∀ q ∈ ct_55, mi_snd cs_G cs_cl cs_inf 55 q.1 q.2 := mi_fc ks_55_0 (mi_fc ks_55_1 (mi_fc ks_55_4 (mi_fc ks_55_5 (mi_fc ks_55_8 (mi_fc ks_55_11 (mi_fc ks_55_12 (mi_fc ks_55_15 (mi_fc ks_55_16 (mi_fc ks_55_19 (mi_fc ks_55_22 (mi_fc ks_55_23 mi_fn)))))))))))
theorem dd_56_0 : decode prog_6_method_3_code 0 = .ok (.aload_n 0, 1) := by decide +kernel
theorem dd_56_1 : decode prog_6_method_3_code 1 = .ok (.invokevirtual 26, 3) := by decide +kernel
theorem dd_56_4 : decode prog_6_method_3_code 4 = .ok (.iload_n 1, 1) := by decide +kernel
theorem dd_56_5 : decode prog_6_method_3_code 5 = .ok (.ifCond .lt 21, 3) := by decide +kernel
theorem dd_56_8 : decode prog_6_method_3_code 8 = .ok (.iload_n 1, 1) := by decide +kernel
theorem dd_56_9 : decode prog_6_method_3_code 9 = .ok (.aload_n 0, 1) := by decide +kernel
theorem dd_56_10 : decode prog_6_method_3_code 10 = .ok (.getfield 15, 3) := by decide +kernel
theorem dd_56_13 : decode prog_6_method_3_code 13 = .ok (.arraylength, 1) := by decide +kernel
theorem dd_56_14 : decode prog_6_method_3_code 14 = .ok (.if_icmp .ge 12, 3) := by decide +kernel
theorem dd_56_17 : decode prog_6_method_3_code 17 = .ok (.aload_n 0, 1) := by decide +kernel
theorem dd_56_18 : decode prog_6_method_3_code 18 = .ok (.getfield 15, 3) := by decide +kernel
theorem dd_56_21 : decode prog_6_method_3_code 21 = .ok (.iload_n 1, 1) := by decide +kernel
theorem dd_56_22 : decode prog_6_method_3_code 22 = .ok (.iaload, 1) := by decide +kernel
theorem dd_56_23 : decode prog_6_method_3_code 23 = .ok (.goto 4, 3) := by decide +kernel
theorem dd_56_26 : decode prog_6_method_3_code 26 = .ok (.iconst (-1), 1) := by decide +kernel
theorem dd_56_27 : decode prog_6_method_3_code 27 = .ok (.ireturn, 1) := by decide +kernel
theorem ks_56_0 : mi_snd cs_G cs_cl cs_inf 56 0 (mj_aload 0 1) := ms_aload_n (mi_dec ib_56 dd_56_0) rfl
theorem ks_56_1 : mi_snd cs_G cs_cl cs_inf 56 1 (mj_callV 5 54 0 5 4) := ms_callV iw_c54 (mi_dec ib_56 dd_56_1) gw_495 iw_i54 rfl iw_v54 iw_n54 (by decide +kernel) rfl (by decide)
theorem ks_56_4 : mi_snd cs_G cs_cl cs_inf 56 4 (mj_iload 1 5) := ms_iload_n (mi_dec ib_56 dd_56_4) rfl
theorem ks_56_5 : mi_snd cs_G cs_cl cs_inf 56 5 (mj_if (fun x => decide (x < 0)) 26 8) := ms_if_lt (mi_dec ib_56 dd_56_5) (by decide)
theorem ks_56_8 : mi_snd cs_G cs_cl cs_inf 56 8 (mj_iload 1 9) := ms_iload_n (mi_dec ib_56 dd_56_8) rfl
theorem ks_56_9 : mi_snd cs_G cs_cl cs_inf 56 9 (mj_aload 0 10) := ms_aload_n (mi_dec ib_56 dd_56_9) rfl
theorem ks_56_10 : mi_snd cs_G cs_cl cs_inf 56 10 (mj_get 5 2 13) := ms_get (T := cs_T5) (k := 2) (mi_dec ib_56 dd_56_10) rfl cs_in5 (by decide) gw_125
theorem ks_56_13 : mi_snd cs_G cs_cl cs_inf 56 13 (mj_alen 14) := ms_alen (mi_dec ib_56 dd_56_13)
theorem ks_56_14 : mi_snd cs_G cs_cl cs_inf 56 14 (mj_cmp (fun x y => decide (y ≤ x)) 26 17) := ms_icmp_ge (mi_dec ib_56 dd_56_14) (by decide)
theorem ks_56_17 : mi_snd cs_G cs_cl cs_inf 56 17 (mj_aload 0 18) := ms_aload_n (mi_dec ib_56 dd_56_17) rfl
theorem ks_56_18 : mi_snd cs_G cs_cl cs_inf 56 18 (mj_get 5 2 21) := ms_get (T := cs_T5) (k := 2) (mi_dec ib_56 dd_56_18) rfl cs_in5 (by decide) gw_125
theorem ks_56_21 : mi_snd cs_G cs_cl cs_inf 56 21 (mj_iload 1 22) := ms_iload_n (mi_dec ib_56 dd_56_21) rfl
theorem ks_56_22 : mi_snd cs_G cs_cl cs_inf 56 22 (mj_ald 0 23) := ms_ald0 (mi_dec ib_56 dd_56_22)
theorem ks_56_23 : mi_snd cs_G cs_cl cs_inf 56 23 (mj_goto 27) := ms_goto (mi_dec ib_56 dd_56_23) (by decide)
theorem ks_56_26 : mi_snd cs_G cs_cl cs_inf 56 26 (mj_push (.inl (-1)) 27) := ms_iconst (mi_dec ib_56 dd_56_26) (by decide)
theorem ks_56_27 : mi_snd cs_G cs_cl cs_inf 56 27 (mj_iret) := ms_iret (mi_dec ib_56 dd_56_27) rfl
def ct_56 : List (Nat × mi_I) := [
  (0, mj_aload 0 1),
  (1, mj_callV 5 54 0 5 4),
  (4, mj_iload 1 5),
  (5, mj_if (fun x => decide (x < 0)) 26 8),
  (8, mj_iload 1 9),
  (9, mj_aload 0 10),
  (10, mj_get 5 2 13),
  (13, mj_alen 14),
  (14, mj_cmp (fun x y => decide (y ≤ x)) 26 17),
  (17, mj_aload 0 18),
  (18, mj_get 5 2 21),
  (21, mj_iload 1 22),
  (22, mj_ald 0 23),
  (23, mj_goto 27),
  (26, mj_push (.inl (-1)) 27),
  (27, mj_iret)]
theorem sd_56 : ∀ q ∈ ct_56, mi_snd cs_G cs_cl cs_inf 56 q.1 q.2 := mi_fc ks_56_0 (mi_fc ks_56_1 (mi_fc ks_56_4 (mi_fc ks_56_5 (mi_fc ks_56_8 (mi_fc ks_56_9 (mi_fc ks_56_10 (mi_fc ks_56_13 (mi_fc ks_56_14 (mi_fc ks_56_17 (mi_fc ks_56_18 (mi_fc ks_56_21 (mi_fc ks_56_22 (mi_fc ks_56_23 (mi_fc ks_56_26 (mi_fc ks_56_27 mi_fn)))))))))))))))
theorem dd_57_0 : decode prog_1_method_18_code 0 = .ok (.iload_n 1, 1) := by decide +kernel
theorem dd_57_1 : decode prog_1_method_18_code 1 = .ok (.iconst 1, 1) := by decide +kernel
theorem dd_57_2 : decode prog_1_method_18_code 2 = .ok (.if_icmp .lt 20, 3) := by decide +kernel
theorem dd_57_5 : decode prog_1_method_18_code 5 = .ok (.iload_n 1, 1) := by decide +kernel
theorem dd_57_6 : decode prog_1_method_18_code 6 = .ok (.ldc 144, 2) := by decide +kernel
theorem dd_57_8 : decode prog_1_method_18_code 8 = .ok (.if_icmp .gt 14, 3) := by decide +kernel
theorem dd_57_11 : decode prog_1_method_18_code 11 = .ok (.aload_n 0, 1) := by decide +kernel
theorem dd_57_12 : decode prog_1_method_18_code 12 = .ok (.getfield 54, 3) := by decide +kernel
theorem dd_57_15 : decode prog_1_method_18_code 15 = .ok (.iload_n 1, 1) := by decide +kernel
theorem dd_57_16 : decode prog_1_method_18_code 16 = .ok (.invokevirtual 145, 3) := by decide +kernel
theorem dd_57_19 : decode prog_1_method_18_code 19 = .ok (.goto 4, 3) := by decide +kernel
theorem dd_57_22 : decode prog_1_method_18_code 22 = .ok (.iconst (-1), 1) := by decide +kernel
theorem dd_57_23 : decode prog_1_method_18_code 23 = .ok (.ireturn, 1) := by decide +kernel
theorem ks_57_0 : mi_snd cs_G cs_cl cs_inf 57 0 (mj_iload 1 1) := ms_iload_n (mi_dec ib_57 dd_57_0) rfl
theorem ks_57_1 : mi_snd cs_G cs_cl cs_inf 57 1 (mj_push (.inl 1) 2) := ms_iconst (mi_dec ib_57 dd_57_1) (by decide)
theorem ks_57_2 : mi_snd cs_G cs_cl cs_inf 57 2 (mj_cmp (fun x y => decide (x < y)) 22 5) := ms_icmp_lt (mi_dec ib_57 dd_57_2) (by decide)
theorem ks_57_5 : mi_snd cs_G cs_cl cs_inf 57 5 (mj_iload 1 6) := ms_iload_n (mi_dec ib_57 dd_57_5) rfl
theorem ks_57_6 : mi_snd cs_G cs_cl cs_inf 57 6 (mj_push (.inl 100000) 8) := ms_ldc (mi_dec ib_57 dd_57_6) gw_515
theorem ks_57_8 : mi_snd cs_G cs_cl cs_inf 57 8 (mj_cmp (fun x y => decide (y < x)) 22 11) := ms_icmp_gt (mi_dec ib_57 dd_57_8) (by decide)
theorem ks_57_11 : mi_snd cs_G cs_cl cs_inf 57 11 (mj_aload 0 12) := ms_aload_n (mi_dec ib_57 dd_57_11) rfl
theorem ks_57_12 : mi_snd cs_G cs_cl cs_inf 57 12 (mj_get 0 6 15) := ms_get (T := cs_T0) (k := 6) (mi_dec ib_57 dd_57_12) rfl cs_in0 (by decide) gw_237
theorem ks_57_15 : mi_snd cs_G cs_cl cs_inf 57 15 (mj_iload 1 16) := ms_iload_n (mi_dec ib_57 dd_57_15) rfl
theorem ks_57_16 : mi_snd cs_G cs_cl cs_inf 57 16 (mj_callV 6 58 1 2 19) := ms_callVN iw_c58 (mi_dec ib_57 dd_57_16) gw_516 iw_i58 rfl iw_v58 iw_n58 (by decide +kernel) rfl (by decide)
theorem ks_57_19 : mi_snd cs_G cs_cl cs_inf 57 19 (mj_goto 23) := ms_goto (mi_dec ib_57 dd_57_19) (by decide)
theorem ks_57_22 : mi_snd cs_G cs_cl cs_inf 57 22 (mj_push (.inl (-1)) 23) := ms_iconst (mi_dec ib_57 dd_57_22) (by decide)
theorem ks_57_23 : mi_snd cs_G cs_cl cs_inf 57 23 (mj_iret) := ms_iret (mi_dec ib_57 dd_57_23) rfl
def ct_57 : List (Nat × mi_I) := [
  (0, mj_iload 1 1),
  (1, mj_push (.inl 1) 2),
  (2, mj_cmp (fun x y => decide (x < y)) 22 5),
  (5, mj_iload 1 6),
  (6, mj_push (.inl 100000) 8),
  (8, mj_cmp (fun x y => decide (y < x)) 22 11),
  (11, mj_aload 0 12),
  (12, mj_get 0 6 15),
  (15, mj_iload 1 16),
  (16, mj_callV 6 58 1 2 19),
  (19, mj_goto 23),
  (22, mj_push (.inl (-1)) 23),
  (23, mj_iret)]
theorem sd_57 : ∀ q ∈ ct_57, mi_snd cs_G cs_cl cs_inf 57 q.1 q.2 := mi_fc ks_57_0 (mi_fc ks_57_1 (mi_fc ks_57_2 (mi_fc ks_57_5 (mi_fc ks_57_6 (mi_fc ks_57_8 (mi_fc ks_57_11 (mi_fc ks_57_12 (mi_fc ks_57_15 (mi_fc ks_57_16 (mi_fc ks_57_19 (mi_fc ks_57_22 (mi_fc ks_57_23 mi_fn))))))))))))
theorem dd_58_0 : decode prog_7_method_2_code 0 = .ok (.aload_n 0, 1) := by decide +kernel
theorem dd_58_1 : decode prog_7_method_2_code 1 = .ok (.iload_n 1, 1) := by decide +kernel
theorem dd_58_2 : decode prog_7_method_2_code 2 = .ok (.putfield 20, 3) := by decide +kernel
theorem dd_58_5 : decode prog_7_method_2_code 5 = .ok (.aload_n 0, 1) := by decide +kernel
theorem dd_58_6 : decode prog_7_method_2_code 6 = .ok (.iconst 0, 1) := by decide +kernel
theorem dd_58_7 : decode prog_7_method_2_code 7 = .ok (.putfield 24, 3) := by decide +kernel
theorem dd_58_10 : decode prog_7_method_2_code 10 = .ok (.aload_n 0, 1) := by decide +kernel
theorem dd_58_11 : decode prog_7_method_2_code 11 = .ok (.iconst 0, 1) := by decide +kernel
theorem dd_58_12 : decode prog_7_method_2_code 12 = .ok (.putfield 27, 3) := by decide +kernel
theorem dd_58_15 : decode prog_7_method_2_code 15 = .ok (.aload_n 0, 1) := by decide +kernel
theorem dd_58_16 : decode prog_7_method_2_code 16 = .ok (.iconst 0, 1) := by decide +kernel
theorem dd_58_17 : decode prog_7_method_2_code 17 = .ok (.putfield 30, 3) := by decide +kernel
theorem dd_58_20 : decode prog_7_method_2_code 20 = .ok (.aload_n 0, 1) := by decide +kernel
theorem dd_58_21 : decode prog_7_method_2_code 21 = .ok (.iconst 0, 1) := by decide +kernel
theorem dd_58_22 : decode prog_7_method_2_code 22 = .ok (.putfield 33, 3) := by decide +kernel
theorem dd_58_25 : decode prog_7_method_2_code 25 = .ok (.aload_n 0, 1) := by decide +kernel
theorem dd_58_26 : decode prog_7_method_2_code 26 = .ok (.iconst 0, 1) := by decide +kernel
theorem dd_58_27 : decode prog_7_method_2_code 27 = .ok (.aload_n 0, 1) := by decide +kernel
theorem dd_58_28 : decode prog_7_method_2_code 28 = .ok (.getfield 16, 3) := by decide +kernel
theorem dd_58_31 : decode prog_7_method_2_code 31 = .ok (.invokevirtual 37, 3) := by decide +kernel
theorem dd_58_34 : decode prog_7_method_2_code 34 = .ok (.iconst 0, 1) := by decide +kernel
theorem dd_58_35 : decode prog_7_method_2_code 35 = .ok (.invokestatic 43, 3) := by decide +kernel
theorem dd_58_38 : decode prog_7_method_2_code 38 = .ok (.aload_n 0, 1) := by decide +kernel
theorem dd_58_39 : decode prog_7_method_2_code 39 = .ok (.aload_n 0, 1) := by decide +kernel
theorem dd_58_40 : decode prog_7_method_2_code 40 = .ok (.getfield 24, 3) := by decide +kernel
theorem dd_58_43 : decode prog_7_method_2_code 43 = .ok (.invokestatic 47, 3) := by decide +kernel
theorem dd_58_46 : decode prog_7_method_2_code 46 = .ok (.putfield 53, 3) := by decide +kernel
theorem dd_58_49 : decode prog_7_method_2_code 49 = .ok (.aload_n 0, 1) := by decide +kernel
theorem dd_58_50 : decode prog_7_method_2_code 50 = .ok (.aload_n 0, 1) := by decide +kernel
theorem dd_58_51 : decode prog_7_method_2_code 51 = .ok (.getfield 33, 3) := by decide +kernel
theorem dd_58_54 : decode prog_7_method_2_code 54 = .ok (.ifCond .eq 26, 3) := by decide +kernel
theorem dd_58_57 : decode prog_7_method_2_code 57 = .ok (.aload_n 0, 1) := by decide +kernel
theorem dd_58_58 : decode prog_7_method_2_code 58 = .ok (.getfield 16, 3) := by decide +kernel
theorem dd_58_61 : decode prog_7_method_2_code 61 = .ok (.aload_n 0, 1) := by decide +kernel
theorem dd_58_62 : decode prog_7_method_2_code 62 = .ok (.getfield 16, 3) := by decide +kernel
theorem dd_58_65 : decode prog_7_method_2_code 65 = .ok (.invokevirtual 37, 3) := by decide +kernel
theorem dd_58_68 : decode prog_7_method_2_code 68 = .ok (.aload_n 0, 1) := by decide +kernel
theorem dd_58_69 : decode prog_7_method_2_code 69 = .ok (.getfield 11, 3) := by decide +kernel
theorem dd_58_72 : decode prog_7_method_2_code 72 = .ok (.iconst 0, 1) := by decide +kernel
theorem dd_58_73 : decode prog_7_method_2_code 73 = .ok (.aaload, 1) := by decide +kernel
theorem dd_58_74 : decode prog_7_method_2_code 74 = .ok (.invokevirtual 56, 3) := by decide +kernel
theorem dd_58_77 : decode prog_7_method_2_code 77 = .ok (.goto 7, 3) := by decide +kernel
theorem dd_58_80 : decode prog_7_method_2_code 80 = .ok (.aload_n 0, 1) := by decide +kernel
theorem dd_58_81 : decode prog_7_method_2_code 81 = .ok (.getfield 53, 3) := by decide +kernel
theorem dd_58_84 : decode prog_7_method_2_code 84 = .ok (.putfield 60, 3) := by decide +kernel
theorem dd_58_87 : decode prog_7_method_2_code 87 = .ok (.aload_n 0, 1) := by decide +kernel
theorem dd_58_88 : decode prog_7_method_2_code 88 = .ok (.getfield 24, 3) := by decide +kernel
theorem dd_58_91 : decode prog_7_method_2_code 91 = .ok (.ireturn, 1) := by decide +kernel
theorem ks_58_0 : mi_snd cs_G cs_cl cs_inf 58 0 (mj_aload 0 1) := ms_aload_n (mi_dec ib_58 dd_58_0) rfl
theorem ks_58_1 : mi_snd cs_G cs_cl cs_inf 58 1 (mj_iload 1 2) := ms_iload_n (mi_dec ib_58 dd_58_1) rfl
theorem ks_58_2 : mi_snd cs_G cs_cl cs_inf 58 2 (mj_putI 6 2 5) := ms_putI (T := cs_T6) (k := 2) (mi_dec ib_58 dd_58_2) rfl cs_in6 cs_ty6_ok cs_nm6 (by decide) gw_145 (by decide) (by decide +kernel)
theorem ks_58_5 : mi_snd cs_G cs_cl cs_inf 58 5 (mj_aload 0 6) := ms_aload_n (mi_dec ib_58 dd_58_5) rfl
theorem ks_58_6 : mi_snd cs_G cs_cl cs_inf 58 6 (mj_push (.inl 0) 7) := ms_iconst (mi_dec ib_58 dd_58_6) (by decide)
theorem ks_58_7 : mi_snd cs_G cs_cl cs_inf 58 7 (mj_putI 6 3 10) := ms_putI (T := cs_T6) (k := 3) (mi_dec ib_58 dd_58_7) rfl cs_in6 cs_ty6_ok cs_nm6 (by decide) gw_146 (by decide) (by decide +kernel)
theorem ks_58_10 : mi_snd cs_G cs_cl cs_inf 58 10 (mj_aload 0 11) := ms_aload_n (mi_dec ib_58 dd_58_10) rfl
theorem ks_58_11 : mi_snd cs_G cs_cl cs_inf 58 11 (mj_push (.inl 0) 12) := ms_iconst (mi_dec ib_58 dd_58_11) (by decide)
theorem ks_58_12 : mi_snd cs_G cs_cl cs_inf 58 12 (mj_putI 6 6 15) := ms_putI (T := cs_T6) (k := 6) (mi_dec ib_58 dd_58_12) rfl cs_in6 cs_ty6_ok cs_nm6 (by decide) gw_151 (by decide) (by decide +kernel)
theorem ks_58_15 : mi_snd cs_G cs_cl cs_inf 58 15 (mj_aload 0 16) := ms_aload_n (mi_dec ib_58 dd_58_15) rfl
theorem ks_58_16 : mi_snd cs_G cs_cl cs_inf 58 16 (mj_push (.inl 0) 17) := ms_iconst (mi_dec ib_58 dd_58_16) (by decide)
theorem ks_58_17 : mi_snd cs_G cs_cl cs_inf 58 17 (mj_putI 6 7 20) := ms_putI (T := cs_T6) (k := 7) (mi_dec ib_58 dd_58_17) rfl cs_in6 cs_ty6_ok cs_nm6 (by decide) gw_153 (by decide) (by decide +kernel)
theorem ks_58_20 : mi_snd cs_G cs_cl cs_inf 58 20 (mj_aload 0 21) := ms_aload_n (mi_dec ib_58 dd_58_20) rfl
theorem ks_58_21 : mi_snd cs_G cs_cl cs_inf 58 21 (mj_push (.inl 0) 22) := ms_iconst (mi_dec ib_58 dd_58_21) (by decide)
theorem ks_58_22 : mi_snd cs_G cs_cl cs_inf 58 22 (mj_putZ 6 8 25) := ms_putZ (T := cs_T6) (k := 8) (mi_dec ib_58 dd_58_22) rfl cs_in6 cs_ty6_ok cs_nm6 (by decide) gw_155 (by decide) (by decide +kernel)
theorem ks_58_25 : mi_snd cs_G cs_cl cs_inf 58 25 (mj_aload 0 26) := ms_aload_n (mi_dec ib_58 dd_58_25) rfl
theorem ks_58_26 : mi_snd cs_G cs_cl cs_inf 58 26 (mj_push (.inl 0) 27) := ms_iconst (mi_dec ib_58 dd_58_26) (by decide)
theorem ks_58_27 : mi_snd cs_G cs_cl cs_inf 58 27 (mj_aload 0 28) := ms_aload_n (mi_dec ib_58 dd_58_27) rfl
theorem ks_58_28 : mi_snd cs_G cs_cl cs_inf 58 28 (mj_get 6 0 31) := ms_get (T := cs_T6) (k := 0) (mi_dec ib_58 dd_58_28) rfl cs_in6 (by decide) gw_143
theorem ks_58_31 : mi_snd cs_G cs_cl cs_inf 58 31 (mj_callV 1 15 0 1 34) := ms_callVN iw_c15 (mi_dec ib_58 dd_58_31) gw_520 iw_i15 rfl iw_v15 iw_n15 (by decide +kernel) rfl (by decide)
theorem ks_58_34 : mi_snd cs_G cs_cl cs_inf 58 34 (mj_push (.inl 0) 35) := ms_iconst (mi_dec ib_58 dd_58_34) (by decide)
theorem ks_58_35 : mi_snd cs_G cs_cl cs_inf 58 35 (mj_callS 59 4 8 38) := ms_callS iw_c59 (mi_dec ib_58 dd_58_35) gw_521 iw_s59 iw_n59 (by decide +kernel) rfl (by decide)
theorem ks_58_38 : mi_snd cs_G cs_cl cs_inf 58 38 (mj_aload 0 39) := ms_aload_n (mi_dec ib_58 dd_58_38) rfl
theorem ks_58_39 : mi_snd cs_G cs_cl cs_inf 58 39 (mj_aload 0 40) := ms_aload_n (mi_dec ib_58 dd_58_39) rfl
theorem ks_58_40 : mi_snd cs_G cs_cl cs_inf 58 40 (mj_get 6 3 43) := ms_get (T := cs_T6) (k := 3) (mi_dec ib_58 dd_58_40) rfl cs_in6 (by decide) gw_146
theorem ks_58_43 : mi_snd cs_G cs_cl cs_inf 58 43 (mj_callS 20 1 1 46) := ms_callS iw_c20 (mi_dec ib_58 dd_58_43) gw_524 iw_s20 iw_n20 (by decide +kernel) rfl (by decide)
theorem ks_58_46 : mi_snd cs_G cs_cl cs_inf 58 46 (mj_putI 6 4 49) := ms_putI (T := cs_T6) (k := 4) (mi_dec ib_58 dd_58_46) rfl cs_in6 cs_ty6_ok cs_nm6 (by decide) gw_147 (by decide) (by decide +kernel)
theorem ks_58_49 : mi_snd cs_G cs_cl cs_inf 58 49 (mj_aload 0 50) := ms_aload_n (mi_dec ib_58 dd_58_49) rfl
theorem ks_58_50 : mi_snd cs_G cs_cl cs_inf 58 50 (mj_aload 0 51) := ms_aload_n (mi_dec ib_58 dd_58_50) rfl
theorem ks_58_51 : mi_snd cs_G cs_cl cs_inf 58 51 (mj_get 6 8 54) := ms_get (T := cs_T6) (k := 8) (mi_dec ib_58 dd_58_51) rfl cs_in6 (by decide) gw_155
theorem ks_58_54 : mi_snd cs_G cs_cl cs_inf 58 54 (mj_if (fun x => decide (x = 0)) 80 57) := ms_if_eq (mi_dec ib_58 dd_58_54) (by decide)
theorem ks_58_57 : mi_snd cs_G cs_cl cs_inf 58 57 (mj_aload 0 58) := ms_aload_n (mi_dec ib_58 dd_58_57) rfl
theorem ks_58_58 : mi_snd cs_G cs_cl cs_inf 58 58 (mj_get 6 0 61) := ms_get (T := cs_T6) (k := 0) (mi_dec ib_58 dd_58_58) rfl cs_in6 (by decide) gw_143
theorem ks_58_61 : mi_snd cs_G cs_cl cs_inf 58 61 (mj_aload 0 62) := ms_aload_n (mi_dec ib_58 dd_58_61) rfl
theorem ks_58_62 : mi_snd cs_G cs_cl cs_inf 58 62 (mj_get 6 0 65) := ms_get (T := cs_T6) (k := 0) (mi_dec ib_58 dd_58_62) rfl cs_in6 (by decide) gw_143
theorem ks_58_65 : mi_snd cs_G cs_cl cs_inf 58 65 (mj_callV 1 15 0 1 68) := ms_callVN iw_c15 (mi_dec ib_58 dd_58_65) gw_520 iw_i15 rfl iw_v15 iw_n15 (by decide +kernel) rfl (by decide)
theorem ks_58_68 : mi_snd cs_G cs_cl cs_inf 58 68 (mj_aload 0 69) := ms_aload_n (mi_dec ib_58 dd_58_68) rfl
theorem ks_58_69 : mi_snd cs_G cs_cl cs_inf 58 69 (mj_get 6 1 72) := ms_get (T := cs_T6) (k := 1) (mi_dec ib_58 dd_58_69) rfl cs_in6 (by decide) gw_144
theorem ks_58_72 : mi_snd cs_G cs_cl cs_inf 58 72 (mj_push (.inl 0) 73) := ms_iconst (mi_dec ib_58 dd_58_72) (by decide)
theorem ks_58_73 : mi_snd cs_G cs_cl cs_inf 58 73 (mj_aald 74) := ms_aald (mi_dec ib_58 dd_58_73)
theorem ks_58_74 : mi_snd cs_G cs_cl cs_inf 58 74 (mj_callV 1 43 2 6 77) := ms_callVN iw_c43 (mi_dec ib_58 dd_58_74) gw_525 iw_i43 rfl iw_v43 iw_n43 (by decide +kernel) rfl (by decide)
theorem ks_58_77 : mi_snd cs_G cs_cl cs_inf 58 77 (mj_goto 84) := ms_goto (mi_dec ib_58 dd_58_77) (by decide)
theorem ks_58_80 : mi_snd cs_G cs_cl cs_inf 58 80 (mj_aload 0 81) := ms_aload_n (mi_dec ib_58 dd_58_80) rfl
theorem ks_58_81 : mi_snd cs_G cs_cl cs_inf 58 81 (mj_get 6 4 84) := ms_get (T := cs_T6) (k := 4) (mi_dec ib_58 dd_58_81) rfl cs_in6 (by decide) gw_147
theorem ks_58_84 : mi_snd cs_G cs_cl cs_inf 58 84 (mj_putI 6 5 87) := ms_putI (T := cs_T6) (k := 5) (mi_dec ib_58 dd_58_84) rfl cs_in6 cs_ty6_ok cs_nm6 (by decide) gw_149 (by decide) (by decide +kernel)
theorem ks_58_87 : mi_snd cs_G cs_cl cs_inf 58 87 (mj_aload 0 88) := ms_aload_n (mi_dec ib_58 dd_58_87) rfl
theorem ks_58_88 : mi_snd cs_G cs_cl cs_inf 58 88 (mj_get 6 3 91) := ms_get (T := cs_T6) (k := 3) (mi_dec ib_58 dd_58_88) rfl cs_in6 (by decide) gw_146
theorem ks_58_91 : mi_snd cs_G cs_cl cs_inf 58 91 (mj_iret) := ms_iret (mi_dec ib_58 dd_58_91) rfl
def ct_58 : List (Nat × mi_I) := [
  (0, mj_aload 0 1),
  (1, mj_iload 1 2),
  (2, mj_putI 6 2 5),
  (5, mj_aload 0 6),
  (6, mj_push (.inl 0) 7),
  (7, mj_putI 6 3 10),
  (10, mj_aload 0 11),
  (11, mj_push (.inl 0) 12),
  (12, mj_putI 6 6 15),
  (15, mj_aload 0 16),
  (16, mj_push (.inl 0) 17),
  (17, mj_putI 6 7 20),
  (20, mj_aload 0 21),
  (21, mj_push (.inl 0) 22),
  (22, mj_putZ 6 8 25),
  (25, mj_aload 0 26),
  (26, mj_push (.inl 0) 27),
  (27, mj_aload 0 28),
  (28, mj_get 6 0 31),
  (31, mj_callV 1 15 0 1 34),
  (34, mj_push (.inl 0) 35),
  (35, mj_callS 59 4 8 38),
  (38, mj_aload 0 39),
  (39, mj_aload 0 40),
  (40, mj_get 6 3 43),
  (43, mj_callS 20 1 1 46),
  (46, mj_putI 6 4 49),
  (49, mj_aload 0 50),
  (50, mj_aload 0 51),
  (51, mj_get 6 8 54),
  (54, mj_if (fun x => decide (x = 0)) 80 57),
  (57, mj_aload 0 58),
  (58, mj_get 6 0 61),
  (61, mj_aload 0 62),
  (62, mj_get 6 0 65),
  (65, mj_callV 1 15 0 1 68),
  (68, mj_aload 0 69),
  (69, mj_get 6 1 72),
  (72, mj_push (.inl 0) 73),
  (73, mj_aald 74),
  (74, mj_callV 1 43 2 6 77),
  (77, mj_goto 84),
  (80, mj_aload 0 81),
  (81, mj_get 6 4 84),
  (84, mj_putI 6 5 87),
  (87, mj_aload 0 88),
  (88, mj_get 6 3 91),
  (91, mj_iret)]
theorem sd_58 : ∀ q ∈ ct_58, mi_snd cs_G cs_cl cs_inf 58 q.1 q.2 := mi_fc ks_58_0 (mi_fc ks_58_1 (mi_fc ks_58_2 (mi_fc ks_58_5 (mi_fc ks_58_6 (mi_fc ks_58_7 (mi_fc ks_58_10 (mi_fc ks_58_11 (mi_fc ks_58_12 (mi_fc ks_58_15 (mi_fc ks_58_16 (mi_fc ks_58_17 (mi_fc ks_58_20 (mi_fc ks_58_21 (mi_fc ks_58_22 (mi_fc ks_58_25 (mi_fc ks_58_26 (mi_fc ks_58_27 (mi_fc ks_58_28 (mi_fc ks_58_31 (mi_fc ks_58_34 (mi_fc ks_58_35 (mi_fc ks_58_38 (mi_fc ks_58_39 (mi_fc ks_58_40 (mi_fc ks_58_43 (mi_fc ks_58_46 (mi_fc ks_58_49 (mi_fc ks_58_50 (mi_fc ks_58_51 (mi_fc ks_58_54 (mi_fc ks_58_57 (mi_fc ks_58_58 (mi_fc ks_58_61 (mi_fc ks_58_62 (mi_fc ks_58_65 (mi_fc ks_58_68 (mi_fc ks_58_69 (mi_fc ks_58_72 (mi_fc ks_58_73 (mi_fc ks_58_74 (mi_fc ks_58_77 (mi_fc ks_58_80 (mi_fc ks_58_81 (mi_fc ks_58_84 (mi_fc ks_58_87 (mi_fc ks_58_88 (mi_fc ks_58_91 mi_fn)))))))))))))))))))))))))))))))))))))))))))))))
theorem dd_59_0 : decode prog_7_method_3_code 0 = .ok (.aload_n 0, 1) := by decide +kernel
theorem dd_59_1 : decode prog_7_method_3_code 1 = .ok (.getfield 27, 3) := by decide +kernel
theorem dd_59_4 : decode prog_7_method_3_code 4 = .ok (.aload_n 0, 1) := by decide +kernel
theorem dd_59_5 : decode prog_7_method_3_code 5 = .ok (.getfield 20, 3) := by decide +kernel
theorem dd_59_8 : decode prog_7_method_3_code 8 = .ok (.if_icmp .ge 9, 3) := by decide +kernel
theorem dd_59_11 : decode prog_7_method_3_code 11 = .ok (.iload_n 3, 1) := by decide +kernel
theorem dd_59_12 : decode prog_7_method_3_code 12 = .ok (.bipush 16, 2) := by decide +kernel
theorem dd_59_14 : decode prog_7_method_3_code 14 = .ok (.if_icmp .le 9, 3) := by decide +kernel
theorem dd_59_17 : decode prog_7_method_3_code 17 = .ok (.aload_n 0, 1) := by decide +kernel
theorem dd_59_18 : decode prog_7_method_3_code 18 = .ok (.iconst 1, 1) := by decide +kernel
theorem dd_59_19 : decode prog_7_method_3_code 19 = .ok (.putfield 33, 3) := by decide +kernel
theorem dd_59_22 : decode prog_7_method_3_code 22 = .ok (.return_, 1) := by decide +kernel
theorem dd_59_23 : decode prog_7_method_3_code 23 = .ok (.aload_n 0, 1) := by decide +kernel
theorem dd_59_24 : decode prog_7_method_3_code 24 = .ok (.dup, 1) := by decide +kernel
theorem dd_59_25 : decode prog_7_method_3_code 25 = .ok (.getfield 27, 3) := by decide +kernel
theorem dd_59_28 : decode prog_7_method_3_code 28 = .ok (.iconst 1, 1) := by decide +kernel
theorem dd_59_29 : decode prog_7_method_3_code 29 = .ok (.iadd, 1) := by decide +kernel
theorem dd_59_30 : decode prog_7_method_3_code 30 = .ok (.putfield 27, 3) := by decide +kernel
theorem dd_59_33 : decode prog_7_method_3_code 33 = .ok (.iload_n 2, 1) := by decide +kernel
theorem dd_59_34 : decode prog_7_method_3_code 34 = .ok (.ifCond .ne 27, 3) := by decide +kernel
theorem dd_59_37 : decode prog_7_method_3_code 37 = .ok (.aload_n 0, 1) := by decide +kernel
theorem dd_59_38 : decode prog_7_method_3_code 38 = .ok (.iload_n 3, 1) := by decide +kernel
theorem dd_59_39 : decode prog_7_method_3_code 39 = .ok (.aload_n 0, 1) := by decide +kernel
theorem dd_59_40 : decode prog_7_method_3_code 40 = .ok (.getfield 24, 3) := by decide +kernel
theorem dd_59_43 : decode prog_7_method_3_code 43 = .ok (.invokestatic 47, 3) := by decide +kernel
theorem dd_59_46 : decode prog_7_method_3_code 46 = .ok (.if_icmp .le 7, 3) := by decide +kernel
theorem dd_59_49 : decode prog_7_method_3_code 49 = .ok (.iload_n 1, 1) := by decide +kernel
theorem dd_59_50 : decode prog_7_method_3_code 50 = .ok (.goto 7, 3) := by decide +kernel
theorem dd_59_53 : decode prog_7_method_3_code 53 = .ok (.aload_n 0, 1) := by decide +kernel
theorem dd_59_54 : decode prog_7_method_3_code 54 = .ok (.getfield 24, 3) := by decide +kernel
theorem dd_59_57 : decode prog_7_method_3_code 57 = .ok (.putfield 24, 3) := by decide +kernel
theorem dd_59_60 : decode prog_7_method_3_code 60 = .ok (.return_, 1) := by decide +kernel
theorem dd_59_61 : decode prog_7_method_3_code 61 = .ok (.aload_n 0, 1) := by decide +kernel
theorem dd_59_62 : decode prog_7_method_3_code 62 = .ok (.getfield 11, 3) := by decide +kernel
theorem dd_59_65 : decode prog_7_method_3_code 65 = .ok (.iload_n 3, 1) := by decide +kernel
theorem dd_59_66 : decode prog_7_method_3_code 66 = .ok (.aaload, 1) := by decide +kernel
theorem dd_59_67 : decode prog_7_method_3_code 67 = .ok (.astore 4, 2) := by decide +kernel
theorem dd_59_69 : decode prog_7_method_3_code 69 = .ok (.iload_n 2, 1) := by decide +kernel
theorem dd_59_70 : decode prog_7_method_3_code 70 = .ok (.istore 5, 2) := by decide +kernel
theorem dd_59_72 : decode prog_7_method_3_code 72 = .ok (.aload_n 0, 1) := by decide +kernel
theorem dd_59_73 : decode prog_7_method_3_code 73 = .ok (.getfield 16, 3) := by decide +kernel
theorem dd_59_76 : decode prog_7_method_3_code 76 = .ok (.iload_n 2, 1) := by decide +kernel
theorem dd_59_77 : decode prog_7_method_3_code 77 = .ok (.aload 4, 2) := by decide +kernel
theorem dd_59_79 : decode prog_7_method_3_code 79 = .ok (.invokevirtual 56, 3) := by decide +kernel
theorem dd_59_82 : decode prog_7_method_3_code 82 = .ok (.istore 6, 2) := by decide +kernel
theorem dd_59_84 : decode prog_7_method_3_code 84 = .ok (.iload 6, 2) := by decide +kernel
theorem dd_59_86 : decode prog_7_method_3_code 86 = .ok (.ifCond .le 109, 3) := by decide +kernel
theorem dd_59_89 : decode prog_7_method_3_code 89 = .ok (.bipush 15, 2) := by decide +kernel
theorem dd_59_91 : decode prog_7_method_3_code 91 = .ok (.istore 7, 2) := by decide +kernel
theorem dd_59_93 : decode prog_7_method_3_code 93 = .ok (.iload 7, 2) := by decide +kernel
theorem dd_59_95 : decode prog_7_method_3_code 95 = .ok (.ifCond .lt 94, 3) := by decide +kernel
theorem dd_59_98 : decode prog_7_method_3_code 98 = .ok (.aload 4, 2) := by decide +kernel
theorem dd_59_100 : decode prog_7_method_3_code 100 = .ok (.iload 6, 2) := by decide +kernel
theorem dd_59_102 : decode prog_7_method_3_code 102 = .ok (.iaload, 1) := by decide +kernel
theorem dd_59_103 : decode prog_7_method_3_code 103 = .ok (.iload 7, 2) := by decide +kernel
theorem dd_59_105 : decode prog_7_method_3_code 105 = .ok (.invokestatic 63, 3) := by decide +kernel
theorem dd_59_108 : decode prog_7_method_3_code 108 = .ok (.ifCond .ne 6, 3) := by decide +kernel
theorem dd_59_111 : decode prog_7_method_3_code 111 = .ok (.goto 72, 3) := by decide +kernel
theorem dd_59_114 : decode prog_7_method_3_code 114 = .ok (.iload_n 3, 1) := by decide +kernel
theorem dd_59_115 : decode prog_7_method_3_code 115 = .ok (.iload 6, 2) := by decide +kernel
theorem dd_59_117 : decode prog_7_method_3_code 117 = .ok (.iadd, 1) := by decide +kernel
theorem dd_59_118 : decode prog_7_method_3_code 118 = .ok (.aload_n 0, 1) := by decide +kernel
theorem dd_59_119 : decode prog_7_method_3_code 119 = .ok (.getfield 24, 3) := by decide +kernel
theorem dd_59_122 : decode prog_7_method_3_code 122 = .ok (.invokestatic 47, 3) := by decide +kernel
theorem dd_59_125 : decode prog_7_method_3_code 125 = .ok (.if_icmp .gt 14, 3) := by decide +kernel
theorem dd_59_128 : decode prog_7_method_3_code 128 = .ok (.aload_n 0, 1) := by decide +kernel
theorem dd_59_129 : decode prog_7_method_3_code 129 = .ok (.dup, 1) := by decide +kernel
theorem dd_59_130 : decode prog_7_method_3_code 130 = .ok (.getfield 30, 3) := by decide +kernel
theorem dd_59_133 : decode prog_7_method_3_code 133 = .ok (.iconst 1, 1) := by decide +kernel
theorem dd_59_134 : decode prog_7_method_3_code 134 = .ok (.iadd, 1) := by decide +kernel
theorem dd_59_135 : decode prog_7_method_3_code 135 = .ok (.putfield 30, 3) := by decide +kernel
theorem dd_59_138 : decode prog_7_method_3_code 138 = .ok (.return_, 1) := by decide +kernel
theorem dd_59_139 : decode prog_7_method_3_code 139 = .ok (.aload_n 0, 1) := by decide +kernel
theorem dd_59_140 : decode prog_7_method_3_code 140 = .ok (.iload_n 1, 1) := by decide +kernel
theorem dd_59_141 : decode prog_7_method_3_code 141 = .ok (.iconst 1, 1) := by decide +kernel
theorem dd_59_142 : decode prog_7_method_3_code 142 = .ok (.iload 7, 2) := by decide +kernel
theorem dd_59_144 : decode prog_7_method_3_code 144 = .ok (.ishl, 1) := by decide +kernel
theorem dd_59_145 : decode prog_7_method_3_code 145 = .ok (.ior, 1) := by decide +kernel
theorem dd_59_146 : decode prog_7_method_3_code 146 = .ok (.iload 5, 2) := by decide +kernel
theorem dd_59_148 : decode prog_7_method_3_code 148 = .ok (.aload_n 0, 1) := by decide +kernel
theorem dd_59_149 : decode prog_7_method_3_code 149 = .ok (.getfield 16, 3) := by decide +kernel
theorem dd_59_152 : decode prog_7_method_3_code 152 = .ok (.iload 7, 2) := by decide +kernel
theorem dd_59_154 : decode prog_7_method_3_code 154 = .ok (.invokevirtual 67, 3) := by decide +kernel
theorem dd_59_157 : decode prog_7_method_3_code 157 = .ok (.iand, 1) := by decide +kernel
theorem dd_59_158 : decode prog_7_method_3_code 158 = .ok (.iload_n 3, 1) := by decide +kernel
theorem dd_59_159 : decode prog_7_method_3_code 159 = .ok (.iconst 1, 1) := by decide +kernel
theorem dd_59_160 : decode prog_7_method_3_code 160 = .ok (.iadd, 1) := by decide +kernel
theorem dd_59_161 : decode prog_7_method_3_code 161 = .ok (.invokestatic 43, 3) := by decide +kernel
theorem dd_59_164 : decode prog_7_method_3_code 164 = .ok (.aload_n 0, 1) := by decide +kernel
theorem dd_59_165 : decode prog_7_method_3_code 165 = .ok (.getfield 33, 3) := by decide +kernel
theorem dd_59_168 : decode prog_7_method_3_code 168 = .ok (.ifCond .eq 4, 3) := by decide +kernel
theorem dd_59_171 : decode prog_7_method_3_code 171 = .ok (.return_, 1) := by decide +kernel
theorem dd_59_172 : decode prog_7_method_3_code 172 = .ok (.iload 5, 2) := by decide +kernel
theorem dd_59_174 : decode prog_7_method_3_code 174 = .ok (.iconst 1, 1) := by decide +kernel
theorem dd_59_175 : decode prog_7_method_3_code 175 = .ok (.iload 7, 2) := by decide +kernel
theorem dd_59_177 : decode prog_7_method_3_code 177 = .ok (.ishl, 1) := by decide +kernel
theorem dd_59_178 : decode prog_7_method_3_code 178 = .ok (.iconst (-1), 1) := by decide +kernel
theorem dd_59_179 : decode prog_7_method_3_code 179 = .ok (.ixor, 1) := by decide +kernel
theorem dd_59_180 : decode prog_7_method_3_code 180 = .ok (.iand, 1) := by decide +kernel
theorem dd_59_181 : decode prog_7_method_3_code 181 = .ok (.istore 5, 2) := by decide +kernel
theorem dd_59_183 : decode prog_7_method_3_code 183 = .ok (.iinc 7 (-1), 3) := by decide +kernel
theorem dd_59_186 : decode prog_7_method_3_code 186 = .ok (.goto (-93), 3) := by decide +kernel
theorem dd_59_189 : decode prog_7_method_3_code 189 = .ok (.iinc 6 (-1), 3) := by decide +kernel
theorem dd_59_192 : decode prog_7_method_3_code 192 = .ok (.goto (-108), 3) := by decide +kernel
theorem dd_59_195 : decode prog_7_method_3_code 195 = .ok (.return_, 1) := by decide +kernel
theorem ks_59_0 : mi_snd cs_G cs_cl cs_inf 59 0 (mj_aload 0 1) := ms_aload_n (mi_dec ib_59 dd_59_0) rfl
theorem ks_59_1 : mi_snd cs_G cs_cl cs_inf 59 1 (mj_get 6 6 4) := ms_get (T := cs_T6) (k := 6) (mi_dec ib_59 dd_59_1) rfl cs_in6 (by decide) gw_151
theorem ks_59_4 : mi_snd cs_G cs_cl cs_inf 59 4 (mj_aload 0 5) := ms_aload_n (mi_dec ib_59 dd_59_4) rfl
theorem ks_59_5 : mi_snd cs_G cs_cl cs_inf 59 5 (mj_get 6 2 8) := ms_get (T := cs_T6) (k := 2) (mi_dec ib_59 dd_59_5) rfl cs_in6 (by decide) gw_145
theorem ks_59_8 : mi_snd cs_G cs_cl cs_inf 59 8 (mj_cmp (fun x y => decide (y ≤ x)) 17 11) := ms_icmp_ge (mi_dec ib_59 dd_59_8) (by decide)
theorem ks_59_11 : mi_snd cs_G cs_cl cs_inf 59 11 (mj_iload 3 12) := ms_iload_n (mi_dec ib_59 dd_59_11) rfl
theorem ks_59_12 : mi_snd cs_G cs_cl cs_inf 59 12 (mj_push (.inl 16) 14) := ms_bipush (mi_dec ib_59 dd_59_12) (by decide)
theorem ks_59_14 : mi_snd cs_G cs_cl cs_inf 59 14 (mj_cmp (fun x y => decide (x ≤ y)) 23 17) := ms_icmp_le (mi_dec ib_59 dd_59_14) (by decide)
theorem ks_59_17 : mi_snd cs_G cs_cl cs_inf 59 17 (mj_aload 0 18) := ms_aload_n (mi_dec ib_59 dd_59_17) rfl
theorem ks_59_18 : mi_snd cs_G cs_cl cs_inf 59 18 (mj_push (.inl 1) 19) := ms_iconst (mi_dec ib_59 dd_59_18) (by decide)
theorem ks_59_19 : mi_snd cs_G cs_cl cs_inf 59 19 (mj_putZ 6 8 22) := ms_putZ (T := cs_T6) (k := 8) (mi_dec ib_59 dd_59_19) rfl cs_in6 cs_ty6_ok cs_nm6 (by decide) gw_155 (by decide) (by decide +kernel)
theorem ks_59_22 : mi_snd cs_G cs_cl cs_inf 59 22 (mj_ret) := ms_ret (mi_dec ib_59 dd_59_22) rfl
theorem ks_59_23 : mi_snd cs_G cs_cl cs_inf 59 23 (mj_aload 0 24) := ms_aload_n (mi_dec ib_59 dd_59_23) rfl
theorem ks_59_24 : mi_snd cs_G cs_cl cs_inf 59 24 (mj_dup 25) := ms_dup (mi_dec ib_59 dd_59_24)
theorem ks_59_25 : mi_snd cs_G cs_cl cs_inf 59 25 (mj_get 6 6 28) := ms_get (T := cs_T6) (k := 6) (mi_dec ib_59 dd_59_25) rfl cs_in6 (by decide) gw_151
theorem ks_59_28 : mi_snd cs_G cs_cl cs_inf 59 28 (mj_push (.inl 1) 29) := ms_iconst (mi_dec ib_59 dd_59_28) (by decide)
theorem ks_59_29 : mi_snd cs_G cs_cl cs_inf 59 29 (mj_bin (fun x y => x + y) 30) := ms_iadd (mi_dec ib_59 dd_59_29)
theorem ks_59_30 : mi_snd cs_G cs_cl cs_inf 59 30 (mj_putI 6 6 33) := ms_putI (T := cs_T6) (k := 6) (mi_dec ib_59 dd_59_30) rfl cs_in6 cs_ty6_ok cs_nm6 (by decide) gw_151 (by decide) (by decide +kernel)
theorem ks_59_33 : mi_snd cs_G cs_cl cs_inf 59 33 (mj_iload 2 34) := ms_iload_n (mi_dec ib_59 dd_59_33) rfl
theorem ks_59_34 : mi_snd cs_G cs_cl cs_inf 59 34 (mj_if (fun x => decide (¬ x = 0)) 61 37) := ms_if_ne (mi_dec ib_59 dd_59_34) (by decide)
theorem ks_59_37 : mi_snd cs_G cs_cl cs_inf 59 37 (mj_aload 0 38) := ms_aload_n (mi_dec ib_59 dd_59_37) rfl
theorem ks_59_38 : mi_snd cs_G cs_cl cs_inf 59 38 (mj_iload 3 39) := ms_iload_n (mi_dec ib_59 dd_59_38) rfl
theorem ks_59_39 : mi_snd cs_G cs_cl cs_inf 59 39 (mj_aload 0 40) := ms_aload_n (mi_dec ib_59 dd_59_39) rfl
theorem ks_59_40 : mi_snd cs_G cs_cl cs_inf 59 40 (mj_get 6 3 43) := ms_get (T := cs_T6) (k := 3) (mi_dec ib_59 dd_59_40) rfl cs_in6 (by decide) gw_146
theorem ks_59_43 : mi_snd cs_G cs_cl cs_inf 59 43 (mj_callS 20 1 1 46) := ms_callS iw_c20 (mi_dec ib_59 dd_59_43) gw_524 iw_s20 iw_n20 (by decide +kernel) rfl (by decide)
theorem ks_59_46 : mi_snd cs_G cs_cl cs_inf 59 46 (mj_cmp (fun x y => decide (x ≤ y)) 53 49) := ms_icmp_le (mi_dec ib_59 dd_59_46) (by decide)
theorem ks_59_49 : mi_snd cs_G cs_cl cs_inf 59 49 (mj_iload 1 50) := ms_iload_n (mi_dec ib_59 dd_59_49) rfl
theorem ks_59_50 : mi_snd cs_G cs_cl cs_inf 59 50 (mj_goto 57) := ms_goto (mi_dec ib_59 dd_59_50) (by decide)
theorem ks_59_53 : mi_snd cs_G cs_cl cs_inf 59 53 (mj_aload 0 54) := ms_aload_n (mi_dec ib_59 dd_59_53) rfl
theorem ks_59_54 : mi_snd cs_G cs_cl cs_inf 59 54 (mj_get 6 3 57) := ms_get (T := cs_T6) (k := 3) (mi_dec ib_59 dd_59_54) rfl cs_in6 (by decide) gw_146
theorem ks_59_57 : mi_snd cs_G cs_cl cs_inf 59 57 (mj_putI 6 3 60) := ms_putI (T := cs_T6) (k := 3) (mi_dec ib_59 dd_59_57) rfl cs_in6 cs_ty6_ok cs_nm6 (by decide) gw_146 (by decide) (by decide +kernel)
theorem ks_59_60 : mi_snd cs_G cs_cl cs_inf 59 60 (mj_ret) := ms_ret (mi_dec ib_59 dd_59_60) rfl
theorem ks_59_61 : mi_snd cs_G cs_cl cs_inf 59 61 (mj_aload 0 62) := ms_aload_n (mi_dec ib_59 dd_59_61) rfl
theorem ks_59_62 : mi_snd cs_G cs_cl cs_inf 59 62 (mj_get 6 1 65) := ms_get (T := cs_T6) (k := 1) (mi_dec ib_59 dd_59_62) rfl cs_in6 (by decide) gw_144
theorem ks_59_65 : mi_snd cs_G cs_cl cs_inf 59 65 (mj_iload 3 66) := ms_iload_n (mi_dec ib_59 dd_59_65) rfl
theorem ks_59_66 : mi_snd cs_G cs_cl cs_inf 59 66 (mj_aald 67) := ms_aald (mi_dec ib_59 dd_59_66)
theorem ks_59_67 : mi_snd cs_G cs_cl cs_inf 59 67 (mj_astore 4 69) := ms_astore (mi_dec ib_59 dd_59_67)
theorem ks_59_69 : mi_snd cs_G cs_cl cs_inf 59 69 (mj_iload 2 70) := ms_iload_n (mi_dec ib_59 dd_59_69) rfl
theorem ks_59_70 : mi_snd cs_G cs_cl cs_inf 59 70 (mj_istore 5 72) := ms_istore (mi_dec ib_59 dd_59_70)
theorem ks_59_72 : mi_snd cs_G cs_cl cs_inf 59 72 (mj_aload 0 73) := ms_aload_n (mi_dec ib_59 dd_59_72) rfl
theorem ks_59_73 : mi_snd cs_G cs_cl cs_inf 59 73 (mj_get 6 0 76) := ms_get (T := cs_T6) (k := 0) (mi_dec ib_59 dd_59_73) rfl cs_in6 (by decide) gw_143
theorem ks_59_76 : mi_snd cs_G cs_cl cs_inf 59 76 (mj_iload 2 77) := ms_iload_n (mi_dec ib_59 dd_59_76) rfl
theorem ks_59_77 : mi_snd cs_G cs_cl cs_inf 59 77 (mj_aload 4 79) := ms_aload (mi_dec ib_59 dd_59_77)
theorem ks_59_79 : mi_snd cs_G cs_cl cs_inf 59 79 (mj_callV 1 43 2 6 82) := ms_callVN iw_c43 (mi_dec ib_59 dd_59_79) gw_525 iw_i43 rfl iw_v43 iw_n43 (by decide +kernel) rfl (by decide)
theorem ks_59_82 : mi_snd cs_G cs_cl cs_inf 59 82 (mj_istore 6 84) := ms_istore (mi_dec ib_59 dd_59_82)
theorem ks_59_84 : mi_snd cs_G cs_cl cs_inf 59 84 (mj_iload 6 86) := ms_iload (mi_dec ib_59 dd_59_84)
theorem ks_59_86 : mi_snd cs_G cs_cl cs_inf 59 86 (mj_if (fun x => decide (x ≤ 0)) 195 89) := ms_if_le (mi_dec ib_59 dd_59_86) (by decide)
theorem ks_59_89 : mi_snd cs_G cs_cl cs_inf 59 89 (mj_push (.inl 15) 91) := ms_bipush (mi_dec ib_59 dd_59_89) (by decide)
theorem ks_59_91 : mi_snd cs_G cs_cl cs_inf 59 91 (mj_istore 7 93) := ms_istore (mi_dec ib_59 dd_59_91)
theorem ks_59_93 : mi_snd cs_G cs_cl cs_inf 59 93 (mj_iload 7 95) := ms_iload (mi_dec ib_59 dd_59_93)
theorem ks_59_95 : mi_snd cs_G cs_cl cs_inf 59 95 (mj_if (fun x => decide (x < 0)) 189 98) := ms_if_lt (mi_dec ib_59 dd_59_95) (by decide)
theorem ks_59_98 : mi_snd cs_G cs_cl cs_inf 59 98 (mj_aload 4 100) := ms_aload (mi_dec ib_59 dd_59_98)
theorem ks_59_100 : mi_snd cs_G cs_cl cs_inf 59 100 (mj_iload 6 102) := ms_iload (mi_dec ib_59 dd_59_100)
theorem ks_59_102 : mi_snd cs_G cs_cl cs_inf 59 102 (mj_ald 0 103) := ms_ald0 (mi_dec ib_59 dd_59_102)
theorem ks_59_103 : mi_snd cs_G cs_cl cs_inf 59 103 (mj_iload 7 105) := ms_iload (mi_dec ib_59 dd_59_103)
theorem ks_59_105 : mi_snd cs_G cs_cl cs_inf 59 105 (mj_callS 7 2 2 108) := ms_callSN iw_c7 (mi_dec ib_59 dd_59_105) gw_526 iw_s7 iw_n7 (by decide +kernel) rfl (by decide)
theorem ks_59_108 : mi_snd cs_G cs_cl cs_inf 59 108 (mj_if (fun x => decide (¬ x = 0)) 114 111) := ms_if_ne (mi_dec ib_59 dd_59_108) (by decide)
theorem ks_59_111 : mi_snd cs_G cs_cl cs_inf 59 111 (mj_goto 183) := ms_goto (mi_dec ib_59 dd_59_111) (by decide)
theorem ks_59_114 : mi_snd cs_G cs_cl cs_inf 59 114 (mj_iload 3 115) := ms_iload_n (mi_dec ib_59 dd_59_114) rfl
theorem ks_59_115 : mi_snd cs_G cs_cl cs_inf 59 115 (mj_iload 6 117) := ms_iload (mi_dec ib_59 dd_59_115)
theorem ks_59_117 : mi_snd cs_G cs_cl cs_inf 59 117 (mj_bin (fun x y => x + y) 118) := ms_iadd (mi_dec ib_59 dd_59_117)
theorem ks_59_118 : mi_snd cs_G cs_cl cs_inf 59 118 (mj_aload 0 119) := ms_aload_n (mi_dec ib_59 dd_59_118) rfl
theorem ks_59_119 : mi_snd cs_G cs_cl cs_inf 59 119 (mj_get 6 3 122) := ms_get (T := cs_T6) (k := 3) (mi_dec ib_59 dd_59_119) rfl cs_in6 (by decide) gw_146
theorem ks_59_122 : mi_snd cs_G cs_cl cs_inf 59 122 (mj_callS 20 1 1 125) := ms_callS iw_c20 (mi_dec ib_59 dd_59_122) gw_524 iw_s20 iw_n20 (by decide +kernel) rfl (by decide)
theorem ks_59_125 : mi_snd cs_G cs_cl cs_inf 59 125 (mj_cmp (fun x y => decide (y < x)) 139 128) := ms_icmp_gt (mi_dec ib_59 dd_59_125) (by decide)
theorem ks_59_128 : mi_snd cs_G cs_cl cs_inf 59 128 (mj_aload 0 129) := ms_aload_n (mi_dec ib_59 dd_59_128) rfl
theorem ks_59_129 : mi_snd cs_G cs_cl cs_inf 59 129 (mj_dup 130) := ms_dup (mi_dec ib_59 dd_59_129)
theorem ks_59_130 : mi_snd cs_G cs_cl cs_inf 59 130 (mj_get 6 7 133) := ms_get (T := cs_T6) (k := 7) (mi_dec ib_59 dd_59_130) rfl cs_in6 (by decide) gw_153
theorem ks_59_133 : mi_snd cs_G cs_cl cs_inf 59 133 (mj_push (.inl 1) 134) := ms_iconst (mi_dec ib_59 dd_59_133) (by decide)
theorem ks_59_134 : mi_snd cs_G cs_cl cs_inf 59 134 (mj_bin (fun x y => x + y) 135) := ms_iadd (mi_dec ib_59 dd_59_134)
theorem ks_59_135 : mi_snd cs_G cs_cl cs_inf 59 135 (mj_putI 6 7 138) := ms_putI (T := cs_T6) (k := 7) (mi_dec ib_59 dd_59_135) rfl cs_in6 cs_ty6_ok cs_nm6 (by decide) gw_153 (by decide) (by decide +kernel)
theorem ks_59_138 : mi_snd cs_G cs_cl cs_inf 59 138 (mj_ret) := ms_ret (mi_dec ib_59 dd_59_138) rfl
theorem ks_59_139 : mi_snd cs_G cs_cl cs_inf 59 139 (mj_aload 0 140) := ms_aload_n (mi_dec ib_59 dd_59_139) rfl
theorem ks_59_140 : mi_snd cs_G cs_cl cs_inf 59 140 (mj_iload 1 141) := ms_iload_n (mi_dec ib_59 dd_59_140) rfl
theorem ks_59_141 : mi_snd cs_G cs_cl cs_inf 59 141 (mj_push (.inl 1) 142) := ms_iconst (mi_dec ib_59 dd_59_141) (by decide)
theorem ks_59_142 : mi_snd cs_G cs_cl cs_inf 59 142 (mj_iload 7 144) := ms_iload (mi_dec ib_59 dd_59_142)
theorem ks_59_144 : mi_snd cs_G cs_cl cs_inf 59 144 (mj_bin (fun x y => x <<< (y &&& 31)) 145) := ms_ishl (mi_dec ib_59 dd_59_144)
theorem ks_59_145 : mi_snd cs_G cs_cl cs_inf 59 145 (mj_bin (fun x y => x ||| y) 146) := ms_ior (mi_dec ib_59 dd_59_145)
theorem ks_59_146 : mi_snd cs_G cs_cl cs_inf 59 146 (mj_iload 5 148) := ms_iload (mi_dec ib_59 dd_59_146)
theorem ks_59_148 : mi_snd cs_G cs_cl cs_inf 59 148 (mj_aload 0 149) := ms_aload_n (mi_dec ib_59 dd_59_148) rfl
theorem ks_59_149 : mi_snd cs_G cs_cl cs_inf 59 149 (mj_get 6 0 152) := ms_get (T := cs_T6) (k := 0) (mi_dec ib_59 dd_59_149) rfl cs_in6 (by decide) gw_143
theorem ks_59_152 : mi_snd cs_G cs_cl cs_inf 59 152 (mj_iload 7 154) := ms_iload (mi_dec ib_59 dd_59_152)
theorem ks_59_154 : mi_snd cs_G cs_cl cs_inf 59 154 (mj_callV 1 6 1 2 157) := ms_callVN iw_c6 (mi_dec ib_59 dd_59_154) gw_527 iw_i6 rfl iw_v6 iw_n6 (by decide +kernel) rfl (by decide)
theorem ks_59_157 : mi_snd cs_G cs_cl cs_inf 59 157 (mj_bin (fun x y => x &&& y) 158) := ms_iand (mi_dec ib_59 dd_59_157)
theorem ks_59_158 : mi_snd cs_G cs_cl cs_inf 59 158 (mj_iload 3 159) := ms_iload_n (mi_dec ib_59 dd_59_158) rfl
theorem ks_59_159 : mi_snd cs_G cs_cl cs_inf 59 159 (mj_push (.inl 1) 160) := ms_iconst (mi_dec ib_59 dd_59_159) (by decide)
theorem ks_59_160 : mi_snd cs_G cs_cl cs_inf 59 160 (mj_bin (fun x y => x + y) 161) := ms_iadd (mi_dec ib_59 dd_59_160)
theorem ks_59_161 : mi_snd cs_G cs_cl cs_inf 59 161 (mj_callS 59 4 8 164) := ms_callS iw_c59 (mi_dec ib_59 dd_59_161) gw_521 iw_s59 iw_n59 (by decide +kernel) rfl (by decide)
theorem ks_59_164 : mi_snd cs_G cs_cl cs_inf 59 164 (mj_aload 0 165) := ms_aload_n (mi_dec ib_59 dd_59_164) rfl
theorem ks_59_165 : mi_snd cs_G cs_cl cs_inf 59 165 (mj_get 6 8 168) := ms_get (T := cs_T6) (k := 8) (mi_dec ib_59 dd_59_165) rfl cs_in6 (by decide) gw_155
theorem ks_59_168 : mi_snd cs_G cs_cl cs_inf 59 168 (mj_if (fun x => decide (x = 0)) 172 171) := ms_if_eq (mi_dec ib_59 dd_59_168) (by decide)
theorem ks_59_171 : mi_snd cs_G cs_cl cs_inf 59 171 (mj_ret) := ms_ret (mi_dec ib_59 dd_59_171) rfl
theorem ks_59_172 : mi_snd cs_G cs_cl cs_inf 59 172 (mj_iload 5 174) := ms_iload (mi_dec ib_59 dd_59_172)
theorem ks_59_174 : mi_snd cs_G cs_cl cs_inf 59 174 (mj_push (.inl 1) 175) := ms_iconst (mi_dec ib_59 dd_59_174) (by decide)
theorem ks_59_175 : mi_snd cs_G cs_cl cs_inf 59 175 (mj_iload 7 177) := ms_iload (mi_dec ib_59 dd_59_175)
theorem ks_59_177 : mi_snd cs_G cs_cl cs_inf 59 177 (mj_bin (fun x y => x <<< (y &&& 31)) 178) := ms_ishl (mi_dec ib_59 dd_59_177)
theorem ks_59_178 : mi_snd cs_G cs_cl cs_inf 59 178 (mj_push (.inl (-1)) 179) := ms_iconst (mi_dec ib_59 dd_59_178) (by decide)
theorem ks_59_179 : mi_snd cs_G cs_cl cs_inf 59 179 (mj_bin (fun x y => x ^^^ y) 180) := ms_ixor (mi_dec ib_59 dd_59_179)
theorem ks_59_180 : mi_snd cs_G cs_cl cs_inf 59 180 (mj_bin (fun x y => x &&& y) 181) := ms_iand (mi_dec ib_59 dd_59_180)
theorem ks_59_181 : mi_snd cs_G cs_cl cs_inf 59 181 (mj_istore 5 183) := ms_istore (mi_dec ib_59 dd_59_181)
theorem ks_59_183 : mi_snd cs_G cs_cl cs_inf 59 183 (mj_iinc 7 (-1) 186) := ms_iinc (mi_dec ib_59 dd_59_183) (by decide)
theorem ks_59_186 : mi_snd cs_G cs_cl cs_inf 59 186 (mj_goto 93) := ms_goto (mi_dec ib_59 dd_59_186) (by decide)
theorem ks_59_189 : mi_snd cs_G cs_cl cs_inf 59 189 (mj_iinc 6 (-1) 192) := ms_iinc (mi_dec ib_59 dd_59_189) (by decide)
theorem ks_59_192 : mi_snd cs_G cs_cl cs_inf 59 192 (mj_goto 84) := ms_goto (mi_dec ib_59 dd_59_192) (by decide)
theorem ks_59_195 : mi_snd cs_G cs_cl cs_inf 59 195 (mj_ret) := ms_ret (mi_dec ib_59 dd_59_195) rfl
def ct_59 : List (Nat × mi_I) := [
  (0, mj_aload 0 1),
  (1, mj_get 6 6 4),
  (4, mj_aload 0 5),
  (5, mj_get 6 2 8),
  (8, mj_cmp (fun x y => decide (y ≤ x)) 17 11),
  (11, mj_iload 3 12),
  (12, mj_push (.inl 16) 14),
  (14, mj_cmp (fun x y => decide (x ≤ y)) 23 17),
  (17, mj_aload 0 18),
  (18, mj_push (.inl 1) 19),
  (19, mj_putZ 6 8 22),
  (22, mj_ret),
  (23, mj_aload 0 24),
  (24, mj_dup 25),
  (25, mj_get 6 6 28),
  (28, mj_push (.inl 1) 29),
  (29, mj_bin (fun x y => x + y) 30),
  (30, mj_putI 6 6 33),
  (33, mj_iload 2 34),
  (34, mj_if (fun x => decide (¬ x = 0)) 61 37),
  (37, mj_aload 0 38),
  (38, mj_iload 3 39),
  (39, mj_aload 0 40),
  (40, mj_get 6 3 43),
  (43, mj_callS 20 1 1 46),
  (46, mj_cmp (fun x y => decide (x ≤ y)) 53 49),
  (49, mj_iload 1 50),
  (50, mj_goto 57),
  (53, mj_aload 0 54),
  (54, mj_get 6 3 57),
  (57, mj_putI 6 3 60),
  (60, mj_ret),
  (61, mj_aload 0 62),
  (62, mj_get 6 1 65),
  (65, mj_iload 3 66),
  (66, mj_aald 67),
  (67, mj_astore 4 69),
  (69, mj_iload 2 70),
  (70, mj_istore 5 72),
  (72, mj_aload 0 73),
  (73, mj_get 6 0 76),
  (76, mj_iload 2 77),
  (77, mj_aload 4 79),
  (79, mj_callV 1 43 2 6 82),
  (82, mj_istore 6 84),
  (84, mj_iload 6 86),
  (86, mj_if (fun x => decide (x ≤ 0)) 195 89),
  (89, mj_push (.inl 15) 91),
  (91, mj_istore 7 93),
  (93, mj_iload 7 95),
  (95, mj_if (fun x => decide (x < 0)) 189 98),
  (98, mj_aload 4 100),
  (100, mj_iload 6 102),
  (102, mj_ald 0 103),
  (103, mj_iload 7 105),
  (105, mj_callS 7 2 2 108),
  (108, mj_if (fun x => decide (¬ x = 0)) 114 111),
  (111, mj_goto 183),
  (114, mj_iload 3 115),
  (115, mj_iload 6 117),
  (117, mj_bin (fun x y => x + y) 118),
  (118, mj_aload 0 119),
  (119, mj_get 6 3 122),
  (122, mj_callS 20 1 1 125),
  (125, mj_cmp (fun x y => decide (y < x)) 139 128),
  (128, mj_aload 0 129),
  (129, mj_dup 130),
  (130, mj_get 6 7 133),
  (133, mj_push (.inl 1) 134),
  (134, mj_bin (fun x y => x + y) 135),
  (135, mj_putI 6 7 138),
  (138, mj_ret),
  (139, mj_aload 0 140),
  (140, mj_iload 1 141),
  (141, mj_push (.inl 1) 142),
  (142, mj_iload 7 144),
  (144, mj_bin (fun x y => x <<< (y &&& 31)) 145),
  (145, mj_bin (fun x y => x ||| y) 146),
  (146, mj_iload 5 148),
  (148, mj_aload 0 149),
  (149, mj_get 6 0 152),
  (152, mj_iload 7 154),
  (154, mj_callV 1 6 1 2 157),
  (157, mj_bin (fun x y => x &&& y) 158),
  (158, mj_iload 3 159),
  (159, mj_push (.inl 1) 160),
  (160, mj_bin (fun x y => x + y) 161),
  (161, mj_callS 59 4 8 164),
  (164, mj_aload 0 165),
  (165, mj_get 6 8 168),
  (168, mj_if (fun x => decide (x = 0)) 172 171),
  (171, mj_ret),
  (172, mj_iload 5 174),
  (174, mj_push (.inl 1) 175),
  (175, mj_iload 7 177),
  (177, mj_bin (fun x y => x <<< (y &&& 31)) 178),
  (178, mj_push (.inl (-1)) 179),
  (179, mj_bin (fun x y => x ^^^ y) 180),
  (180, mj_bin (fun x y => x &&& y) 181),
  (181, mj_istore 5 183),
  (183, mj_iinc 7 (-1) 186),
  (186, mj_goto 93),
  (189, mj_iinc 6 (-1) 192),
  (192, mj_goto 84),
  (195, mj_ret)]
theorem sd_59 : ∀ q ∈ ct_59, mi_snd cs_G cs_cl cs_inf 59 q.1 q.2 := mi_fc ks_59_0 (mi_fc ks_59_1 (mi_fc ks_59_4 (mi_fc ks_59_5 (mi_fc ks_59_8 (mi_fc ks_59_11 (mi_fc ks_59_12 (mi_fc ks_59_14 (mi_fc ks_59_17 (mi_fc ks_59_18 (mi_fc ks_59_19 (mi_fc ks_59_22 (mi_fc ks_59_23 (mi_fc ks_59_24 (mi_fc ks_59_25 (mi_fc ks_59_28 (mi_fc ks_59_29 (mi_fc ks_59_30 (mi_fc ks_59_33 (mi_fc ks_59_34 (mi_fc ks_59_37 (mi_fc ks_59_38 (mi_fc ks_59_39 (mi_fc ks_59_40 (mi_fc ks_59_43 (mi_fc ks_59_46 (mi_fc ks_59_49 (mi_fc ks_59_50 (mi_fc ks_59_53 (mi_fc ks_59_54 (mi_fc ks_59_57 (mi_fc ks_59_60 (mi_fc ks_59_61 (mi_fc ks_59_62 (mi_fc ks_59_65 (mi_fc ks_59_66 (mi_fc ks_59_67 (mi_fc ks_59_69 (mi_fc ks_59_70 (mi_fc ks_59_72 (mi_fc ks_59_73 (mi_fc ks_59_76 (mi_fc ks_59_77 (mi_fc ks_59_79 (mi_fc ks_59_82 (mi_fc ks_59_84 (mi_fc ks_59_86 (mi_fc ks_59_89 (mi_fc ks_59_91 (mi_fc ks_59_93 (mi_fc ks_59_95 (mi_fc ks_59_98 (mi_fc ks_59_100 (mi_fc ks_59_102 (mi_fc ks_59_103 (mi_fc ks_59_105 (mi_fc ks_59_108 (mi_fc ks_59_111 (mi_fc ks_59_114 (mi_fc ks_59_115 (mi_fc ks_59_117 (mi_fc ks_59_118 (mi_fc ks_59_119 (mi_fc ks_59_122 (mi_fc ks_59_125 (mi_fc ks_59_128 (mi_fc ks_59_129 (mi_fc ks_59_130 (mi_fc ks_59_133 (mi_fc ks_59_134 (mi_fc ks_59_135 (mi_fc ks_59_138 (mi_fc ks_59_139 (mi_fc ks_59_140 (mi_fc ks_59_141 (mi_fc ks_59_142 (mi_fc ks_59_144 (mi_fc ks_59_145 (mi_fc ks_59_146 (mi_fc ks_59_148 (mi_fc ks_59_149 (mi_fc ks_59_152 (mi_fc ks_59_154 (mi_fc ks_59_157 (mi_fc ks_59_158 (mi_fc ks_59_159 (mi_fc ks_59_160 (mi_fc ks_59_161 (mi_fc ks_59_164 (mi_fc ks_59_165 (mi_fc ks_59_168 (mi_fc ks_59_171 (mi_fc ks_59_172 (mi_fc ks_59_174 (mi_fc ks_59_175 (mi_fc ks_59_177 (mi_fc ks_59_178 (mi_fc ks_59_179 (mi_fc ks_59_180 (mi_fc ks_59_181 (mi_fc ks_59_183 (mi_fc ks_59_186 (mi_fc ks_59_189 (mi_fc ks_59_192 (mi_fc ks_59_195 mi_fn))))))))))))))))))))))))))))))))))))))))))))))))))))))))))))))))))))))))))))))))))))))))))))))))))))))))
theorem dd_60_0 : decode prog_1_method_19_code 0 = .ok (.iload_n 1, 1) := by decide +kernel
theorem dd_60_1 : decode prog_1_method_19_code 1 = .ok (.tableswitch 83 0 4 #[35, 43, 51, 59, 67], 35) := by decide +kernel
theorem dd_60_36 : decode prog_1_method_19_code 36 = .ok (.aload_n 0, 1) := by decide +kernel
theorem dd_60_37 : decode prog_1_method_19_code 37 = .ok (.getfield 54, 3) := by decide +kernel
theorem dd_60_40 : decode prog_1_method_19_code 40 = .ok (.getfield 148, 3) := by decide +kernel
theorem dd_60_43 : decode prog_1_method_19_code 43 = .ok (.ireturn, 1) := by decide +kernel
theorem dd_60_44 : decode prog_1_method_19_code 44 = .ok (.aload_n 0, 1) := by decide +kernel
theorem dd_60_45 : decode prog_1_method_19_code 45 = .ok (.getfield 54, 3) := by decide +kernel
theorem dd_60_48 : decode prog_1_method_19_code 48 = .ok (.getfield 152, 3) := by decide +kernel
theorem dd_60_51 : decode prog_1_method_19_code 51 = .ok (.ireturn, 1) := by decide +kernel
theorem dd_60_52 : decode prog_1_method_19_code 52 = .ok (.aload_n 0, 1) := by decide +kernel
theorem dd_60_53 : decode prog_1_method_19_code 53 = .ok (.getfield 54, 3) := by decide +kernel
theorem dd_60_56 : decode prog_1_method_19_code 56 = .ok (.getfield 155, 3) := by decide +kernel
theorem dd_60_59 : decode prog_1_method_19_code 59 = .ok (.ireturn, 1) := by decide +kernel
theorem dd_60_60 : decode prog_1_method_19_code 60 = .ok (.aload_n 0, 1) := by decide +kernel
theorem dd_60_61 : decode prog_1_method_19_code 61 = .ok (.getfield 54, 3) := by decide +kernel
theorem dd_60_64 : decode prog_1_method_19_code 64 = .ok (.getfield 158, 3) := by decide +kernel
theorem dd_60_67 : decode prog_1_method_19_code 67 = .ok (.ireturn, 1) := by decide +kernel
theorem dd_60_68 : decode prog_1_method_19_code 68 = .ok (.aload_n 0, 1) := by decide +kernel
theorem dd_60_69 : decode prog_1_method_19_code 69 = .ok (.getfield 54, 3) := by decide +kernel
theorem dd_60_72 : decode prog_1_method_19_code 72 = .ok (.getfield 161, 3) := by decide +kernel
theorem dd_60_75 : decode prog_1_method_19_code 75 = .ok (.ifCond .eq 7, 3) := by decide +kernel
theorem dd_60_78 : decode prog_1_method_19_code 78 = .ok (.iconst 1, 1) := by decide +kernel
theorem dd_60_79 : decode prog_1_method_19_code 79 = .ok (.goto 4, 3) := by decide +kernel
theorem dd_60_82 : decode prog_1_method_19_code 82 = .ok (.iconst 0, 1) := by decide +kernel
theorem dd_60_83 : decode prog_1_method_19_code 83 = .ok (.ireturn, 1) := by decide +kernel
theorem dd_60_84 : decode prog_1_method_19_code 84 = .ok (.iconst (-1), 1) := by decide +kernel
theorem dd_60_85 : decode prog_1_method_19_code 85 = .ok (.ireturn, 1) := by decide +kernel
theorem ks_60_0 : mi_snd cs_G cs_cl cs_inf 60 0 (mj_iload 1 1) := ms_iload_n (mi_dec ib_60 dd_60_0) rfl
theorem ks_60_1 : mi_snd cs_G cs_cl cs_inf 60 1 (mj_sw (mi_tab 0 [36, 44, 52, 60, 68] 84)) := ms_table (mi_dec ib_60 dd_60_1) (by decide) (by decide) (by decide)
theorem ks_60_36 : mi_snd cs_G cs_cl cs_inf 60 36 (mj_aload 0 37) := ms_aload_n (mi_dec ib_60 dd_60_36) rfl
theorem ks_60_37 : mi_snd cs_G cs_cl cs_inf 60 37 (mj_get 0 6 40) := ms_get (T := cs_T0) (k := 6) (mi_dec ib_60 dd_60_37) rfl cs_in0 (by decide) gw_237
theorem ks_60_40 : mi_snd cs_G cs_cl cs_inf 60 40 (mj_get 6 4 43) := ms_getN (T := cs_T6) (k := 4) (mi_dec ib_60 dd_60_40) rfl cs_in6 (by decide) gw_148
theorem ks_60_43 : mi_snd cs_G cs_cl cs_inf 60 43 (mj_iret) := ms_iret (mi_dec ib_60 dd_60_43) rfl
theorem ks_60_44 : mi_snd cs_G cs_cl cs_inf 60 44 (mj_aload 0 45) := ms_aload_n (mi_dec ib_60 dd_60_44) rfl
theorem ks_60_45 : mi_snd cs_G cs_cl cs_inf 60 45 (mj_get 0 6 48) := ms_get (T := cs_T0) (k := 6) (mi_dec ib_60 dd_60_45) rfl cs_in0 (by decide) gw_237
theorem ks_60_48 : mi_snd cs_G cs_cl cs_inf 60 48 (mj_get 6 5 51) := ms_getN (T := cs_T6) (k := 5) (mi_dec ib_60 dd_60_48) rfl cs_in6 (by decide) gw_150
theorem ks_60_51 : mi_snd cs_G cs_cl cs_inf 60 51 (mj_iret) := ms_iret (mi_dec ib_60 dd_60_51) rfl
theorem ks_60_52 : mi_snd cs_G cs_cl cs_inf 60 52 (mj_aload 0 53) := ms_aload_n (mi_dec ib_60 dd_60_52) rfl
theorem ks_60_53 : mi_snd cs_G cs_cl cs_inf 60 53 (mj_get 0 6 56) := ms_get (T := cs_T0) (k := 6) (mi_dec ib_60 dd_60_53) rfl cs_in0 (by decide) gw_237
theorem ks_60_56 : mi_snd cs_G cs_cl cs_inf 60 56 (mj_get 6 6 59) := ms_getN (T := cs_T6) (k := 6) (mi_dec ib_60 dd_60_56) rfl cs_in6 (by decide) gw_152
theorem ks_60_59 : mi_snd cs_G cs_cl cs_inf 60 59 (mj_iret) := ms_iret (mi_dec ib_60 dd_60_59) rfl
theorem ks_60_60 : mi_snd cs_G cs_cl cs_inf 60 60 (mj_aload 0 61) := ms_aload_n (mi_dec ib_60 dd_60_60) rfl
theorem ks_60_61 : mi_snd cs_G cs_cl cs_inf 60 61 (mj_get 0 6 64) := ms_get (T := cs_T0) (k := 6) (mi_dec ib_60 dd_60_61) rfl cs_in0 (by decide) gw_237
theorem ks_60_64 : mi_snd cs_G cs_cl cs_inf 60 64 (mj_get 6 7 67) := ms_getN (T := cs_T6) (k := 7) (mi_dec ib_60 dd_60_64) rfl cs_in6 (by decide) gw_154
theorem ks_60_67 : mi_snd cs_G cs_cl cs_inf 60 67 (mj_iret) := ms_iret (mi_dec ib_60 dd_60_67) rfl
theorem ks_60_68 : mi_snd cs_G cs_cl cs_inf 60 68 (mj_aload 0 69) := ms_aload_n (mi_dec ib_60 dd_60_68) rfl
theorem ks_60_69 : mi_snd cs_G cs_cl cs_inf 60 69 (mj_get 0 6 72) := ms_get (T := cs_T0) (k := 6) (mi_dec ib_60 dd_60_69) rfl cs_in0 (by decide) gw_237
theorem ks_60_72 : mi_snd cs_G cs_cl cs_inf 60 72 (mj_get 6 8 75) := ms_getN (T := cs_T6) (k := 8) (mi_dec ib_60 dd_60_72) rfl cs_in6 (by decide) gw_156
theorem ks_60_75 : mi_snd cs_G cs_cl cs_inf 60 75 (mj_if (fun x => decide (x = 0)) 82 78) := ms_if_eq (mi_dec ib_60 dd_60_75) (by decide)
theorem ks_60_78 : mi_snd cs_G cs_cl cs_inf 60 78 (mj_push (.inl 1) 79) := ms_iconst (mi_dec ib_60 dd_60_78) (by decide)
theorem ks_60_79 : mi_snd cs_G cs_cl cs_inf 60 79 (mj_goto 83) := ms_goto (mi_dec ib_60 dd_60_79) (by decide)
theorem ks_60_82 : mi_snd cs_G cs_cl cs_inf 60 82 (mj_push (.inl 0) 83) := ms_iconst (mi_dec ib_60 dd_60_82) (by decide)
theorem ks_60_83 : mi_snd cs_G cs_cl cs_inf 60 83 (mj_iret) := ms_iret (mi_dec ib_60 dd_60_83) rfl
theorem ks_60_84 : mi_snd cs_G cs_cl cs_inf 60 84 (mj_push (.inl (-1)) 85) := ms_iconst (mi_dec ib_60 dd_60_84) (by decide)
theorem ks_60_85 : mi_snd cs_G cs_cl cs_inf 60 85 (mj_iret) := ms_iret (mi_dec ib_60 dd_60_85) rfl
def ct_60 : List (Nat × mi_I) := [
  (0, mj_iload 1 1),
  (1, mj_sw (mi_tab 0 [36, 44, 52, 60, 68] 84)),
  (36, mj_aload 0 37),
  (37, mj_get 0 6 40),
  (40, mj_get 6 4 43),
  (43, mj_iret),
  (44, mj_aload 0 45),
  (45, mj_get 0 6 48),
  (48, mj_get 6 5 51),
  (51, mj_iret),
  (52, mj_aload 0 53),
  (53, mj_get 0 6 56),
  (56, mj_get 6 6 59),
  (59, mj_iret),
  (60, mj_aload 0 61),
  (61, mj_get 0 6 64),
  (64, mj_get 6 7 67),
  (67, mj_iret),
  (68, mj_aload 0 69),
  (69, mj_get 0 6 72),
  (72, mj_get 6 8 75),
  (75, mj_if (fun x => decide (x = 0)) 82 78),
  (78, mj_push (.inl 1) 79),
  (79, mj_goto 83),
  (82, mj_push (.inl 0) 83),
  (83, mj_iret),
  (84, mj_push (.inl (-1)) 85),
  (85, mj_iret)]
theorem sd_60 : ∀ q ∈ ct_60, mi_snd cs_G cs_cl cs_inf 60 q.1 q.2 := mi_fc ks_60_0 (mi_fc ks_60_1 (mi_fc ks_60_36 (mi_fc ks_60_37 (mi_fc ks_60_40 (mi_fc ks_60_43 (mi_fc ks_60_44 (mi_fc ks_60_45 (mi_fc ks_60_48 (mi_fc ks_60_51 (mi_fc ks_60_52 (mi_fc ks_60_53 (mi_fc ks_60_56 (mi_fc ks_60_59 (mi_fc ks_60_60 (mi_fc ks_60_61 (mi_fc ks_60_64 (mi_fc ks_60_67 (mi_fc ks_60_68 (mi_fc ks_60_69 (mi_fc ks_60_72 (mi_fc ks_60_75 (mi_fc ks_60_78 (mi_fc ks_60_79 (mi_fc ks_60_82 (mi_fc ks_60_83 (mi_fc ks_60_84 (mi_fc ks_60_85 mi_fn)))))))))))))))))))))))))))
theorem dd_61_0 : decode prog_1_method_20_code 0 = .ok (.iload_n 1, 1) := by decide +kernel
theorem dd_61_1 : decode prog_1_method_20_code 1 = .ok (.ifCond .lt 20, 3) := by decide +kernel
theorem dd_61_4 : decode prog_1_method_20_code 4 = .ok (.iload_n 1, 1) := by decide +kernel
theorem dd_61_5 : decode prog_1_method_20_code 5 = .ok (.bipush 16, 2) := by decide +kernel
theorem dd_61_7 : decode prog_1_method_20_code 7 = .ok (.if_icmp .gt 14, 3) := by decide +kernel
theorem dd_61_10 : decode prog_1_method_20_code 10 = .ok (.aload_n 0, 1) := by decide +kernel
theorem dd_61_11 : decode prog_1_method_20_code 11 = .ok (.getfield 61, 3) := by decide +kernel
theorem dd_61_14 : decode prog_1_method_20_code 14 = .ok (.iload_n 1, 1) := by decide +kernel
theorem dd_61_15 : decode prog_1_method_20_code 15 = .ok (.invokevirtual 165, 3) := by decide +kernel
theorem dd_61_18 : decode prog_1_method_20_code 18 = .ok (.goto 4, 3) := by decide +kernel
theorem dd_61_21 : decode prog_1_method_20_code 21 = .ok (.iconst (-1), 1) := by decide +kernel
theorem dd_61_22 : decode prog_1_method_20_code 22 = .ok (.ireturn, 1) := by decide +kernel
theorem ks_61_0 : mi_snd cs_G cs_cl cs_inf 61 0 (mj_iload 1 1) := ms_iload_n (mi_dec ib_61 dd_61_0) rfl
theorem ks_61_1 : mi_snd cs_G cs_cl cs_inf 61 1 (mj_if (fun x => decide (x < 0)) 21 4) := ms_if_lt (mi_dec ib_61 dd_61_1) (by decide)
theorem ks_61_4 : mi_snd cs_G cs_cl cs_inf 61 4 (mj_iload 1 5) := ms_iload_n (mi_dec ib_61 dd_61_4) rfl
theorem ks_61_5 : mi_snd cs_G cs_cl cs_inf 61 5 (mj_push (.inl 16) 7) := ms_bipush (mi_dec ib_61 dd_61_5) (by decide)
theorem ks_61_7 : mi_snd cs_G cs_cl cs_inf 61 7 (mj_cmp (fun x y => decide (y < x)) 21 10) := ms_icmp_gt (mi_dec ib_61 dd_61_7) (by decide)
theorem ks_61_10 : mi_snd cs_G cs_cl cs_inf 61 10 (mj_aload 0 11) := ms_aload_n (mi_dec ib_61 dd_61_10) rfl
theorem ks_61_11 : mi_snd cs_G cs_cl cs_inf 61 11 (mj_get 0 7 14) := ms_get (T := cs_T0) (k := 7) (mi_dec ib_61 dd_61_11) rfl cs_in0 (by decide) gw_238
theorem ks_61_14 : mi_snd cs_G cs_cl cs_inf 61 14 (mj_iload 1 15) := ms_iload_n (mi_dec ib_61 dd_61_14) rfl
theorem ks_61_15 : mi_snd cs_G cs_cl cs_inf 61 15 (mj_callV 7 62 1 4 18) := ms_callVN iw_c62 (mi_dec ib_61 dd_61_15) gw_536 iw_i62 rfl iw_v62 iw_n62 (by decide +kernel) rfl (by decide)
theorem ks_61_18 : mi_snd cs_G cs_cl cs_inf 61 18 (mj_goto 22) := ms_goto (mi_dec ib_61 dd_61_18) (by decide)
theorem ks_61_21 : mi_snd cs_G cs_cl cs_inf 61 21 (mj_push (.inl (-1)) 22) := ms_iconst (mi_dec ib_61 dd_61_21) (by decide)
theorem ks_61_22 : mi_snd cs_G cs_cl cs_inf 61 22 (mj_iret) := ms_iret (mi_dec ib_61 dd_61_22) rfl
def ct_61 : List (Nat × mi_I) := [
  (0, mj_iload 1 1),
  (1, mj_if (fun x => decide (x < 0)) 21 4),
  (4, mj_iload 1 5),
  (5, mj_push (.inl 16) 7),
  (7, mj_cmp (fun x y => decide (y < x)) 21 10),
  (10, mj_aload 0 11),
  (11, mj_get 0 7 14),
  (14, mj_iload 1 15),
  (15, mj_callV 7 62 1 4 18),
  (18, mj_goto 22),
  (21, mj_push (.inl (-1)) 22),
  (22, mj_iret)]
theorem sd_61 : ∀ q ∈ ct_61, mi_snd cs_G cs_cl cs_inf 61 q.1 q.2 := mi_fc ks_61_0 (mi_fc ks_61_1 (mi_fc ks_61_4 (mi_fc ks_61_5 (mi_fc ks_61_7 (mi_fc ks_61_10 (mi_fc ks_61_11 (mi_fc ks_61_14 (mi_fc ks_61_15 (mi_fc ks_61_18 (mi_fc ks_61_21 (mi_fc ks_61_22 mi_fn)))))))))))
theorem dd_62_0 : decode prog_9_method_2_code 0 = .ok (.aload_n 0, 1) := by decide +kernel
theorem dd_62_1 : decode prog_9_method_2_code 1 = .ok (.aload_n 0, 1) := by decide +kernel
theorem dd_62_2 : decode prog_9_method_2_code 2 = .ok (.getfield 9, 3) := by decide +kernel
theorem dd_62_5 : decode prog_9_method_2_code 5 = .ok (.invokevirtual 15, 3) := by decide +kernel
theorem dd_62_8 : decode prog_9_method_2_code 8 = .ok (.putfield 21, 3) := by decide +kernel
theorem dd_62_11 : decode prog_9_method_2_code 11 = .ok (.aload_n 0, 1) := by decide +kernel
theorem dd_62_12 : decode prog_9_method_2_code 12 = .ok (.iconst 0, 1) := by decide +kernel
theorem dd_62_13 : decode prog_9_method_2_code 13 = .ok (.putfield 25, 3) := by decide +kernel
theorem dd_62_16 : decode prog_9_method_2_code 16 = .ok (.aload_n 0, 1) := by decide +kernel
theorem dd_62_17 : decode prog_9_method_2_code 17 = .ok (.iload_n 1, 1) := by decide +kernel
theorem dd_62_18 : decode prog_9_method_2_code 18 = .ok (.putfield 28, 3) := by decide +kernel
theorem dd_62_21 : decode prog_9_method_2_code 21 = .ok (.iconst 1, 1) := by decide +kernel
theorem dd_62_22 : decode prog_9_method_2_code 22 = .ok (.istore_n 2, 1) := by decide +kernel
theorem dd_62_23 : decode prog_9_method_2_code 23 = .ok (.iconst 0, 1) := by decide +kernel
theorem dd_62_24 : decode prog_9_method_2_code 24 = .ok (.istore_n 3, 1) := by decide +kernel
theorem dd_62_25 : decode prog_9_method_2_code 25 = .ok (.iload_n 3, 1) := by decide +kernel
theorem dd_62_26 : decode prog_9_method_2_code 26 = .ok (.bipush 16, 2) := by decide +kernel
theorem dd_62_28 : decode prog_9_method_2_code 28 = .ok (.if_icmp .gt 25, 3) := by decide +kernel
theorem dd_62_31 : decode prog_9_method_2_code 31 = .ok (.iload_n 2, 1) := by decide +kernel
theorem dd_62_32 : decode prog_9_method_2_code 32 = .ok (.ifCond .eq 21, 3) := by decide +kernel
theorem dd_62_35 : decode prog_9_method_2_code 35 = .ok (.aload_n 0, 1) := by decide +kernel
theorem dd_62_36 : decode prog_9_method_2_code 36 = .ok (.getfield 28, 3) := by decide +kernel
theorem dd_62_39 : decode prog_9_method_2_code 39 = .ok (.ifCond .lt 14, 3) := by decide +kernel
theorem dd_62_42 : decode prog_9_method_2_code 42 = .ok (.aload_n 0, 1) := by decide +kernel
theorem dd_62_43 : decode prog_9_method_2_code 43 = .ok (.invokevirtual 31, 3) := by decide +kernel
theorem dd_62_46 : decode prog_9_method_2_code 46 = .ok (.istore_n 2, 1) := by decide +kernel
theorem dd_62_47 : decode prog_9_method_2_code 47 = .ok (.iinc 3 1, 3) := by decide +kernel
theorem dd_62_50 : decode prog_9_method_2_code 50 = .ok (.goto (-25), 3) := by decide +kernel
theorem dd_62_53 : decode prog_9_method_2_code 53 = .ok (.aload_n 0, 1) := by decide +kernel
theorem dd_62_54 : decode prog_9_method_2_code 54 = .ok (.getfield 28, 3) := by decide +kernel
theorem dd_62_57 : decode prog_9_method_2_code 57 = .ok (.ifCond .lt 26, 3) := by decide +kernel
theorem dd_62_60 : decode prog_9_method_2_code 60 = .ok (.aload_n 0, 1) := by decide +kernel
theorem dd_62_61 : decode prog_9_method_2_code 61 = .ok (.getfield 9, 3) := by decide +kernel
theorem dd_62_64 : decode prog_9_method_2_code 64 = .ok (.aload_n 0, 1) := by decide +kernel
theorem dd_62_65 : decode prog_9_method_2_code 65 = .ok (.getfield 21, 3) := by decide +kernel
theorem dd_62_68 : decode prog_9_method_2_code 68 = .ok (.invokevirtual 35, 3) := by decide +kernel
theorem dd_62_71 : decode prog_9_method_2_code 71 = .ok (.aload_n 0, 1) := by decide +kernel
theorem dd_62_72 : decode prog_9_method_2_code 72 = .ok (.getfield 28, 3) := by decide +kernel
theorem dd_62_75 : decode prog_9_method_2_code 75 = .ok (.aload_n 0, 1) := by decide +kernel
theorem dd_62_76 : decode prog_9_method_2_code 76 = .ok (.getfield 28, 3) := by decide +kernel
theorem dd_62_79 : decode prog_9_method_2_code 79 = .ok (.imul, 1) := by decide +kernel
theorem dd_62_80 : decode prog_9_method_2_code 80 = .ok (.if_icmp .le 6, 3) := by decide +kernel
theorem dd_62_83 : decode prog_9_method_2_code 83 = .ok (.bipush (-2), 2) := by decide +kernel
theorem dd_62_85 : decode prog_9_method_2_code 85 = .ok (.ireturn, 1) := by decide +kernel
theorem dd_62_86 : decode prog_9_method_2_code 86 = .ok (.aload_n 0, 1) := by decide +kernel
theorem dd_62_87 : decode prog_9_method_2_code 87 = .ok (.aload_n 0, 1) := by decide +kernel
theorem dd_62_88 : decode prog_9_method_2_code 88 = .ok (.getfield 25, 3) := by decide +kernel
theorem dd_62_91 : decode prog_9_method_2_code 91 = .ok (.putfield 39, 3) := by decide +kernel
theorem dd_62_94 : decode prog_9_method_2_code 94 = .ok (.aload_n 0, 1) := by decide +kernel
theorem dd_62_95 : decode prog_9_method_2_code 95 = .ok (.aload_n 0, 1) := by decide +kernel
theorem dd_62_96 : decode prog_9_method_2_code 96 = .ok (.getfield 28, 3) := by decide +kernel
theorem dd_62_99 : decode prog_9_method_2_code 99 = .ok (.putfield 42, 3) := by decide +kernel
theorem dd_62_102 : decode prog_9_method_2_code 102 = .ok (.aload_n 0, 1) := by decide +kernel
theorem dd_62_103 : decode prog_9_method_2_code 103 = .ok (.getfield 21, 3) := by decide +kernel
theorem dd_62_106 : decode prog_9_method_2_code 106 = .ok (.ireturn, 1) := by decide +kernel
theorem ks_62_0 : mi_snd cs_G cs_cl cs_inf 62 0 (mj_aload 0 1) := ms_aload_n (mi_dec ib_62 dd_62_0) rfl
theorem ks_62_1 : mi_snd cs_G cs_cl cs_inf 62 1 (mj_aload 0 2) := ms_aload_n (mi_dec ib_62 dd_62_1) rfl
theorem ks_62_2 : mi_snd cs_G cs_cl cs_inf 62 2 (mj_get 7 0 5) := ms_get (T := cs_T7) (k := 0) (mi_dec ib_62 dd_62_2) rfl cs_in7 (by decide) gw_182
theorem ks_62_5 : mi_snd cs_G cs_cl cs_inf 62 5 (mj_callV 1 15 0 1 8) := ms_callVN iw_c15 (mi_dec ib_62 dd_62_5) gw_540 iw_i15 rfl iw_v15 iw_n15 (by decide +kernel) rfl (by decide)
theorem ks_62_8 : mi_snd cs_G cs_cl cs_inf 62 8 (mj_putI 7 1 11) := ms_putI (T := cs_T7) (k := 1) (mi_dec ib_62 dd_62_8) rfl cs_in7 cs_ty7_ok cs_nm7 (by decide) gw_183 (by decide) (by decide +kernel)
theorem ks_62_11 : mi_snd cs_G cs_cl cs_inf 62 11 (mj_aload 0 12) := ms_aload_n (mi_dec ib_62 dd_62_11) rfl
theorem ks_62_12 : mi_snd cs_G cs_cl cs_inf 62 12 (mj_push (.inl 0) 13) := ms_iconst (mi_dec ib_62 dd_62_12) (by decide)
theorem ks_62_13 : mi_snd cs_G cs_cl cs_inf 62 13 (mj_putI 7 2 16) := ms_putI (T := cs_T7) (k := 2) (mi_dec ib_62 dd_62_13) rfl cs_in7 cs_ty7_ok cs_nm7 (by decide) gw_184 (by decide) (by decide +kernel)
theorem ks_62_16 : mi_snd cs_G cs_cl cs_inf 62 16 (mj_aload 0 17) := ms_aload_n (mi_dec ib_62 dd_62_16) rfl
theorem ks_62_17 : mi_snd cs_G cs_cl cs_inf 62 17 (mj_iload 1 18) := ms_iload_n (mi_dec ib_62 dd_62_17) rfl
theorem ks_62_18 : mi_snd cs_G cs_cl cs_inf 62 18 (mj_putI 7 3 21) := ms_putI (T := cs_T7) (k := 3) (mi_dec ib_62 dd_62_18) rfl cs_in7 cs_ty7_ok cs_nm7 (by decide) gw_185 (by decide) (by decide +kernel)
theorem ks_62_21 : mi_snd cs_G cs_cl cs_inf 62 21 (mj_push (.inl 1) 22) := ms_iconst (mi_dec ib_62 dd_62_21) (by decide)
theorem ks_62_22 : mi_snd cs_G cs_cl cs_inf 62 22 (mj_istore 2 23) := ms_istore_n (mi_dec ib_62 dd_62_22) rfl
theorem ks_62_23 : mi_snd cs_G cs_cl cs_inf 62 23 (mj_push (.inl 0) 24) := ms_iconst (mi_dec ib_62 dd_62_23) (by decide)
theorem ks_62_24 : mi_snd cs_G cs_cl cs_inf 62 24 (mj_istore 3 25) := ms_istore_n (mi_dec ib_62 dd_62_24) rfl
theorem ks_62_25 : mi_snd cs_G cs_cl cs_inf 62 25 (mj_iload 3 26) := ms_iload_n (mi_dec ib_62 dd_62_25) rfl
theorem ks_62_26 : mi_snd cs_G cs_cl cs_inf 62 26 (mj_push (.inl 16) 28) := ms_bipush (mi_dec ib_62 dd_62_26) (by decide)
theorem ks_62_28 : mi_snd cs_G cs_cl cs_inf 62 28 (mj_cmp (fun x y => decide (y < x)) 53 31) := ms_icmp_gt (mi_dec ib_62 dd_62_28) (by decide)
theorem ks_62_31 : mi_snd cs_G cs_cl cs_inf 62 31 (mj_iload 2 32) := ms_iload_n (mi_dec ib_62 dd_62_31) rfl
theorem ks_62_32 : mi_snd cs_G cs_cl cs_inf 62 32 (mj_if (fun x => decide (x = 0)) 53 35) := ms_if_eq (mi_dec ib_62 dd_62_32) (by decide)
theorem ks_62_35 : mi_snd cs_G cs_cl cs_inf 62 35 (mj_aload 0 36) := ms_aload_n (mi_dec ib_62 dd_62_35) rfl
theorem ks_62_36 : mi_snd cs_G cs_cl cs_inf 62 36 (mj_get 7 3 39) := ms_get (T := cs_T7) (k := 3) (mi_dec ib_62 dd_62_36) rfl cs_in7 (by decide) gw_185
theorem ks_62_39 : mi_snd cs_G cs_cl cs_inf 62 39 (mj_if (fun x => decide (x < 0)) 53 42) := ms_if_lt (mi_dec ib_62 dd_62_39) (by decide)
theorem ks_62_42 : mi_snd cs_G cs_cl cs_inf 62 42 (mj_aload 0 43) := ms_aload_n (mi_dec ib_62 dd_62_42) rfl
theorem ks_62_43 : mi_snd cs_G cs_cl cs_inf 62 43 (mj_callV 7 63 0 4 46) := ms_callV iw_c63 (mi_dec ib_62 dd_62_43) gw_541 iw_i63 rfl iw_v63 iw_n63 (by decide +kernel) rfl (by decide)
theorem ks_62_46 : mi_snd cs_G cs_cl cs_inf 62 46 (mj_istore 2 47) := ms_istore_n (mi_dec ib_62 dd_62_46) rfl
theorem ks_62_47 : mi_snd cs_G cs_cl cs_inf 62 47 (mj_iinc 3 1 50) := ms_iinc (mi_dec ib_62 dd_62_47) (by decide)
theorem ks_62_50 : mi_snd cs_G cs_cl cs_inf 62 50 (mj_goto 25) := ms_goto (mi_dec ib_62 dd_62_50) (by decide)
theorem ks_62_53 : mi_snd cs_G cs_cl cs_inf 62 53 (mj_aload 0 54) := ms_aload_n (mi_dec ib_62 dd_62_53) rfl
theorem ks_62_54 : mi_snd cs_G cs_cl cs_inf 62 54 (mj_get 7 3 57) := ms_get (T := cs_T7) (k := 3) (mi_dec ib_62 dd_62_54) rfl cs_in7 (by decide) gw_185
theorem ks_62_57 : mi_snd cs_G cs_cl cs_inf 62 57 (mj_if (fun x => decide (x < 0)) 83 60) := ms_if_lt (mi_dec ib_62 dd_62_57) (by decide)
theorem ks_62_60 : mi_snd cs_G cs_cl cs_inf 62 60 (mj_aload 0 61) := ms_aload_n (mi_dec ib_62 dd_62_60) rfl
theorem ks_62_61 : mi_snd cs_G cs_cl cs_inf 62 61 (mj_get 7 0 64) := ms_get (T := cs_T7) (k := 0) (mi_dec ib_62 dd_62_61) rfl cs_in7 (by decide) gw_182
theorem ks_62_64 : mi_snd cs_G cs_cl cs_inf 62 64 (mj_aload 0 65) := ms_aload_n (mi_dec ib_62 dd_62_64) rfl
theorem ks_62_65 : mi_snd cs_G cs_cl cs_inf 62 65 (mj_get 7 1 68) := ms_get (T := cs_T7) (k := 1) (mi_dec ib_62 dd_62_65) rfl cs_in7 (by decide) gw_183
theorem ks_62_68 : mi_snd cs_G cs_cl cs_inf 62 68 (mj_callV 1 66 1 4 71) := ms_callVN iw_c66 (mi_dec ib_62 dd_62_68) gw_556 iw_i66 rfl iw_v66 iw_n66 (by decide +kernel) rfl (by decide)
theorem ks_62_71 : mi_snd cs_G cs_cl cs_inf 62 71 (mj_aload 0 72) := ms_aload_n (mi_dec ib_62 dd_62_71) rfl
theorem ks_62_72 : mi_snd cs_G cs_cl cs_inf 62 72 (mj_get 7 3 75) := ms_get (T := cs_T7) (k := 3) (mi_dec ib_62 dd_62_72) rfl cs_in7 (by decide) gw_185
theorem ks_62_75 : mi_snd cs_G cs_cl cs_inf 62 75 (mj_aload 0 76) := ms_aload_n (mi_dec ib_62 dd_62_75) rfl
theorem ks_62_76 : mi_snd cs_G cs_cl cs_inf 62 76 (mj_get 7 3 79) := ms_get (T := cs_T7) (k := 3) (mi_dec ib_62 dd_62_76) rfl cs_in7 (by decide) gw_185
theorem ks_62_79 : mi_snd cs_G cs_cl cs_inf 62 79 (mj_bin (fun x y => x * y) 80) := ms_imul (mi_dec ib_62 dd_62_79)
theorem ks_62_80 : mi_snd cs_G cs_cl cs_inf 62 80 (mj_cmp (fun x y => decide (x ≤ y)) 86 83) := ms_icmp_le (mi_dec ib_62 dd_62_80) (by decide)
theorem ks_62_83 : mi_snd cs_G cs_cl cs_inf 62 83 (mj_push (.inl (-2)) 85) := ms_bipush (mi_dec ib_62 dd_62_83) (by decide)
theorem ks_62_85 : mi_snd cs_G cs_cl cs_inf 62 85 (mj_iret) := ms_iret (mi_dec ib_62 dd_62_85) rfl
theorem ks_62_86 : mi_snd cs_G cs_cl cs_inf 62 86 (mj_aload 0 87) := ms_aload_n (mi_dec ib_62 dd_62_86) rfl
theorem ks_62_87 : mi_snd cs_G cs_cl cs_inf 62 87 (mj_aload 0 88) := ms_aload_n (mi_dec ib_62 dd_62_87) rfl
theorem ks_62_88 : mi_snd cs_G cs_cl cs_inf 62 88 (mj_get 7 2 91) := ms_get (T := cs_T7) (k := 2) (mi_dec ib_62 dd_62_88) rfl cs_in7 (by decide) gw_184
theorem ks_62_91 : mi_snd cs_G cs_cl cs_inf 62 91 (mj_putI 7 4 94) := ms_putI (T := cs_T7) (k := 4) (mi_dec ib_62 dd_62_91) rfl cs_in7 cs_ty7_ok cs_nm7 (by decide) gw_186 (by decide) (by decide +kernel)
theorem ks_62_94 : mi_snd cs_G cs_cl cs_inf 62 94 (mj_aload 0 95) := ms_aload_n (mi_dec ib_62 dd_62_94) rfl
theorem ks_62_95 : mi_snd cs_G cs_cl cs_inf 62 95 (mj_aload 0 96) := ms_aload_n (mi_dec ib_62 dd_62_95) rfl
theorem ks_62_96 : mi_snd cs_G cs_cl cs_inf 62 96 (mj_get 7 3 99) := ms_get (T := cs_T7) (k := 3) (mi_dec ib_62 dd_62_96) rfl cs_in7 (by decide) gw_185
theorem ks_62_99 : mi_snd cs_G cs_cl cs_inf 62 99 (mj_putI 7 5 102) := ms_putI (T := cs_T7) (k := 5) (mi_dec ib_62 dd_62_99) rfl cs_in7 cs_ty7_ok cs_nm7 (by decide) gw_188 (by decide) (by decide +kernel)
theorem ks_62_102 : mi_snd cs_G cs_cl cs_inf 62 102 (mj_aload 0 103) := ms_aload_n (mi_dec ib_62 dd_62_102) rfl
theorem ks_62_103 : mi_snd cs_G cs_cl cs_inf 62 103 (mj_get 7 1 106) := ms_get (T := cs_T7) (k := 1) (mi_dec ib_62 dd_62_103) rfl cs_in7 (by decide) gw_183
theorem ks_62_106 : mi_snd cs_G cs_cl cs_inf 62 106 (mj_iret) := ms_iret (mi_dec ib_62 dd_62_106) rfl
def ct_62 : List (Nat × mi_I) := [
  (0, mj_aload 0 1),
  (1, mj_aload 0 2),
  (2, mj_get 7 0 5),
  (5, mj_callV 1 15 0 1 8),
  (8, mj_putI 7 1 11),
  (11, mj_aload 0 12),
  (12, mj_push (.inl 0) 13),
  (13, mj_putI 7 2 16),
  (16, mj_aload 0 17),
  (17, mj_iload 1 18),
  (18, mj_putI 7 3 21),
  (21, mj_push (.inl 1) 22),
  (22, mj_istore 2 23),
  (23, mj_push (.inl 0) 24),
  (24, mj_istore 3 25),
  (25, mj_iload 3 26),
  (26, mj_push (.inl 16) 28),
  (28, mj_cmp (fun x y => decide (y < x)) 53 31),
  (31, mj_iload 2 32),
  (32, mj_if (fun x => decide (x = 0)) 53 35),
  (35, mj_aload 0 36),
  (36, mj_get 7 3 39),
  (39, mj_if (fun x => decide (x < 0)) 53 42),
  (42, mj_aload 0 43),
  (43, mj_callV 7 63 0 4 46),
  (46, mj_istore 2 47),
  (47, mj_iinc 3 1 50),
  (50, mj_goto 25),
  (53, mj_aload 0 54),
  (54, mj_get 7 3 57),
  (57, mj_if (fun x => decide (x < 0)) 83 60),
  (60, mj_aload 0 61),
  (61, mj_get 7 0 64),
  (64, mj_aload 0 65),
  (65, mj_get 7 1 68),
  (68, mj_callV 1 66 1 4 71),
  (71, mj_aload 0 72),
  (72, mj_get 7 3 75),
  (75, mj_aload 0 76),
  (76, mj_get 7 3 79),
  (79, mj_bin (fun x y => x * y) 80),
  (80, mj_cmp (fun x y => decide (x ≤ y)) 86 83),
  (83, mj_push (.inl (-2)) 85),
  (85, mj_iret),
  (86, mj_aload 0 87),
  (87, mj_aload 0 88),
  (88, mj_get 7 2 91),
  (91, mj_putI 7 4 94),
  (94, mj_aload 0 95),
  (95, mj_aload 0 96),
  (96, mj_get 7 3 99),
  (99, mj_putI 7 5 102),
  (102, mj_aload 0 103),
  (103, mj_get 7 1 106),
  (106, mj_iret)]
theorem sd_62 : ∀ q ∈ ct_62, mi_snd cs_G cs_cl cs_inf 62 q.1 q.2 := mi_fc ks_62_0 (mi_fc ks_62_1 (mi_fc ks_62_2 (mi_fc ks_62_5 (mi_fc ks_62_8 (mi_fc ks_62_11 (mi_fc ks_62_12 (mi_fc ks_62_13 (mi_fc ks_62_16 (mi_fc ks_62_17 (mi_fc ks_62_18 (mi_fc ks_62_21 (mi_fc ks_62_22 (mi_fc ks_62_23 (mi_fc ks_62_24 (mi_fc ks_62_25 (mi_fc ks_62_26 (mi_fc ks_62_28 (mi_fc ks_62_31 (mi_fc ks_62_32 (mi_fc ks_62_35 (mi_fc ks_62_36 (mi_fc ks_62_39 (mi_fc ks_62_42 (mi_fc ks_62_43 (mi_fc ks_62_46 (mi_fc ks_62_47 (mi_fc ks_62_50 (mi_fc ks_62_53 (mi_fc ks_62_54 (mi_fc ks_62_57 (mi_fc ks_62_60 (mi_fc ks_62_61 (mi_fc ks_62_64 (mi_fc ks_62_65 (mi_fc ks_62_68 (mi_fc ks_62_71 (mi_fc ks_62_72 (mi_fc ks_62_75 (mi_fc ks_62_76 (mi_fc ks_62_79 (mi_fc ks_62_80 (mi_fc ks_62_83 (mi_fc ks_62_85 (mi_fc ks_62_86 (mi_fc ks_62_87 (mi_fc ks_62_88 (mi_fc ks_62_91 (mi_fc ks_62_94 (mi_fc ks_62_95 (mi_fc ks_62_96 (mi_fc ks_62_99 (mi_fc ks_62_102 (mi_fc ks_62_103 (mi_fc ks_62_106 mi_fn))))))))))))))))))))))))))))))))))))))))))))))))))))))
theorem dd_63_0 : decode prog_9_method_3_code 0 = .ok (.aload_n 0, 1) := by decide +kernel
theorem dd_63_1 : decode prog_9_method_3_code 1 = .ok (.iconst 0, 1) := by decide +kernel
theorem dd_63_2 : decode prog_9_method_3_code 2 = .ok (.iconst 0, 1) := by decide +kernel
theorem dd_63_3 : decode prog_9_method_3_code 3 = .ok (.invokevirtual 45, 3) := by decide +kernel
theorem dd_63_6 : decode prog_9_method_3_code 6 = .ok (.istore_n 1, 1) := by decide +kernel
theorem dd_63_7 : decode prog_9_method_3_code 7 = .ok (.iload_n 1, 1) := by decide +kernel
theorem dd_63_8 : decode prog_9_method_3_code 8 = .ok (.ifCond .lt 19, 3) := by decide +kernel
theorem dd_63_11 : decode prog_9_method_3_code 11 = .ok (.aload_n 0, 1) := by decide +kernel
theorem dd_63_12 : decode prog_9_method_3_code 12 = .ok (.dup, 1) := by decide +kernel
theorem dd_63_13 : decode prog_9_method_3_code 13 = .ok (.getfield 21, 3) := by decide +kernel
theorem dd_63_16 : decode prog_9_method_3_code 16 = .ok (.iconst 1, 1) := by decide +kernel
theorem dd_63_17 : decode prog_9_method_3_code 17 = .ok (.iload_n 1, 1) := by decide +kernel
theorem dd_63_18 : decode prog_9_method_3_code 18 = .ok (.ishl, 1) := by decide +kernel
theorem dd_63_19 : decode prog_9_method_3_code 19 = .ok (.iconst (-1), 1) := by decide +kernel
theorem dd_63_20 : decode prog_9_method_3_code 20 = .ok (.ixor, 1) := by decide +kernel
theorem dd_63_21 : decode prog_9_method_3_code 21 = .ok (.iand, 1) := by decide +kernel
theorem dd_63_22 : decode prog_9_method_3_code 22 = .ok (.putfield 21, 3) := by decide +kernel
theorem dd_63_25 : decode prog_9_method_3_code 25 = .ok (.iconst 1, 1) := by decide +kernel
theorem dd_63_26 : decode prog_9_method_3_code 26 = .ok (.ireturn, 1) := by decide +kernel
theorem dd_63_27 : decode prog_9_method_3_code 27 = .ok (.aload_n 0, 1) := by decide +kernel
theorem dd_63_28 : decode prog_9_method_3_code 28 = .ok (.aload_n 0, 1) := by decide +kernel
theorem dd_63_29 : decode prog_9_method_3_code 29 = .ok (.getfield 28, 3) := by decide +kernel
theorem dd_63_32 : decode prog_9_method_3_code 32 = .ok (.iconst 1, 1) := by decide +kernel
theorem dd_63_33 : decode prog_9_method_3_code 33 = .ok (.iadd, 1) := by decide +kernel
theorem dd_63_34 : decode prog_9_method_3_code 34 = .ok (.bipush 16, 2) := by decide +kernel
theorem dd_63_36 : decode prog_9_method_3_code 36 = .ok (.invokevirtual 45, 3) := by decide +kernel
theorem dd_63_39 : decode prog_9_method_3_code 39 = .ok (.istore_n 2, 1) := by decide +kernel
theorem dd_63_40 : decode prog_9_method_3_code 40 = .ok (.iload_n 2, 1) := by decide +kernel
theorem dd_63_41 : decode prog_9_method_3_code 41 = .ok (.ifCond .lt 12, 3) := by decide +kernel
theorem dd_63_44 : decode prog_9_method_3_code 44 = .ok (.aload_n 0, 1) := by decide +kernel
theorem dd_63_45 : decode prog_9_method_3_code 45 = .ok (.iconst 1, 1) := by decide +kernel
theorem dd_63_46 : decode prog_9_method_3_code 46 = .ok (.iload_n 2, 1) := by decide +kernel
theorem dd_63_47 : decode prog_9_method_3_code 47 = .ok (.ishl, 1) := by decide +kernel
theorem dd_63_48 : decode prog_9_method_3_code 48 = .ok (.invokevirtual 49, 3) := by decide +kernel
theorem dd_63_51 : decode prog_9_method_3_code 51 = .ok (.iconst 1, 1) := by decide +kernel
theorem dd_63_52 : decode prog_9_method_3_code 52 = .ok (.ireturn, 1) := by decide +kernel
theorem dd_63_53 : decode prog_9_method_3_code 53 = .ok (.aload_n 0, 1) := by decide +kernel
theorem dd_63_54 : decode prog_9_method_3_code 54 = .ok (.iconst 1, 1) := by decide +kernel
theorem dd_63_55 : decode prog_9_method_3_code 55 = .ok (.iconst 1, 1) := by decide +kernel
theorem dd_63_56 : decode prog_9_method_3_code 56 = .ok (.invokevirtual 45, 3) := by decide +kernel
theorem dd_63_59 : decode prog_9_method_3_code 59 = .ok (.istore_n 3, 1) := by decide +kernel
theorem dd_63_60 : decode prog_9_method_3_code 60 = .ok (.iload_n 3, 1) := by decide +kernel
theorem dd_63_61 : decode prog_9_method_3_code 61 = .ok (.ifCond .lt 22, 3) := by decide +kernel
theorem dd_63_64 : decode prog_9_method_3_code 64 = .ok (.aload_n 0, 1) := by decide +kernel
theorem dd_63_65 : decode prog_9_method_3_code 65 = .ok (.aload_n 0, 1) := by decide +kernel
theorem dd_63_66 : decode prog_9_method_3_code 66 = .ok (.getfield 9, 3) := by decide +kernel
theorem dd_63_69 : decode prog_9_method_3_code 69 = .ok (.iload_n 3, 1) := by decide +kernel
theorem dd_63_70 : decode prog_9_method_3_code 70 = .ok (.invokevirtual 53, 3) := by decide +kernel
theorem dd_63_73 : decode prog_9_method_3_code 73 = .ok (.aload_n 0, 1) := by decide +kernel
theorem dd_63_74 : decode prog_9_method_3_code 74 = .ok (.getfield 21, 3) := by decide +kernel
theorem dd_63_77 : decode prog_9_method_3_code 77 = .ok (.iand, 1) := by decide +kernel
theorem dd_63_78 : decode prog_9_method_3_code 78 = .ok (.invokevirtual 49, 3) := by decide +kernel
theorem dd_63_81 : decode prog_9_method_3_code 81 = .ok (.iconst 1, 1) := by decide +kernel
theorem dd_63_82 : decode prog_9_method_3_code 82 = .ok (.ireturn, 1) := by decide +kernel
theorem dd_63_83 : decode prog_9_method_3_code 83 = .ok (.iconst 0, 1) := by decide +kernel
theorem dd_63_84 : decode prog_9_method_3_code 84 = .ok (.ireturn, 1) := by decide +kernel
theorem ks_63_0 : mi_snd cs_G cs_cl cs_inf 63 0 (mj_aload 0 1) := ms_aload_n (mi_dec ib_63 dd_63_0) rfl
theorem ks_63_1 : mi_snd cs_G cs_cl cs_inf 63 1 (mj_push (.inl 0) 2) := ms_iconst (mi_dec ib_63 dd_63_1) (by decide)
theorem ks_63_2 : mi_snd cs_G cs_cl cs_inf 63 2 (mj_push (.inl 0) 3) := ms_iconst (mi_dec ib_63 dd_63_2) (by decide)
theorem ks_63_3 : mi_snd cs_G cs_cl cs_inf 63 3 (mj_callV 7 64 2 5 6) := ms_callV iw_c64 (mi_dec ib_63 dd_63_3) gw_545 iw_i64 rfl iw_v64 iw_n64 (by decide +kernel) rfl (by decide)
theorem ks_63_6 : mi_snd cs_G cs_cl cs_inf 63 6 (mj_istore 1 7) := ms_istore_n (mi_dec ib_63 dd_63_6) rfl
theorem ks_63_7 : mi_snd cs_G cs_cl cs_inf 63 7 (mj_iload 1 8) := ms_iload_n (mi_dec ib_63 dd_63_7) rfl
theorem ks_63_8 : mi_snd cs_G cs_cl cs_inf 63 8 (mj_if (fun x => decide (x < 0)) 27 11) := ms_if_lt (mi_dec ib_63 dd_63_8) (by decide)
theorem ks_63_11 : mi_snd cs_G cs_cl cs_inf 63 11 (mj_aload 0 12) := ms_aload_n (mi_dec ib_63 dd_63_11) rfl
theorem ks_63_12 : mi_snd cs_G cs_cl cs_inf 63 12 (mj_dup 13) := ms_dup (mi_dec ib_63 dd_63_12)
theorem ks_63_13 : mi_snd cs_G cs_cl cs_inf 63 13 (mj_get 7 1 16) := ms_get (T := cs_T7) (k := 1) (mi_dec ib_63 dd_63_13) rfl cs_in7 (by decide) gw_183
theorem ks_63_16 : mi_snd cs_G cs_cl cs_inf 63 16 (mj_push (.inl 1) 17) := ms_iconst (mi_dec ib_63 dd_63_16) (by decide)
theorem ks_63_17 : mi_snd cs_G cs_cl cs_inf 63 17 (mj_iload 1 18) := ms_iload_n (mi_dec ib_63 dd_63_17) rfl
theorem ks_63_18 : mi_snd cs_G cs_cl cs_inf 63 18 (mj_bin (fun x y => x <<< (y &&& 31)) 19) := ms_ishl (mi_dec ib_63 dd_63_18)
theorem ks_63_19 : mi_snd cs_G cs_cl cs_inf 63 19 (mj_push (.inl (-1)) 20) := ms_iconst (mi_dec ib_63 dd_63_19) (by decide)
theorem ks_63_20 : mi_snd cs_G cs_cl cs_inf 63 20 (mj_bin (fun x y => x ^^^ y) 21) := ms_ixor (mi_dec ib_63 dd_63_20)
theorem ks_63_21 : mi_snd cs_G cs_cl cs_inf 63 21 (mj_bin (fun x y => x &&& y) 22) := ms_iand (mi_dec ib_63 dd_63_21)
theorem ks_63_22 : mi_snd cs_G cs_cl cs_inf 63 22 (mj_putI 7 1 25) := ms_putI (T := cs_T7) (k := 1) (mi_dec ib_63 dd_63_22) rfl cs_in7 cs_ty7_ok cs_nm7 (by decide) gw_183 (by decide) (by decide +kernel)
theorem ks_63_25 : mi_snd cs_G cs_cl cs_inf 63 25 (mj_push (.inl 1) 26) := ms_iconst (mi_dec ib_63 dd_63_25) (by decide)
theorem ks_63_26 : mi_snd cs_G cs_cl cs_inf 63 26 (mj_zret) := ms_zret (mi_dec ib_63 dd_63_26) rfl
theorem ks_63_27 : mi_snd cs_G cs_cl cs_inf 63 27 (mj_aload 0 28) := ms_aload_n (mi_dec ib_63 dd_63_27) rfl
theorem ks_63_28 : mi_snd cs_G cs_cl cs_inf 63 28 (mj_aload 0 29) := ms_aload_n (mi_dec ib_63 dd_63_28) rfl
theorem ks_63_29 : mi_snd cs_G cs_cl cs_inf 63 29 (mj_get 7 3 32) := ms_get (T := cs_T7) (k := 3) (mi_dec ib_63 dd_63_29) rfl cs_in7 (by decide) gw_185
theorem ks_63_32 : mi_snd cs_G cs_cl cs_inf 63 32 (mj_push (.inl 1) 33) := ms_iconst (mi_dec ib_63 dd_63_32) (by decide)
theorem ks_63_33 : mi_snd cs_G cs_cl cs_inf 63 33 (mj_bin (fun x y => x + y) 34) := ms_iadd (mi_dec ib_63 dd_63_33)
theorem ks_63_34 : mi_snd cs_G cs_cl cs_inf 63 34 (mj_push (.inl 16) 36) := ms_bipush (mi_dec ib_63 dd_63_34) (by decide)
theorem ks_63_36 : mi_snd cs_G cs_cl cs_inf 63 36 (mj_callV 7 64 2 5 39) := ms_callV iw_c64 (mi_dec ib_63 dd_63_36) gw_545 iw_i64 rfl iw_v64 iw_n64 (by decide +kernel) rfl (by decide)
theorem ks_63_39 : mi_snd cs_G cs_cl cs_inf 63 39 (mj_istore 2 40) := ms_istore_n (mi_dec ib_63 dd_63_39) rfl
theorem ks_63_40 : mi_snd cs_G cs_cl cs_inf 63 40 (mj_iload 2 41) := ms_iload_n (mi_dec ib_63 dd_63_40) rfl
theorem ks_63_41 : mi_snd cs_G cs_cl cs_inf 63 41 (mj_if (fun x => decide (x < 0)) 53 44) := ms_if_lt (mi_dec ib_63 dd_63_41) (by decide)
theorem ks_63_44 : mi_snd cs_G cs_cl cs_inf 63 44 (mj_aload 0 45) := ms_aload_n (mi_dec ib_63 dd_63_44) rfl
theorem ks_63_45 : mi_snd cs_G cs_cl cs_inf 63 45 (mj_push (.inl 1) 46) := ms_iconst (mi_dec ib_63 dd_63_45) (by decide)
theorem ks_63_46 : mi_snd cs_G cs_cl cs_inf 63 46 (mj_iload 2 47) := ms_iload_n (mi_dec ib_63 dd_63_46) rfl
theorem ks_63_47 : mi_snd cs_G cs_cl cs_inf 63 47 (mj_bin (fun x y => x <<< (y &&& 31)) 48) := ms_ishl (mi_dec ib_63 dd_63_47)
theorem ks_63_48 : mi_snd cs_G cs_cl cs_inf 63 48 (mj_callV 7 65 1 2 51) := ms_callV iw_c65 (mi_dec ib_63 dd_63_48) gw_551 iw_i65 rfl iw_v65 iw_n65 (by decide +kernel) rfl (by decide)
theorem ks_63_51 : mi_snd cs_G cs_cl cs_inf 63 51 (mj_push (.inl 1) 52) := ms_iconst (mi_dec ib_63 dd_63_51) (by decide)
theorem ks_63_52 : mi_snd cs_G cs_cl cs_inf 63 52 (mj_zret) := ms_zret (mi_dec ib_63 dd_63_52) rfl
theorem ks_63_53 : mi_snd cs_G cs_cl cs_inf 63 53 (mj_aload 0 54) := ms_aload_n (mi_dec ib_63 dd_63_53) rfl
theorem ks_63_54 : mi_snd cs_G cs_cl cs_inf 63 54 (mj_push (.inl 1) 55) := ms_iconst (mi_dec ib_63 dd_63_54) (by decide)
theorem ks_63_55 : mi_snd cs_G cs_cl cs_inf 63 55 (mj_push (.inl 1) 56) := ms_iconst (mi_dec ib_63 dd_63_55) (by decide)
theorem ks_63_56 : mi_snd cs_G cs_cl cs_inf 63 56 (mj_callV 7 64 2 5 59) := ms_callV iw_c64 (mi_dec ib_63 dd_63_56) gw_545 iw_i64 rfl iw_v64 iw_n64 (by decide +kernel) rfl (by decide)
theorem ks_63_59 : mi_snd cs_G cs_cl cs_inf 63 59 (mj_istore 3 60) := ms_istore_n (mi_dec ib_63 dd_63_59) rfl
theorem ks_63_60 : mi_snd cs_G cs_cl cs_inf 63 60 (mj_iload 3 61) := ms_iload_n (mi_dec ib_63 dd_63_60) rfl
theorem ks_63_61 : mi_snd cs_G cs_cl cs_inf 63 61 (mj_if (fun x => decide (x < 0)) 83 64) := ms_if_lt (mi_dec ib_63 dd_63_61) (by decide)
theorem ks_63_64 : mi_snd cs_G cs_cl cs_inf 63 64 (mj_aload 0 65) := ms_aload_n (mi_dec ib_63 dd_63_64) rfl
theorem ks_63_65 : mi_snd cs_G cs_cl cs_inf 63 65 (mj_aload 0 66) := ms_aload_n (mi_dec ib_63 dd_63_65) rfl
theorem ks_63_66 : mi_snd cs_G cs_cl cs_inf 63 66 (mj_get 7 0 69) := ms_get (T := cs_T7) (k := 0) (mi_dec ib_63 dd_63_66) rfl cs_in7 (by decide) gw_182
theorem ks_63_69 : mi_snd cs_G cs_cl cs_inf 63 69 (mj_iload 3 70) := ms_iload_n (mi_dec ib_63 dd_63_69) rfl
theorem ks_63_70 : mi_snd cs_G cs_cl cs_inf 63 70 (mj_callV 1 6 1 2 73) := ms_callVN iw_c6 (mi_dec ib_63 dd_63_70) gw_555 iw_i6 rfl iw_v6 iw_n6 (by decide +kernel) rfl (by decide)
theorem ks_63_73 : mi_snd cs_G cs_cl cs_inf 63 73 (mj_aload 0 74) := ms_aload_n (mi_dec ib_63 dd_63_73) rfl
theorem ks_63_74 : mi_snd cs_G cs_cl cs_inf 63 74 (mj_get 7 1 77) := ms_get (T := cs_T7) (k := 1) (mi_dec ib_63 dd_63_74) rfl cs_in7 (by decide) gw_183
theorem ks_63_77 : mi_snd cs_G cs_cl cs_inf 63 77 (mj_bin (fun x y => x &&& y) 78) := ms_iand (mi_dec ib_63 dd_63_77)
theorem ks_63_78 : mi_snd cs_G cs_cl cs_inf 63 78 (mj_callV 7 65 1 2 81) := ms_callV iw_c65 (mi_dec ib_63 dd_63_78) gw_551 iw_i65 rfl iw_v65 iw_n65 (by decide +kernel) rfl (by decide)
theorem ks_63_81 : mi_snd cs_G cs_cl cs_inf 63 81 (mj_push (.inl 1) 82) := ms_iconst (mi_dec ib_63 dd_63_81) (by decide)
theorem ks_63_82 : mi_snd cs_G cs_cl cs_inf 63 82 (mj_zret) := ms_zret (mi_dec ib_63 dd_63_82) rfl
theorem ks_63_83 : mi_snd cs_G cs_cl cs_inf 63 83 (mj_push (.inl 0) 84) := ms_iconst (mi_dec ib_63 dd_63_83) (by decide)
theorem ks_63_84 : mi_snd cs_G cs_cl cs_inf 63 84 (mj_zret) := ms_zret (mi_dec ib_63 dd_63_84) rfl
def ct_63 : List (Nat × mi_I) := [
  (0, mj_aload 0 1),
  (1, mj_push (.inl 0) 2),
  (2, mj_push (.inl 0) 3),
  (3, mj_callV 7 64 2 5 6),
  (6, mj_istore 1 7),
  (7, mj_iload 1 8),
  (8, mj_if (fun x => decide (x < 0)) 27 11),
  (11, mj_aload 0 12),
  (12, mj_dup 13),
  (13, mj_get 7 1 16),
  (16, mj_push (.inl 1) 17),
  (17, mj_iload 1 18),
  (18, mj_bin (fun x y => x <<< (y &&& 31)) 19),
  (19, mj_push (.inl (-1)) 20),
  (20, mj_bin (fun x y => x ^^^ y) 21),
  (21, mj_bin (fun x y => x &&& y) 22),
  (22, mj_putI 7 1 25),
  (25, mj_push (.inl 1) 26),
  (26, mj_zret),
  (27, mj_aload 0 28),
  (28, mj_aload 0 29),
  (29, mj_get 7 3 32),
  (32, mj_push (.inl 1) 33),
  (33, mj_bin (fun x y => x + y) 34),
  (34, mj_push (.inl 16) 36),
  (36, mj_callV 7 64 2 5 39),
  (39, mj_istore 2 40),
  (40, mj_iload 2 41),
  (41, mj_if (fun x => decide (x < 0)) 53 44),
  (44, mj_aload 0 45),
  (45, mj_push (.inl 1) 46),
  (46, mj_iload 2 47),
  (47, mj_bin (fun x y => x <<< (y &&& 31)) 48),
  (48, mj_callV 7 65 1 2 51),
  (51, mj_push (.inl 1) 52),
  (52, mj_zret),
  (53, mj_aload 0 54),
  (54, mj_push (.inl 1) 55),
  (55, mj_push (.inl 1) 56),
  (56, mj_callV 7 64 2 5 59),
  (59, mj_istore 3 60),
  (60, mj_iload 3 61),
  (61, mj_if (fun x => decide (x < 0)) 83 64),
  (64, mj_aload 0 65),
  (65, mj_aload 0 66),
  (66, mj_get 7 0 69),
  (69, mj_iload 3 70),
  (70, mj_callV 1 6 1 2 73),
  (73, mj_aload 0 74),
  (74, mj_get 7 1 77),
  (77, mj_bin (fun x y => x &&& y) 78),
  (78, mj_callV 7 65 1 2 81),
  (81, mj_push (.inl 1) 82),
  (82, mj_zret),
  (83, mj_push (.inl 0) 84),
  (84, mj_zret)]
theorem sd_63 : ∀ q ∈ ct_63, mi_snd cs_G cs_cl cs_inf 63 q.1 q.2 := mi_fc ks_63_0 (mi_fc ks_63_1 (mi_fc ks_63_2 (mi_fc ks_63_3 (mi_fc ks_63_6 (mi_fc ks_63_7 (mi_fc ks_63_8 (mi_fc ks_63_11 (mi_fc ks_63_12 (mi_fc ks_63_13 (mi_fc ks_63_16 (mi_fc ks_63_17 (mi_fc ks_63_18 (mi_fc ks_63_19 (mi_fc ks_63_20 (mi_fc ks_63_21 (mi_fc ks_63_22 (mi_fc ks_63_25 (mi_fc ks_63_26 (mi_fc ks_63_27 (mi_fc ks_63_28 (mi_fc ks_63_29 (mi_fc ks_63_32 (mi_fc ks_63_33 (mi_fc ks_63_34 (mi_fc ks_63_36 (mi_fc ks_63_39 (mi_fc ks_63_40 (mi_fc ks_63_41 (mi_fc ks_63_44 (mi_fc ks_63_45 (mi_fc ks_63_46 (mi_fc ks_63_47 (mi_fc ks_63_48 (mi_fc ks_63_51 (mi_fc ks_63_52 (mi_fc ks_63_53 (mi_fc ks_63_54 (mi_fc ks_63_55 (mi_fc ks_63_56 (mi_fc ks_63_59 (mi_fc ks_63_60 (mi_fc ks_63_61 (mi_fc ks_63_64 (mi_fc ks_63_65 (mi_fc ks_63_66 (mi_fc ks_63_69 (mi_fc ks_63_70 (mi_fc ks_63_73 (mi_fc ks_63_74 (mi_fc ks_63_77 (mi_fc ks_63_78 (mi_fc ks_63_81 (mi_fc ks_63_82 (mi_fc ks_63_83 (mi_fc ks_63_84 mi_fn)))))))))))))))))))))))))))))))))))))))))))))))))))))))
theorem dd_64_0 : decode prog_9_method_4_code 0 = .ok (.iconst 0, 1) := by decide +kernel
theorem dd_64_1 : decode prog_9_method_4_code 1 = .ok (.istore_n 3, 1) := by decide +kernel
theorem dd_64_2 : decode prog_9_method_4_code 2 = .ok (.iload_n 3, 1) := by decide +kernel
theorem dd_64_3 : decode prog_9_method_4_code 3 = .ok (.bipush 16, 2) := by decide +kernel
theorem dd_64_5 : decode prog_9_method_4_code 5 = .ok (.if_icmp .ge 48, 3) := by decide +kernel
theorem dd_64_8 : decode prog_9_method_4_code 8 = .ok (.aload_n 0, 1) := by decide +kernel
theorem dd_64_9 : decode prog_9_method_4_code 9 = .ok (.getfield 9, 3) := by decide +kernel
theorem dd_64_12 : decode prog_9_method_4_code 12 = .ok (.iload_n 3, 1) := by decide +kernel
theorem dd_64_13 : decode prog_9_method_4_code 13 = .ok (.aload_n 0, 1) := by decide +kernel
theorem dd_64_14 : decode prog_9_method_4_code 14 = .ok (.getfield 21, 3) := by decide +kernel
theorem dd_64_17 : decode prog_9_method_4_code 17 = .ok (.invokevirtual 56, 3) := by decide +kernel
theorem dd_64_20 : decode prog_9_method_4_code 20 = .ok (.istore 4, 2) := by decide +kernel
theorem dd_64_22 : decode prog_9_method_4_code 22 = .ok (.aload_n 0, 1) := by decide +kernel
theorem dd_64_23 : decode prog_9_method_4_code 23 = .ok (.getfield 21, 3) := by decide +kernel
theorem dd_64_26 : decode prog_9_method_4_code 26 = .ok (.iload_n 3, 1) := by decide +kernel
theorem dd_64_27 : decode prog_9_method_4_code 27 = .ok (.invokestatic 59, 3) := by decide +kernel
theorem dd_64_30 : decode prog_9_method_4_code 30 = .ok (.ifCond .eq 17, 3) := by decide +kernel
theorem dd_64_33 : decode prog_9_method_4_code 33 = .ok (.iload 4, 2) := by decide +kernel
theorem dd_64_35 : decode prog_9_method_4_code 35 = .ok (.iload_n 1, 1) := by decide +kernel
theorem dd_64_36 : decode prog_9_method_4_code 36 = .ok (.if_icmp .lt 11, 3) := by decide +kernel
theorem dd_64_39 : decode prog_9_method_4_code 39 = .ok (.iload 4, 2) := by decide +kernel
theorem dd_64_41 : decode prog_9_method_4_code 41 = .ok (.iload_n 2, 1) := by decide +kernel
theorem dd_64_42 : decode prog_9_method_4_code 42 = .ok (.if_icmp .gt 5, 3) := by decide +kernel
theorem dd_64_45 : decode prog_9_method_4_code 45 = .ok (.iload_n 3, 1) := by decide +kernel
theorem dd_64_46 : decode prog_9_method_4_code 46 = .ok (.ireturn, 1) := by decide +kernel
theorem dd_64_47 : decode prog_9_method_4_code 47 = .ok (.iinc 3 1, 3) := by decide +kernel
theorem dd_64_50 : decode prog_9_method_4_code 50 = .ok (.goto (-48), 3) := by decide +kernel
theorem dd_64_53 : decode prog_9_method_4_code 53 = .ok (.iconst (-1), 1) := by decide +kernel
theorem dd_64_54 : decode prog_9_method_4_code 54 = .ok (.ireturn, 1) := by decide +kernel
theorem ks_64_0 : mi_snd cs_G cs_cl cs_inf 64 0 (mj_push (.inl 0) 1) := ms_iconst (mi_dec ib_64 dd_64_0) (by decide)
theorem ks_64_1 : mi_snd cs_G cs_cl cs_inf 64 1 (mj_istore 3 2) := ms_istore_n (mi_dec ib_64 dd_64_1) rfl
theorem ks_64_2 : mi_snd cs_G cs_cl cs_inf 64 2 (mj_iload 3 3) := ms_iload_n (mi_dec ib_64 dd_64_2) rfl
theorem ks_64_3 : mi_snd cs_G cs_cl cs_inf 64 3 (mj_push (.inl 16) 5) := ms_bipush (mi_dec ib_64 dd_64_3) (by decide)
theorem ks_64_5 : mi_snd cs_G cs_cl cs_inf 64 5 (mj_cmp (fun x y => decide (y ≤ x)) 53 8) := ms_icmp_ge (mi_dec ib_64 dd_64_5) (by decide)
theorem ks_64_8 : mi_snd cs_G cs_cl cs_inf 64 8 (mj_aload 0 9) := ms_aload_n (mi_dec ib_64 dd_64_8) rfl
theorem ks_64_9 : mi_snd cs_G cs_cl cs_inf 64 9 (mj_get 7 0 12) := ms_get (T := cs_T7) (k := 0) (mi_dec ib_64 dd_64_9) rfl cs_in7 (by decide) gw_182
theorem ks_64_12 : mi_snd cs_G cs_cl cs_inf 64 12 (mj_iload 3 13) := ms_iload_n (mi_dec ib_64 dd_64_12) rfl
theorem ks_64_13 : mi_snd cs_G cs_cl cs_inf 64 13 (mj_aload 0 14) := ms_aload_n (mi_dec ib_64 dd_64_13) rfl
theorem ks_64_14 : mi_snd cs_G cs_cl cs_inf 64 14 (mj_get 7 1 17) := ms_get (T := cs_T7) (k := 1) (mi_dec ib_64 dd_64_14) rfl cs_in7 (by decide) gw_183
theorem ks_64_17 : mi_snd cs_G cs_cl cs_inf 64 17 (mj_callV 1 33 2 3 20) := ms_callVN iw_c33 (mi_dec ib_64 dd_64_17) gw_549 iw_i33 rfl iw_v33 iw_n33 (by decide +kernel) rfl (by decide)
theorem ks_64_20 : mi_snd cs_G cs_cl cs_inf 64 20 (mj_istore 4 22) := ms_istore (mi_dec ib_64 dd_64_20)
theorem ks_64_22 : mi_snd cs_G cs_cl cs_inf 64 22 (mj_aload 0 23) := ms_aload_n (mi_dec ib_64 dd_64_22) rfl
theorem ks_64_23 : mi_snd cs_G cs_cl cs_inf 64 23 (mj_get 7 1 26) := ms_get (T := cs_T7) (k := 1) (mi_dec ib_64 dd_64_23) rfl cs_in7 (by decide) gw_183
theorem ks_64_26 : mi_snd cs_G cs_cl cs_inf 64 26 (mj_iload 3 27) := ms_iload_n (mi_dec ib_64 dd_64_26) rfl
theorem ks_64_27 : mi_snd cs_G cs_cl cs_inf 64 27 (mj_callS 7 2 2 30) := ms_callSN iw_c7 (mi_dec ib_64 dd_64_27) gw_550 iw_s7 iw_n7 (by decide +kernel) rfl (by decide)
theorem ks_64_30 : mi_snd cs_G cs_cl cs_inf 64 30 (mj_if (fun x => decide (x = 0)) 47 33) := ms_if_eq (mi_dec ib_64 dd_64_30) (by decide)
theorem ks_64_33 : mi_snd cs_G cs_cl cs_inf 64 33 (mj_iload 4 35) := ms_iload (mi_dec ib_64 dd_64_33)
theorem ks_64_35 : mi_snd cs_G cs_cl cs_inf 64 35 (mj_iload 1 36) := ms_iload_n (mi_dec ib_64 dd_64_35) rfl
theorem ks_64_36 : mi_snd cs_G cs_cl cs_inf 64 36 (mj_cmp (fun x y => decide (x < y)) 47 39) := ms_icmp_lt (mi_dec ib_64 dd_64_36) (by decide)
theorem ks_64_39 : mi_snd cs_G cs_cl cs_inf 64 39 (mj_iload 4 41) := ms_iload (mi_dec ib_64 dd_64_39)
theorem ks_64_41 : mi_snd cs_G cs_cl cs_inf 64 41 (mj_iload 2 42) := ms_iload_n (mi_dec ib_64 dd_64_41) rfl
theorem ks_64_42 : mi_snd cs_G cs_cl cs_inf 64 42 (mj_cmp (fun x y => decide (y < x)) 47 45) := ms_icmp_gt (mi_dec ib_64 dd_64_42) (by decide)
theorem ks_64_45 : mi_snd cs_G cs_cl cs_inf 64 45 (mj_iload 3 46) := ms_iload_n (mi_dec ib_64 dd_64_45) rfl
theorem ks_64_46 : mi_snd cs_G cs_cl cs_inf 64 46 (mj_iret) := ms_iret (mi_dec ib_64 dd_64_46) rfl
theorem ks_64_47 : mi_snd cs_G cs_cl cs_inf 64 47 (mj_iinc 3 1 50) := ms_iinc (mi_dec ib_64 dd_64_47) (by decide)
theorem ks_64_50 : mi_snd cs_G cs_cl cs_inf 64 50 (mj_goto 2) := ms_goto (mi_dec ib_64 dd_64_50) (by decide)
theorem ks_64_53 : mi_snd cs_G cs_cl cs_inf 64 53 (mj_push (.inl (-1)) 54) := ms_iconst (mi_dec ib_64 dd_64_53) (by decide)
theorem ks_64_54 : mi_snd cs_G cs_cl cs_inf 64 54 (mj_iret) := ms_iret (mi_dec ib_64 dd_64_54) rfl
def ct_64 : List (Nat × mi_I) := [
  (0, mj_push (.inl 0) 1),
  (1, mj_istore 3 2),
  (2, mj_iload 3 3),
  (3, mj_push (.inl 16) 5),
  (5, mj_cmp (fun x y => decide (y ≤ x)) 53 8),
  (8, mj_aload 0 9),
  (9, mj_get 7 0 12),
  (12, mj_iload 3 13),
  (13, mj_aload 0 14),
  (14, mj_get 7 1 17),
  (17, mj_callV 1 33 2 3 20),
  (20, mj_istore 4 22),
  (22, mj_aload 0 23),
  (23, mj_get 7 1 26),
  (26, mj_iload 3 27),
  (27, mj_callS 7 2 2 30),
  (30, mj_if (fun x => decide (x = 0)) 47 33),
  (33, mj_iload 4 35),
  (35, mj_iload 1 36),
  (36, mj_cmp (fun x y => decide (x < y)) 47 39),
  (39, mj_iload 4 41),
  (41, mj_iload 2 42),
  (42, mj_cmp (fun x y => decide (y < x)) 47 45),
  (45, mj_iload 3 46),
  (46, mj_iret),
  (47, mj_iinc 3 1 50),
  (50, mj_goto 2),
  (53, mj_push (.inl (-1)) 54),
  (54, mj_iret)]
theorem sd_64 : ∀ q ∈ ct_64, mi_snd cs_G cs_cl cs_inf 64 q.1 q.2 := mi_fc ks_64_0 (mi_fc ks_64_1 (mi_fc ks_64_2 (mi_fc ks_64_3 (mi_fc ks_64_5 (mi_fc ks_64_8 (mi_fc ks_64_9 (mi_fc ks_64_12 (mi_fc ks_64_13 (mi_fc ks_64_14 (mi_fc ks_64_17 (mi_fc ks_64_20 (mi_fc ks_64_22 (mi_fc ks_64_23 (mi_fc ks_64_26 (mi_fc ks_64_27 (mi_fc ks_64_30 (mi_fc ks_64_33 (mi_fc ks_64_35 (mi_fc ks_64_36 (mi_fc ks_64_39 (mi_fc ks_64_41 (mi_fc ks_64_42 (mi_fc ks_64_45 (mi_fc ks_64_46 (mi_fc ks_64_47 (mi_fc ks_64_50 (mi_fc ks_64_53 (mi_fc ks_64_54 mi_fn))))))))))))))))))))))))))))
theorem dd_65_0 : decode prog_9_method_5_code 0 = .ok (.aload_n 0, 1) := by decide +kernel
theorem dd_65_1 : decode prog_9_method_5_code 1 = .ok (.dup, 1) := by decide +kernel
theorem dd_65_2 : decode prog_9_method_5_code 2 = .ok (.getfield 25, 3) := by decide +kernel
theorem dd_65_5 : decode prog_9_method_5_code 5 = .ok (.iload_n 1, 1) := by decide +kernel
theorem dd_65_6 : decode prog_9_method_5_code 6 = .ok (.ior, 1) := by decide +kernel
theorem dd_65_7 : decode prog_9_method_5_code 7 = .ok (.putfield 25, 3) := by decide +kernel
theorem dd_65_10 : decode prog_9_method_5_code 10 = .ok (.aload_n 0, 1) := by decide +kernel
theorem dd_65_11 : decode prog_9_method_5_code 11 = .ok (.dup, 1) := by decide +kernel
theorem dd_65_12 : decode prog_9_method_5_code 12 = .ok (.getfield 21, 3) := by decide +kernel
theorem dd_65_15 : decode prog_9_method_5_code 15 = .ok (.iload_n 1, 1) := by decide +kernel
theorem dd_65_16 : decode prog_9_method_5_code 16 = .ok (.iconst (-1), 1) := by decide +kernel
theorem dd_65_17 : decode prog_9_method_5_code 17 = .ok (.ixor, 1) := by decide +kernel
theorem dd_65_18 : decode prog_9_method_5_code 18 = .ok (.iand, 1) := by decide +kernel
theorem dd_65_19 : decode prog_9_method_5_code 19 = .ok (.putfield 21, 3) := by decide +kernel
theorem dd_65_22 : decode prog_9_method_5_code 22 = .ok (.aload_n 0, 1) := by decide +kernel
theorem dd_65_23 : decode prog_9_method_5_code 23 = .ok (.dup, 1) := by decide +kernel
theorem dd_65_24 : decode prog_9_method_5_code 24 = .ok (.getfield 28, 3) := by decide +kernel
theorem dd_65_27 : decode prog_9_method_5_code 27 = .ok (.iconst 1, 1) := by decide +kernel
theorem dd_65_28 : decode prog_9_method_5_code 28 = .ok (.isub, 1) := by decide +kernel
theorem dd_65_29 : decode prog_9_method_5_code 29 = .ok (.putfield 28, 3) := by decide +kernel
theorem dd_65_32 : decode prog_9_method_5_code 32 = .ok (.return_, 1) := by decide +kernel
theorem ks_65_0 : mi_snd cs_G cs_cl cs_inf 65 0 (mj_aload 0 1) := ms_aload_n (mi_dec ib_65 dd_65_0) rfl
theorem ks_65_1 : mi_snd cs_G cs_cl cs_inf 65 1 (mj_dup 2) := ms_dup (mi_dec ib_65 dd_65_1)
theorem ks_65_2 : mi_snd cs_G cs_cl cs_inf 65 2 (mj_get 7 2 5) := ms_get (T := cs_T7) (k := 2) (mi_dec ib_65 dd_65_2) rfl cs_in7 (by decide) gw_184
theorem ks_65_5 : mi_snd cs_G cs_cl cs_inf 65 5 (mj_iload 1 6) := ms_iload_n (mi_dec ib_65 dd_65_5) rfl
theorem ks_65_6 : mi_snd cs_G cs_cl cs_inf 65 6 (mj_bin (fun x y => x ||| y) 7) := ms_ior (mi_dec ib_65 dd_65_6)
theorem ks_65_7 : mi_snd cs_G cs_cl cs_inf 65 7 (mj_putI 7 2 10) := ms_putI (T := cs_T7) (k := 2) (mi_dec ib_65 dd_65_7) rfl cs_in7 cs_ty7_ok cs_nm7 (by decide) gw_184 (by decide) (by decide +kernel)
theorem ks_65_10 : mi_snd cs_G cs_cl cs_inf 65 10 (mj_aload 0 11) := ms_aload_n (mi_dec ib_65 dd_65_10) rfl
theorem ks_65_11 : mi_snd cs_G cs_cl cs_inf 65 11 (mj_dup 12) := ms_dup (mi_dec ib_65 dd_65_11)
theorem ks_65_12 : mi_snd cs_G cs_cl cs_inf 65 12 (mj_get 7 1 15) := ms_get (T := cs_T7) (k := 1) (mi_dec ib_65 dd_65_12) rfl cs_in7 (by decide) gw_183
theorem ks_65_15 : mi_snd cs_G cs_cl cs_inf 65 15 (mj_iload 1 16) := ms_iload_n (mi_dec ib_65 dd_65_15) rfl
theorem ks_65_16 : mi_snd cs_G cs_cl cs_inf 65 16 (mj_push (.inl (-1)) 17) := ms_iconst (mi_dec ib_65 dd_65_16) (by decide)
theorem ks_65_17 : mi_snd cs_G cs_cl cs_inf 65 17 (mj_bin (fun x y => x ^^^ y) 18) := ms_ixor (mi_dec ib_65 dd_65_17)
theorem ks_65_18 : mi_snd cs_G cs_cl cs_inf 65 18 (mj_bin (fun x y => x &&& y) 19) := ms_iand (mi_dec ib_65 dd_65_18)
theorem ks_65_19 : mi_snd cs_G cs_cl cs_inf 65 19 (mj_putI 7 1 22) := ms_putI (T := cs_T7) (k := 1) (mi_dec ib_65 dd_65_19) rfl cs_in7 cs_ty7_ok cs_nm7 (by decide) gw_183 (by decide) (by decide +kernel)
theorem ks_65_22 : mi_snd cs_G cs_cl cs_inf 65 22 (mj_aload 0 23) := ms_aload_n (mi_dec ib_65 dd_65_22) rfl
theorem ks_65_23 : mi_snd cs_G cs_cl cs_inf 65 23 (mj_dup 24) := ms_dup (mi_dec ib_65 dd_65_23)
theorem ks_65_24 : mi_snd cs_G cs_cl cs_inf 65 24 (mj_get 7 3 27) := ms_get (T := cs_T7) (k := 3) (mi_dec ib_65 dd_65_24) rfl cs_in7 (by decide) gw_185
theorem ks_65_27 : mi_snd cs_G cs_cl cs_inf 65 27 (mj_push (.inl 1) 28) := ms_iconst (mi_dec ib_65 dd_65_27) (by decide)
theorem ks_65_28 : mi_snd cs_G cs_cl cs_inf 65 28 (mj_bin (fun x y => x - y) 29) := ms_isub (mi_dec ib_65 dd_65_28)
theorem ks_65_29 : mi_snd cs_G cs_cl cs_inf 65 29 (mj_putI 7 3 32) := ms_putI (T := cs_T7) (k := 3) (mi_dec ib_65 dd_65_29) rfl cs_in7 cs_ty7_ok cs_nm7 (by decide) gw_185 (by decide) (by decide +kernel)
theorem ks_65_32 : mi_snd cs_G cs_cl cs_inf 65 32 (mj_ret) := ms_ret (mi_dec ib_65 dd_65_32) rfl
def ct_65 : List (Nat × mi_I) := [
  (0, mj_aload 0 1),
  (1, mj_dup 2),
  (2, mj_get 7 2 5),
  (5, mj_iload 1 6),
  (6, mj_bin (fun x y => x ||| y) 7),
  (7, mj_putI 7 2 10),
  (10, mj_aload 0 11),
  (11, mj_dup 12),
  (12, mj_get 7 1 15),
  (15, mj_iload 1 16),
  (16, mj_push (.inl (-1)) 17),
  (17, mj_bin (fun x y => x ^^^ y) 18),
  (18, mj_bin (fun x y => x &&& y) 19),
  (19, mj_putI 7 1 22),
  (22, mj_aload 0 23),
  (23, mj_dup 24),
  (24, mj_get 7 3 27),
  (27, mj_push (.inl 1) 28),
  (28, mj_bin (fun x y => x - y) 29),
  (29, mj_putI 7 3 32),
  (32, mj_ret)]
theorem sd_65 : ∀ q ∈ ct_65, mi_snd cs_G cs_cl cs_inf 65 q.1 q.2 := mi_fc ks_65_0 (mi_fc ks_65_1 (mi_fc ks_65_2 (mi_fc ks_65_5 (mi_fc ks_65_6 (mi_fc ks_65_7 (mi_fc ks_65_10 (mi_fc ks_65_11 (mi_fc ks_65_12 (mi_fc ks_65_15 (mi_fc ks_65_16 (mi_fc ks_65_17 (mi_fc ks_65_18 (mi_fc ks_65_19 (mi_fc ks_65_22 (mi_fc ks_65_23 (mi_fc ks_65_24 (mi_fc ks_65_27 (mi_fc ks_65_28 (mi_fc ks_65_29 (mi_fc ks_65_32 mi_fn))))))))))))))))))))
theorem dd_66_0 : decode prog_5_method_12_code 0 = .ok (.iconst 0, 1) := by decide +kernel
theorem dd_66_1 : decode prog_5_method_12_code 1 = .ok (.istore_n 2, 1) := by decide +kernel
theorem dd_66_2 : decode prog_5_method_12_code 2 = .ok (.iconst 0, 1) := by decide +kernel
theorem dd_66_3 : decode prog_5_method_12_code 3 = .ok (.istore_n 3, 1) := by decide +kernel
theorem dd_66_4 : decode prog_5_method_12_code 4 = .ok (.iload_n 3, 1) := by decide +kernel
theorem dd_66_5 : decode prog_5_method_12_code 5 = .ok (.aload_n 0, 1) := by decide +kernel
theorem dd_66_6 : decode prog_5_method_12_code 6 = .ok (.getfield 18, 3) := by decide +kernel
theorem dd_66_9 : decode prog_5_method_12_code 9 = .ok (.if_icmp .ge 30, 3) := by decide +kernel
theorem dd_66_12 : decode prog_5_method_12_code 12 = .ok (.iload_n 2, 1) := by decide +kernel
theorem dd_66_13 : decode prog_5_method_12_code 13 = .ok (.iload_n 1, 1) := by decide +kernel
theorem dd_66_14 : decode prog_5_method_12_code 14 = .ok (.iload_n 3, 1) := by decide +kernel
theorem dd_66_15 : decode prog_5_method_12_code 15 = .ok (.invokestatic 46, 3) := by decide +kernel
theorem dd_66_18 : decode prog_5_method_12_code 18 = .ok (.ifCond .eq 12, 3) := by decide +kernel
theorem dd_66_21 : decode prog_5_method_12_code 21 = .ok (.aload_n 0, 1) := by decide +kernel
theorem dd_66_22 : decode prog_5_method_12_code 22 = .ok (.iload_n 3, 1) := by decide +kernel
theorem dd_66_23 : decode prog_5_method_12_code 23 = .ok (.iload_n 1, 1) := by decide +kernel
theorem dd_66_24 : decode prog_5_method_12_code 24 = .ok (.invokevirtual 50, 3) := by decide +kernel
theorem dd_66_27 : decode prog_5_method_12_code 27 = .ok (.goto 4, 3) := by decide +kernel
theorem dd_66_30 : decode prog_5_method_12_code 30 = .ok (.iconst 0, 1) := by decide +kernel
theorem dd_66_31 : decode prog_5_method_12_code 31 = .ok (.iadd, 1) := by decide +kernel
theorem dd_66_32 : decode prog_5_method_12_code 32 = .ok (.istore_n 2, 1) := by decide +kernel
theorem dd_66_33 : decode prog_5_method_12_code 33 = .ok (.iinc 3 1, 3) := by decide +kernel
theorem dd_66_36 : decode prog_5_method_12_code 36 = .ok (.goto (-32), 3) := by decide +kernel
theorem dd_66_39 : decode prog_5_method_12_code 39 = .ok (.iload_n 2, 1) := by decide +kernel
theorem dd_66_40 : decode prog_5_method_12_code 40 = .ok (.iconst 2, 1) := by decide +kernel
theorem dd_66_41 : decode prog_5_method_12_code 41 = .ok (.idiv, 1) := by decide +kernel
theorem dd_66_42 : decode prog_5_method_12_code 42 = .ok (.ireturn, 1) := by decide +kernel
theorem ks_66_0 : mi_snd cs_G cs_cl cs_inf 66 0 (mj_push (.inl 0) 1) := ms_iconst (mi_dec ib_66 dd_66_0) (by decide)
theorem ks_66_1 : mi_snd cs_G cs_cl cs_inf 66 1 (mj_istore 2 2) := ms_istore_n (mi_dec ib_66 dd_66_1) rfl
theorem ks_66_2 : mi_snd cs_G cs_cl cs_inf 66 2 (mj_push (.inl 0) 3) := ms_iconst (mi_dec ib_66 dd_66_2) (by decide)
theorem ks_66_3 : mi_snd cs_G cs_cl cs_inf 66 3 (mj_istore 3 4) := ms_istore_n (mi_dec ib_66 dd_66_3) rfl
theorem ks_66_4 : mi_snd cs_G cs_cl cs_inf 66 4 (mj_iload 3 5) := ms_iload_n (mi_dec ib_66 dd_66_4) rfl
theorem ks_66_5 : mi_snd cs_G cs_cl cs_inf 66 5 (mj_aload 0 6) := ms_aload_n (mi_dec ib_66 dd_66_5) rfl
theorem ks_66_6 : mi_snd cs_G cs_cl cs_inf 66 6 (mj_get 1 0 9) := ms_get (T := cs_T1) (k := 0) (mi_dec ib_66 dd_66_6) rfl cs_in1 (by decide) gw_29
theorem ks_66_9 : mi_snd cs_G cs_cl cs_inf 66 9 (mj_cmp (fun x y => decide (y ≤ x)) 39 12) := ms_icmp_ge (mi_dec ib_66 dd_66_9) (by decide)
theorem ks_66_12 : mi_snd cs_G cs_cl cs_inf 66 12 (mj_iload 2 13) := ms_iload_n (mi_dec ib_66 dd_66_12) rfl
theorem ks_66_13 : mi_snd cs_G cs_cl cs_inf 66 13 (mj_iload 1 14) := ms_iload_n (mi_dec ib_66 dd_66_13) rfl
theorem ks_66_14 : mi_snd cs_G cs_cl cs_inf 66 14 (mj_iload 3 15) := ms_iload_n (mi_dec ib_66 dd_66_14) rfl
theorem ks_66_15 : mi_snd cs_G cs_cl cs_inf 66 15 (mj_callS 7 2 2 18) := ms_callSN iw_c7 (mi_dec ib_66 dd_66_15) gw_363 iw_s7 iw_n7 (by decide +kernel) rfl (by decide)
theorem ks_66_18 : mi_snd cs_G cs_cl cs_inf 66 18 (mj_if (fun x => decide (x = 0)) 30 21) := ms_if_eq (mi_dec ib_66 dd_66_18) (by decide)
theorem ks_66_21 : mi_snd cs_G cs_cl cs_inf 66 21 (mj_aload 0 22) := ms_aload_n (mi_dec ib_66 dd_66_21) rfl
theorem ks_66_22 : mi_snd cs_G cs_cl cs_inf 66 22 (mj_iload 3 23) := ms_iload_n (mi_dec ib_66 dd_66_22) rfl
theorem ks_66_23 : mi_snd cs_G cs_cl cs_inf 66 23 (mj_iload 1 24) := ms_iload_n (mi_dec ib_66 dd_66_23) rfl
theorem ks_66_24 : mi_snd cs_G cs_cl cs_inf 66 24 (mj_callV 1 33 2 3 27) := ms_callV iw_c33 (mi_dec ib_66 dd_66_24) gw_399 iw_i33 rfl iw_v33 iw_n33 (by decide +kernel) rfl (by decide)
theorem ks_66_27 : mi_snd cs_G cs_cl cs_inf 66 27 (mj_goto 31) := ms_goto (mi_dec ib_66 dd_66_27) (by decide)
theorem ks_66_30 : mi_snd cs_G cs_cl cs_inf 66 30 (mj_push (.inl 0) 31) := ms_iconst (mi_dec ib_66 dd_66_30) (by decide)
theorem ks_66_31 : mi_snd cs_G cs_cl cs_inf 66 31 (mj_bin (fun x y => x + y) 32) := ms_iadd (mi_dec ib_66 dd_66_31)
theorem ks_66_32 : mi_snd cs_G cs_cl cs_inf 66 32 (mj_istore 2 33) := ms_istore_n (mi_dec ib_66 dd_66_32) rfl
theorem ks_66_33 : mi_snd cs_G cs_cl cs_inf 66 33 (mj_iinc 3 1 36) := ms_iinc (mi_dec ib_66 dd_66_33) (by decide)
theorem ks_66_36 : mi_snd cs_G cs_cl cs_inf 66 36 (mj_goto 4) := ms_goto (mi_dec ib_66 dd_66_36) (by decide)
theorem ks_66_39 : mi_snd cs_G cs_cl cs_inf 66 39 (mj_iload 2 40) := ms_iload_n (mi_dec ib_66 dd_66_39) rfl
theorem ks_66_40 : mi_snd cs_G cs_cl cs_inf 66 40 (mj_push (.inl 2) 41) := ms_iconst (mi_dec ib_66 dd_66_40) (by decide)
theorem ks_66_41 : mi_snd cs_G cs_cl cs_inf 66 41 (mj_div 42) := ms_idiv (mi_dec ib_66 dd_66_41)
theorem ks_66_42 : mi_snd cs_G cs_cl cs_inf 66 42 (mj_iret) := ms_iret (mi_dec ib_66 dd_66_42) rfl
def ct_66 : List (Nat × mi_I) := [
  (0, mj_push (.inl 0) 1),
  (1, mj_istore 2 2),
  (2, mj_push (.inl 0) 3),
  (3, mj_istore 3 4),
  (4, mj_iload 3 5),
  (5, mj_aload 0 6),
  (6, mj_get 1 0 9),
  (9, mj_cmp (fun x y => decide (y ≤ x)) 39 12),
  (12, mj_iload 2 13),
  (13, mj_iload 1 14),
  (14, mj_iload 3 15),
  (15, mj_callS 7 2 2 18),
  (18, mj_if (fun x => decide (x = 0)) 30 21),
  (21, mj_aload 0 22),
  (22, mj_iload 3 23),
  (23, mj_iload 1 24),
  (24, mj_callV 1 33 2 3 27),
  (27, mj_goto 31),
  (30, mj_push (.inl 0) 31),
  (31, mj_bin (fun x y => x + y) 32),
  (32, mj_istore 2 33),
  (33, mj_iinc 3 1 36),
  (36, mj_goto 4),
  (39, mj_iload 2 40),
  (40, mj_push (.inl 2) 41),
  (41, mj_div 42),
  (42, mj_iret)]
theorem sd_66 : ∀ q ∈ ct_66, mi_snd cs_G cs_cl cs_inf 66 q.1 q.2 := mi_fc ks_66_0 (mi_fc ks_66_1 (mi_fc ks_66_2 (mi_fc ks_66_3 (mi_fc ks_66_4 (mi_fc ks_66_5 (mi_fc ks_66_6 (mi_fc ks_66_9 (mi_fc ks_66_12 (mi_fc ks_66_13 (mi_fc ks_66_14 (mi_fc ks_66_15 (mi_fc ks_66_18 (mi_fc ks_66_21 (mi_fc ks_66_22 (mi_fc ks_66_23 (mi_fc ks_66_24 (mi_fc ks_66_27 (mi_fc ks_66_30 (mi_fc ks_66_31 (mi_fc ks_66_32 (mi_fc ks_66_33 (mi_fc ks_66_36 (mi_fc ks_66_39 (mi_fc ks_66_40 (mi_fc ks_66_41 (mi_fc ks_66_42 mi_fn))))))))))))))))))))))))))
theorem dd_67_0 : decode prog_1_method_21_code 0 = .ok (.iload_n 1, 1) := by decide +kernel
theorem dd_67_1 : decode prog_1_method_21_code 1 = .ok (.lookupswitch 43 #[(0, 27), (1, 35)], 27) := by decide +kernel
theorem dd_67_28 : decode prog_1_method_21_code 28 = .ok (.aload_n 0, 1) := by decide +kernel
theorem dd_67_29 : decode prog_1_method_21_code 29 = .ok (.getfield 61, 3) := by decide +kernel
theorem dd_67_32 : decode prog_1_method_21_code 32 = .ok (.getfield 168, 3) := by decide +kernel
theorem dd_67_35 : decode prog_1_method_21_code 35 = .ok (.ireturn, 1) := by decide +kernel
theorem dd_67_36 : decode prog_1_method_21_code 36 = .ok (.aload_n 0, 1) := by decide +kernel
theorem dd_67_37 : decode prog_1_method_21_code 37 = .ok (.getfield 61, 3) := by decide +kernel
theorem dd_67_40 : decode prog_1_method_21_code 40 = .ok (.getfield 171, 3) := by decide +kernel
theorem dd_67_43 : decode prog_1_method_21_code 43 = .ok (.ireturn, 1) := by decide +kernel
theorem dd_67_44 : decode prog_1_method_21_code 44 = .ok (.iconst (-1), 1) := by decide +kernel
theorem dd_67_45 : decode prog_1_method_21_code 45 = .ok (.ireturn, 1) := by decide +kernel
theorem ks_67_0 : mi_snd cs_G cs_cl cs_inf 67 0 (mj_iload 1 1) := ms_iload_n (mi_dec ib_67 dd_67_0) rfl
theorem ks_67_1 : mi_snd cs_G cs_cl cs_inf 67 1 (mj_sw (fun x => if x = 0 then 28 else if x = 1 then 36 else 44)) := ms_look (mi_dec ib_67 dd_67_1) (by decide) (by
  intro x
  by_cases h0 : x = 0
  · subst h0
    decide +kernel
  by_cases h1 : x = 1
  · subst h1
    decide +kernel
  show ((1 : Nat) : Int) + Op.lookupswitch.offset [(0, 27), (1, 35)] 43 x.toInt = ((if x = 0 then 28 else if x = 1 then 36 else 44 : Nat) : Int)
  rw [lv_osw h0 (by decide), lv_osw h1 (by decide), if_neg h0, if_neg h1]
  rfl)
theorem ks_67_28 : mi_snd cs_G cs_cl cs_inf 67 28 (mj_aload 0 29) := ms_aload_n (mi_dec ib_67 dd_67_28) rfl
theorem ks_67_29 : mi_snd cs_G cs_cl cs_inf 67 29 (mj_get 0 7 32) := ms_get (T := cs_T0) (k := 7) (mi_dec ib_67 dd_67_29) rfl cs_in0 (by decide) gw_238
theorem ks_67_32 : mi_snd cs_G cs_cl cs_inf 67 32 (mj_get 7 4 35) := ms_getN (T := cs_T7) (k := 4) (mi_dec ib_67 dd_67_32) rfl cs_in7 (by decide) gw_187
theorem ks_67_35 : mi_snd cs_G cs_cl cs_inf 67 35 (mj_iret) := ms_iret (mi_dec ib_67 dd_67_35) rfl
theorem ks_67_36 : mi_snd cs_G cs_cl cs_inf 67 36 (mj_aload 0 37) := ms_aload_n (mi_dec ib_67 dd_67_36) rfl
theorem ks_67_37 : mi_snd cs_G cs_cl cs_inf 67 37 (mj_get 0 7 40) := ms_get (T := cs_T0) (k := 7) (mi_dec ib_67 dd_67_37) rfl cs_in0 (by decide) gw_238
theorem ks_67_40 : mi_snd cs_G cs_cl cs_inf 67 40 (mj_get 7 5 43) := ms_getN (T := cs_T7) (k := 5) (mi_dec ib_67 dd_67_40) rfl cs_in7 (by decide) gw_189
theorem ks_67_43 : mi_snd cs_G cs_cl cs_inf 67 43 (mj_iret) := ms_iret (mi_dec ib_67 dd_67_43) rfl
theorem ks_67_44 : mi_snd cs_G cs_cl cs_inf 67 44 (mj_push (.inl (-1)) 45) := ms_iconst (mi_dec ib_67 dd_67_44) (by decide)
theorem ks_67_45 : mi_snd cs_G cs_cl cs_inf 67 45 (mj_iret) := ms_iret (mi_dec ib_67 dd_67_45) rfl
def ct_67 : List (Nat × mi_I) := [
  (0, mj_iload 1 1),
  (1, mj_sw (fun x => if x = 0 then 28 else if x = 1 then 36 else 44)),
  (28, mj_aload 0 29),
  (29, mj_get 0 7 32),
  (32, mj_get 7 4 35),
  (35, mj_iret),
  (36, mj_aload 0 37),
  (37, mj_get 0 7 40),
  (40, mj_get 7 5 43),
  (43, mj_iret),
  (44, mj_push (.inl (-1)) 45),
  (45, mj_iret)]
theorem sd_67 : ∀ q ∈ ct_67, mi_snd cs_G cs_cl cs_inf 67 q.1 q.2 := mi_fc ks_67_0 (mi_fc ks_67_1 (mi_fc ks_67_28 (mi_fc ks_67_29 (mi_fc ks_67_32 (mi_fc ks_67_35 (mi_fc ks_67_36 (mi_fc ks_67_37 (mi_fc ks_67_40 (mi_fc ks_67_43 (mi_fc ks_67_44 (mi_fc ks_67_45 mi_fn)))))))))))
theorem dd_68_0 : decode prog_1_method_22_code 0 = .ok (.iconst 0, 1) := by decide +kernel
theorem dd_68_1 : decode prog_1_method_22_code 1 = .ok (.istore_n 1, 1) := by decide +kernel
theorem dd_68_2 : decode prog_1_method_22_code 2 = .ok (.iconst 0, 1) := by decide +kernel
theorem dd_68_3 : decode prog_1_method_22_code 3 = .ok (.istore_n 2, 1) := by decide +kernel
theorem dd_68_4 : decode prog_1_method_22_code 4 = .ok (.iconst 0, 1) := by decide +kernel
theorem dd_68_5 : decode prog_1_method_22_code 5 = .ok (.istore_n 3, 1) := by decide +kernel
theorem dd_68_6 : decode prog_1_method_22_code 6 = .ok (.iload_n 3, 1) := by decide +kernel
theorem dd_68_7 : decode prog_1_method_22_code 7 = .ok (.aload_n 0, 1) := by decide +kernel
theorem dd_68_8 : decode prog_1_method_22_code 8 = .ok (.getfield 10, 3) := by decide +kernel
theorem dd_68_11 : decode prog_1_method_22_code 11 = .ok (.getfield 174, 3) := by decide +kernel
theorem dd_68_14 : decode prog_1_method_22_code 14 = .ok (.if_icmp .ge 66, 3) := by decide +kernel
theorem dd_68_17 : decode prog_1_method_22_code 17 = .ok (.iload_n 2, 1) := by decide +kernel
theorem dd_68_18 : decode prog_1_method_22_code 18 = .ok (.iload_n 3, 1) := by decide +kernel
theorem dd_68_19 : decode prog_1_method_22_code 19 = .ok (.invokestatic 94, 3) := by decide +kernel
theorem dd_68_22 : decode prog_1_method_22_code 22 = .ok (.ifCond .eq 6, 3) := by decide +kernel
theorem dd_68_25 : decode prog_1_method_22_code 25 = .ok (.goto 49, 3) := by decide +kernel
theorem dd_68_28 : decode prog_1_method_22_code 28 = .ok (.aload_n 0, 1) := by decide +kernel
theorem dd_68_29 : decode prog_1_method_22_code 29 = .ok (.getfield 10, 3) := by decide +kernel
theorem dd_68_32 : decode prog_1_method_22_code 32 = .ok (.iload_n 3, 1) := by decide +kernel
theorem dd_68_33 : decode prog_1_method_22_code 33 = .ok (.iconst 0, 1) := by decide +kernel
theorem dd_68_34 : decode prog_1_method_22_code 34 = .ok (.invokevirtual 177, 3) := by decide +kernel
theorem dd_68_37 : decode prog_1_method_22_code 37 = .ok (.istore 4, 2) := by decide +kernel
theorem dd_68_39 : decode prog_1_method_22_code 39 = .ok (.aload_n 0, 1) := by decide +kernel
theorem dd_68_40 : decode prog_1_method_22_code 40 = .ok (.getfield 10, 3) := by decide +kernel
theorem dd_68_43 : decode prog_1_method_22_code 43 = .ok (.iload_n 3, 1) := by decide +kernel
theorem dd_68_44 : decode prog_1_method_22_code 44 = .ok (.iconst 1, 1) := by decide +kernel
theorem dd_68_45 : decode prog_1_method_22_code 45 = .ok (.invokevirtual 177, 3) := by decide +kernel
theorem dd_68_48 : decode prog_1_method_22_code 48 = .ok (.istore 5, 2) := by decide +kernel
theorem dd_68_50 : decode prog_1_method_22_code 50 = .ok (.iload 4, 2) := by decide +kernel
theorem dd_68_52 : decode prog_1_method_22_code 52 = .ok (.iload 5, 2) := by decide +kernel
theorem dd_68_54 : decode prog_1_method_22_code 54 = .ok (.iand, 1) := by decide +kernel
theorem dd_68_55 : decode prog_1_method_22_code 55 = .ok (.ifCond .eq 6, 3) := by decide +kernel
theorem dd_68_58 : decode prog_1_method_22_code 58 = .ok (.bipush (-2), 2) := by decide +kernel
theorem dd_68_60 : decode prog_1_method_22_code 60 = .ok (.ireturn, 1) := by decide +kernel
theorem dd_68_61 : decode prog_1_method_22_code 61 = .ok (.iload_n 1, 1) := by decide +kernel
theorem dd_68_62 : decode prog_1_method_22_code 62 = .ok (.iload 5, 2) := by decide +kernel
theorem dd_68_64 : decode prog_1_method_22_code 64 = .ok (.ior, 1) := by decide +kernel
theorem dd_68_65 : decode prog_1_method_22_code 65 = .ok (.istore_n 1, 1) := by decide +kernel
theorem dd_68_66 : decode prog_1_method_22_code 66 = .ok (.iload_n 2, 1) := by decide +kernel
theorem dd_68_67 : decode prog_1_method_22_code 67 = .ok (.iload 4, 2) := by decide +kernel
theorem dd_68_69 : decode prog_1_method_22_code 69 = .ok (.iload 5, 2) := by decide +kernel
theorem dd_68_71 : decode prog_1_method_22_code 71 = .ok (.ior, 1) := by decide +kernel
theorem dd_68_72 : decode prog_1_method_22_code 72 = .ok (.ior, 1) := by decide +kernel
theorem dd_68_73 : decode prog_1_method_22_code 73 = .ok (.istore_n 2, 1) := by decide +kernel
theorem dd_68_74 : decode prog_1_method_22_code 74 = .ok (.iinc 3 1, 3) := by decide +kernel
theorem dd_68_77 : decode prog_1_method_22_code 77 = .ok (.goto (-71), 3) := by decide +kernel
theorem dd_68_80 : decode prog_1_method_22_code 80 = .ok (.iload_n 1, 1) := by decide +kernel
theorem dd_68_81 : decode prog_1_method_22_code 81 = .ok (.ireturn, 1) := by decide +kernel
theorem ks_68_0 : mi_snd cs_G cs_cl cs_inf 68 0 (mj_push (.inl 0) 1) := ms_iconst (mi_dec ib_68 dd_68_0) (by decide)
theorem ks_68_1 : mi_snd cs_G cs_cl cs_inf 68 1 (mj_istore 1 2) := ms_istore_n (mi_dec ib_68 dd_68_1) rfl
theorem ks_68_2 : mi_snd cs_G cs_cl cs_inf 68 2 (mj_push (.inl 0) 3) := ms_iconst (mi_dec ib_68 dd_68_2) (by decide)
theorem ks_68_3 : mi_snd cs_G cs_cl cs_inf 68 3 (mj_istore 2 4) := ms_istore_n (mi_dec ib_68 dd_68_3) rfl
theorem ks_68_4 : mi_snd cs_G cs_cl cs_inf 68 4 (mj_push (.inl 0) 5) := ms_iconst (mi_dec ib_68 dd_68_4) (by decide)
theorem ks_68_5 : mi_snd cs_G cs_cl cs_inf 68 5 (mj_istore 3 6) := ms_istore_n (mi_dec ib_68 dd_68_5) rfl
theorem ks_68_6 : mi_snd cs_G cs_cl cs_inf 68 6 (mj_iload 3 7) := ms_iload_n (mi_dec ib_68 dd_68_6) rfl
theorem ks_68_7 : mi_snd cs_G cs_cl cs_inf 68 7 (mj_aload 0 8) := ms_aload_n (mi_dec ib_68 dd_68_7) rfl
theorem ks_68_8 : mi_snd cs_G cs_cl cs_inf 68 8 (mj_get 0 0 11) := ms_get (T := cs_T0) (k := 0) (mi_dec ib_68 dd_68_8) rfl cs_in0 (by decide) gw_231
theorem ks_68_11 : mi_snd cs_G cs_cl cs_inf 68 11 (mj_get 1 0 14) := ms_getN (T := cs_T1) (k := 0) (mi_dec ib_68 dd_68_11) rfl cs_in1 (by decide) gw_32
theorem ks_68_14 : mi_snd cs_G cs_cl cs_inf 68 14 (mj_cmp (fun x y => decide (y ≤ x)) 80 17) := ms_icmp_ge (mi_dec ib_68 dd_68_14) (by decide)
theorem ks_68_17 : mi_snd cs_G cs_cl cs_inf 68 17 (mj_iload 2 18) := ms_iload_n (mi_dec ib_68 dd_68_17) rfl
theorem ks_68_18 : mi_snd cs_G cs_cl cs_inf 68 18 (mj_iload 3 19) := ms_iload_n (mi_dec ib_68 dd_68_18) rfl
theorem ks_68_19 : mi_snd cs_G cs_cl cs_inf 68 19 (mj_callS 7 2 2 22) := ms_callS iw_c7 (mi_dec ib_68 dd_68_19) gw_291 iw_s7 iw_n7 (by decide +kernel) rfl (by decide)
theorem ks_68_22 : mi_snd cs_G cs_cl cs_inf 68 22 (mj_if (fun x => decide (x = 0)) 28 25) := ms_if_eq (mi_dec ib_68 dd_68_22) (by decide)
theorem ks_68_25 : mi_snd cs_G cs_cl cs_inf 68 25 (mj_goto 74) := ms_goto (mi_dec ib_68 dd_68_25) (by decide)
theorem ks_68_28 : mi_snd cs_G cs_cl cs_inf 68 28 (mj_aload 0 29) := ms_aload_n (mi_dec ib_68 dd_68_28) rfl
theorem ks_68_29 : mi_snd cs_G cs_cl cs_inf 68 29 (mj_get 0 0 32) := ms_get (T := cs_T0) (k := 0) (mi_dec ib_68 dd_68_29) rfl cs_in0 (by decide) gw_231
theorem ks_68_32 : mi_snd cs_G cs_cl cs_inf 68 32 (mj_iload 3 33) := ms_iload_n (mi_dec ib_68 dd_68_32) rfl
theorem ks_68_33 : mi_snd cs_G cs_cl cs_inf 68 33 (mj_push (.inl 0) 34) := ms_iconst (mi_dec ib_68 dd_68_33) (by decide)
theorem ks_68_34 : mi_snd cs_G cs_cl cs_inf 68 34 (mj_callV 1 69 2 6 37) := ms_callVN iw_c69 (mi_dec ib_68 dd_68_34) gw_568 iw_i69 rfl iw_v69 iw_n69 (by decide +kernel) rfl (by decide)
theorem ks_68_37 : mi_snd cs_G cs_cl cs_inf 68 37 (mj_istore 4 39) := ms_istore (mi_dec ib_68 dd_68_37)
theorem ks_68_39 : mi_snd cs_G cs_cl cs_inf 68 39 (mj_aload 0 40) := ms_aload_n (mi_dec ib_68 dd_68_39) rfl
theorem ks_68_40 : mi_snd cs_G cs_cl cs_inf 68 40 (mj_get 0 0 43) := ms_get (T := cs_T0) (k := 0) (mi_dec ib_68 dd_68_40) rfl cs_in0 (by decide) gw_231
theorem ks_68_43 : mi_snd cs_G cs_cl cs_inf 68 43 (mj_iload 3 44) := ms_iload_n (mi_dec ib_68 dd_68_43) rfl
theorem ks_68_44 : mi_snd cs_G cs_cl cs_inf 68 44 (mj_push (.inl 1) 45) := ms_iconst (mi_dec ib_68 dd_68_44) (by decide)
theorem ks_68_45 : mi_snd cs_G cs_cl cs_inf 68 45 (mj_callV 1 69 2 6 48) := ms_callVN iw_c69 (mi_dec ib_68 dd_68_45) gw_568 iw_i69 rfl iw_v69 iw_n69 (by decide +kernel) rfl (by decide)
theorem ks_68_48 : mi_snd cs_G cs_cl cs_inf 68 48 (mj_istore 5 50) := ms_istore (mi_dec ib_68 dd_68_48)
theorem ks_68_50 : mi_snd cs_G cs_cl cs_inf 68 50 (mj_iload 4 52) := ms_iload (mi_dec ib_68 dd_68_50)
theorem ks_68_52 : mi_snd cs_G cs_cl cs_inf 68 52 (mj_iload 5 54) := ms_iload (mi_dec ib_68 dd_68_52)
theorem ks_68_54 : mi_snd cs_G cs_cl cs_inf 68 54 (mj_bin (fun x y => x &&& y) 55) := ms_iand (mi_dec ib_68 dd_68_54)
theorem ks_68_55 : mi_snd cs_G cs_cl cs_inf 68 55 (mj_if (fun x => decide (x = 0)) 61 58) := ms_if_eq (mi_dec ib_68 dd_68_55) (by decide)
theorem ks_68_58 : mi_snd cs_G cs_cl cs_inf 68 58 (mj_push (.inl (-2)) 60) := ms_bipush (mi_dec ib_68 dd_68_58) (by decide)
theorem ks_68_60 : mi_snd cs_G cs_cl cs_inf 68 60 (mj_iret) := ms_iret (mi_dec ib_68 dd_68_60) rfl
theorem ks_68_61 : mi_snd cs_G cs_cl cs_inf 68 61 (mj_iload 1 62) := ms_iload_n (mi_dec ib_68 dd_68_61) rfl
theorem ks_68_62 : mi_snd cs_G cs_cl cs_inf 68 62 (mj_iload 5 64) := ms_iload (mi_dec ib_68 dd_68_62)
theorem ks_68_64 : mi_snd cs_G cs_cl cs_inf 68 64 (mj_bin (fun x y => x ||| y) 65) := ms_ior (mi_dec ib_68 dd_68_64)
theorem ks_68_65 : mi_snd cs_G cs_cl cs_inf 68 65 (mj_istore 1 66) := ms_istore_n (mi_dec ib_68 dd_68_65) rfl
theorem ks_68_66 : mi_snd cs_G cs_cl cs_inf 68 66 (mj_iload 2 67) := ms_iload_n (mi_dec ib_68 dd_68_66) rfl
theorem ks_68_67 : mi_snd cs_G cs_cl cs_inf 68 67 (mj_iload 4 69) := ms_iload (mi_dec ib_68 dd_68_67)
theorem ks_68_69 : mi_snd cs_G cs_cl cs_inf 68 69 (mj_iload 5 71) := ms_iload (mi_dec ib_68 dd_68_69)
theorem ks_68_71 : mi_snd cs_G cs_cl cs_inf 68 71 (mj_bin (fun x y => x ||| y) 72) := ms_ior (mi_dec ib_68 dd_68_71)
theorem ks_68_72 : mi_snd cs_G cs_cl cs_inf 68 72 (mj_bin (fun x y => x ||| y) 73) := ms_ior (mi_dec ib_68 dd_68_72)
theorem ks_68_73 : mi_snd cs_G cs_cl cs_inf 68 73 (mj_istore 2 74) := ms_istore_n (mi_dec ib_68 dd_68_73) rfl
theorem ks_68_74 : mi_snd cs_G cs_cl cs_inf 68 74 (mj_iinc 3 1 77) := ms_iinc (mi_dec ib_68 dd_68_74) (by decide)
theorem ks_68_77 : mi_snd cs_G cs_cl cs_inf 68 77 (mj_goto 6) := ms_goto (mi_dec ib_68 dd_68_77) (by decide)
theorem ks_68_80 : mi_snd cs_G cs_cl cs_inf 68 80 (mj_iload 1 81) := ms_iload_n (mi_dec ib_68 dd_68_80) rfl
theorem ks_68_81 : mi_snd cs_G cs_cl cs_inf 68 81 (mj_iret) := ms_iret (mi_dec ib_68 dd_68_81) rfl
def ct_68 : List (Nat × mi_I) := [
  (0, mj_push (.inl 0) 1),
  (1, mj_istore 1 2),
  (2, mj_push (.inl 0) 3),
  (3, mj_istore 2 4),
  (4, mj_push (.inl 0) 5),
  (5, mj_istore 3 6),
  (6, mj_iload 3 7),
  (7, mj_aload 0 8),
  (8, mj_get 0 0 11),
  (11, mj_get 1 0 14),
  (14, mj_cmp (fun x y => decide (y ≤ x)) 80 17),
  (17, mj_iload 2 18),
  (18, mj_iload 3 19),
  (19, mj_callS 7 2 2 22),
  (22, mj_if (fun x => decide (x = 0)) 28 25),
  (25, mj_goto 74),
  (28, mj_aload 0 29),
  (29, mj_get 0 0 32),
  (32, mj_iload 3 33),
  (33, mj_push (.inl 0) 34),
  (34, mj_callV 1 69 2 6 37),
  (37, mj_istore 4 39),
  (39, mj_aload 0 40),
  (40, mj_get 0 0 43),
  (43, mj_iload 3 44),
  (44, mj_push (.inl 1) 45),
  (45, mj_callV 1 69 2 6 48),
  (48, mj_istore 5 50),
  (50, mj_iload 4 52),
  (52, mj_iload 5 54),
  (54, mj_bin (fun x y => x &&& y) 55),
  (55, mj_if (fun x => decide (x = 0)) 61 58),
  (58, mj_push (.inl (-2)) 60),
  (60, mj_iret),
  (61, mj_iload 1 62),
  (62, mj_iload 5 64),
  (64, mj_bin (fun x y => x ||| y) 65),
  (65, mj_istore 1 66),
  (66, mj_iload 2 67),
  (67, mj_iload 4 69),
  (69, mj_iload 5 71),
  (71, mj_bin (fun x y => x ||| y) 72),
  (72, mj_bin (fun x y => x ||| y) 73),
  (73, mj_istore 2 74),
  (74, mj_iinc 3 1 77),
  (77, mj_goto 6),
  (80, mj_iload 1 81),
  (81, mj_iret)]
theorem sd_68 : ∀ q ∈ ct_68, mi_snd cs_G cs_cl cs_inf 68 q.1 q.2 := mi_fc ks_68_0 (mi_fc ks_68_1 (mi_fc ks_68_2 (mi_fc ks_68_3 (mi_fc ks_68_4 (mi_fc ks_68_5 (mi_fc ks_68_6 (mi_fc ks_68_7 (mi_fc ks_68_8 (mi_fc ks_68_11 (mi_fc ks_68_14 (mi_fc ks_68_17 (mi_fc ks_68_18 (mi_fc ks_68_19 (mi_fc ks_68_22 (mi_fc ks_68_25 (mi_fc ks_68_28 (mi_fc ks_68_29 (mi_fc ks_68_32 (mi_fc ks_68_33 (mi_fc ks_68_34 (mi_fc ks_68_37 (mi_fc ks_68_39 (mi_fc ks_68_40 (mi_fc ks_68_43 (mi_fc ks_68_44 (mi_fc ks_68_45 (mi_fc ks_68_48 (mi_fc ks_68_50 (mi_fc ks_68_52 (mi_fc ks_68_54 (mi_fc ks_68_55 (mi_fc ks_68_58 (mi_fc ks_68_60 (mi_fc ks_68_61 (mi_fc ks_68_62 (mi_fc ks_68_64 (mi_fc ks_68_65 (mi_fc ks_68_66 (mi_fc ks_68_67 (mi_fc ks_68_69 (mi_fc ks_68_71 (mi_fc ks_68_72 (mi_fc ks_68_73 (mi_fc ks_68_74 (mi_fc ks_68_77 (mi_fc ks_68_80 (mi_fc ks_68_81 mi_fn)))))))))))))))))))))))))))))))))))))))))))))))

theorem dd_18_0 : decode prog_3_method_11_code 0 = .ok (.iload_n 0, 1) := by decide +kernel
theorem dd_18_1 : decode prog_3_method_11_code 1 = .ok (.iload_n 1, 1) := by decide +kernel
theorem dd_18_2 : decode prog_3_method_11_code 2 = .ok (.ixor, 1) := by decide +kernel
theorem dd_18_3 : decode prog_3_method_11_code 3 = .ok (.istore_n 2, 1) := by decide +kernel
theorem dd_18_4 : decode prog_3_method_11_code 4 = .ok (.iload_n 0, 1) := by decide +kernel
theorem dd_18_5 : decode prog_3_method_11_code 5 = .ok (.iload_n 2, 1) := by decide +kernel
theorem dd_18_6 : decode prog_3_method_11_code 6 = .ok (.iand, 1) := by decide +kernel
theorem dd_18_7 : decode prog_3_method_11_code 7 = .ok (.iload_n 2, 1) := by decide +kernel
theorem dd_18_8 : decode prog_3_method_11_code 8 = .ok (.ineg, 1) := by decide +kernel
theorem dd_18_9 : decode prog_3_method_11_code 9 = .ok (.iand, 1) := by decide +kernel
theorem dd_18_10 : decode prog_3_method_11_code 10 = .ok (.ifCond .eq 7, 3) := by decide +kernel
theorem dd_18_13 : decode prog_3_method_11_code 13 = .ok (.iconst 1, 1) := by decide +kernel
theorem dd_18_14 : decode prog_3_method_11_code 14 = .ok (.goto 4, 3) := by decide +kernel
theorem dd_18_17 : decode prog_3_method_11_code 17 = .ok (.iconst 0, 1) := by decide +kernel
theorem dd_18_18 : decode prog_3_method_11_code 18 = .ok (.ireturn, 1) := by decide +kernel
theorem ks_18_0 : mi_snd cs_G cs_cl cs_inf 18 0 (mj_iload 0 1) := ms_iload_n (mi_dec ib_18 dd_18_0) rfl
theorem ks_18_1 : mi_snd cs_G cs_cl cs_inf 18 1 (mj_iload 1 2) := ms_iload_n (mi_dec ib_18 dd_18_1) rfl
theorem ks_18_2 : mi_snd cs_G cs_cl cs_inf 18 2 (mj_bin (fun x y => x ^^^ y) 3) := ms_ixor (mi_dec ib_18 dd_18_2)
theorem ks_18_3 : mi_snd cs_G cs_cl cs_inf 18 3 (mj_istore 2 4) := ms_istore_n (mi_dec ib_18 dd_18_3) rfl
theorem ks_18_4 : mi_snd cs_G cs_cl cs_inf 18 4 (mj_iload 0 5) := ms_iload_n (mi_dec ib_18 dd_18_4) rfl
theorem ks_18_5 : mi_snd cs_G cs_cl cs_inf 18 5 (mj_iload 2 6) := ms_iload_n (mi_dec ib_18 dd_18_5) rfl
theorem ks_18_6 : mi_snd cs_G cs_cl cs_inf 18 6 (mj_bin (fun x y => x &&& y) 7) := ms_iand (mi_dec ib_18 dd_18_6)
theorem ks_18_7 : mi_snd cs_G cs_cl cs_inf 18 7 (mj_iload 2 8) := ms_iload_n (mi_dec ib_18 dd_18_7) rfl
theorem ks_18_8 : mi_snd cs_G cs_cl cs_inf 18 8 (mj_un (fun x => -x) 9) := ms_ineg (mi_dec ib_18 dd_18_8)
theorem ks_18_9 : mi_snd cs_G cs_cl cs_inf 18 9 (mj_bin (fun x y => x &&& y) 10) := ms_iand (mi_dec ib_18 dd_18_9)
theorem ks_18_10 : mi_snd cs_G cs_cl cs_inf 18 10 (mj_if (fun x => decide (x = 0)) 17 13) := ms_if_eq (mi_dec ib_18 dd_18_10) (by decide)
theorem ks_18_13 : mi_snd cs_G cs_cl cs_inf 18 13 (mj_push (.inl 1) 14) := ms_iconst (mi_dec ib_18 dd_18_13) (by decide)
theorem ks_18_14 : mi_snd cs_G cs_cl cs_inf 18 14 (mj_goto 18) := ms_goto (mi_dec ib_18 dd_18_14) (by decide)
theorem ks_18_17 : mi_snd cs_G cs_cl cs_inf 18 17 (mj_push (.inl 0) 18) := ms_iconst (mi_dec ib_18 dd_18_17) (by decide)
theorem ks_18_18 : mi_snd cs_G cs_cl cs_inf 18 18 (mj_zret) := ms_zret (mi_dec ib_18 dd_18_18) rfl
def ct_18 : List (Nat × mi_I) := [
  (0, mj_iload 0 1),
  (1, mj_iload 1 2),
  (2, mj_bin (fun x y => x ^^^ y) 3),
  (3, mj_istore 2 4),
  (4, mj_iload 0 5),
  (5, mj_iload 2 6),
  (6, mj_bin (fun x y => x &&& y) 7),
  (7, mj_iload 2 8),
  (8, mj_un (fun x => -x) 9),
  (9, mj_bin (fun x y => x &&& y) 10),
  (10, mj_if (fun x => decide (x = 0)) 17 13),
  (13, mj_push (.inl 1) 14),
  (14, mj_goto 18),
  (17, mj_push (.inl 0) 18),
  (18, mj_zret)]
theorem sd_18 : ∀ q ∈ ct_18, mi_snd cs_G cs_cl cs_inf 18 q.1 q.2 := mi_fc ks_18_0 (mi_fc ks_18_1 (mi_fc ks_18_2 (mi_fc ks_18_3 (mi_fc ks_18_4 (mi_fc ks_18_5 (mi_fc ks_18_6 (mi_fc ks_18_7 (mi_fc ks_18_8 (mi_fc ks_18_9 (mi_fc ks_18_10 (mi_fc ks_18_13 (mi_fc ks_18_14 (mi_fc ks_18_17 (mi_fc ks_18_18 mi_fn))))))))))))))
theorem dd_19_0 : decode prog_3_method_9_code 0 = .ok (.iconst 0, 1) := by decide +kernel
theorem dd_19_1 : decode prog_3_method_9_code 1 = .ok (.istore_n 3, 1) := by decide +kernel
theorem dd_19_2 : decode prog_3_method_9_code 2 = .ok (.iconst 0, 1) := by decide +kernel
theorem dd_19_3 : decode prog_3_method_9_code 3 = .ok (.istore 4, 2) := by decide +kernel
theorem dd_19_5 : decode prog_3_method_9_code 5 = .ok (.iload 4, 2) := by decide +kernel
theorem dd_19_7 : decode prog_3_method_9_code 7 = .ok (.bipush 16, 2) := by decide +kernel
theorem dd_19_9 : decode prog_3_method_9_code 9 = .ok (.if_icmp .ge 47, 3) := by decide +kernel
theorem dd_19_12 : decode prog_3_method_9_code 12 = .ok (.iload_n 1, 1) := by decide +kernel
theorem dd_19_13 : decode prog_3_method_9_code 13 = .ok (.iload 4, 2) := by decide +kernel
theorem dd_19_15 : decode prog_3_method_9_code 15 = .ok (.invokestatic 69, 3) := by decide +kernel
theorem dd_19_18 : decode prog_3_method_9_code 18 = .ok (.ifCond .eq 32, 3) := by decide +kernel
theorem dd_19_21 : decode prog_3_method_9_code 21 = .ok (.aload_n 0, 1) := by decide +kernel
theorem dd_19_22 : decode prog_3_method_9_code 22 = .ok (.getfield 9, 3) := by decide +kernel
theorem dd_19_25 : decode prog_3_method_9_code 25 = .ok (.iload 4, 2) := by decide +kernel
theorem dd_19_27 : decode prog_3_method_9_code 27 = .ok (.iaload, 1) := by decide +kernel
theorem dd_19_28 : decode prog_3_method_9_code 28 = .ok (.iload_n 2, 1) := by decide +kernel
theorem dd_19_29 : decode prog_3_method_9_code 29 = .ok (.iand, 1) := by decide +kernel
theorem dd_19_30 : decode prog_3_method_9_code 30 = .ok (.invokestatic 36, 3) := by decide +kernel
theorem dd_19_33 : decode prog_3_method_9_code 33 = .ok (.iload_n 3, 1) := by decide +kernel
theorem dd_19_34 : decode prog_3_method_9_code 34 = .ok (.iload_n 2, 1) := by decide +kernel
theorem dd_19_35 : decode prog_3_method_9_code 35 = .ok (.iand, 1) := by decide +kernel
theorem dd_19_36 : decode prog_3_method_9_code 36 = .ok (.invokestatic 36, 3) := by decide +kernel
theorem dd_19_39 : decode prog_3_method_9_code 39 = .ok (.if_icmp .le 11, 3) := by decide +kernel
theorem dd_19_42 : decode prog_3_method_9_code 42 = .ok (.aload_n 0, 1) := by decide +kernel
theorem dd_19_43 : decode prog_3_method_9_code 43 = .ok (.getfield 9, 3) := by decide +kernel
theorem dd_19_46 : decode prog_3_method_9_code 46 = .ok (.iload 4, 2) := by decide +kernel
theorem dd_19_48 : decode prog_3_method_9_code 48 = .ok (.iaload, 1) := by decide +kernel
theorem dd_19_49 : decode prog_3_method_9_code 49 = .ok (.istore_n 3, 1) := by decide +kernel
theorem dd_19_50 : decode prog_3_method_9_code 50 = .ok (.iinc 4 1, 3) := by decide +kernel
theorem dd_19_53 : decode prog_3_method_9_code 53 = .ok (.goto (-48), 3) := by decide +kernel
theorem dd_19_56 : decode prog_3_method_9_code 56 = .ok (.iload_n 3, 1) := by decide +kernel
theorem dd_19_57 : decode prog_3_method_9_code 57 = .ok (.ireturn, 1) := by decide +kernel
theorem ks_19_0 : mi_snd cs_G cs_cl cs_inf 19 0 (mj_push (.inl 0) 1) := ms_iconst (mi_dec ib_19 dd_19_0) (by decide)
theorem ks_19_1 : mi_snd cs_G cs_cl cs_inf 19 1 (mj_istore 3 2) := ms_istore_n (mi_dec ib_19 dd_19_1) rfl
theorem ks_19_2 : mi_snd cs_G cs_cl cs_inf 19 2 (mj_push (.inl 0) 3) := ms_iconst (mi_dec ib_19 dd_19_2) (by decide)
theorem ks_19_3 : mi_snd cs_G cs_cl cs_inf 19 3 (mj_istore 4 5) := ms_istore (mi_dec ib_19 dd_19_3)
theorem ks_19_5 : mi_snd cs_G cs_cl cs_inf 19 5 (mj_iload 4 7) := ms_iload (mi_dec ib_19 dd_19_5)
theorem ks_19_7 : mi_snd cs_G cs_cl cs_inf 19 7 (mj_push (.inl 16) 9) := ms_bipush (mi_dec ib_19 dd_19_7) (by decide)
theorem ks_19_9 : mi_snd cs_G cs_cl cs_inf 19 9 (mj_cmp (fun x y => decide (y ≤ x)) 56 12) := ms_icmp_ge (mi_dec ib_19 dd_19_9) (by decide)
theorem ks_19_12 : mi_snd cs_G cs_cl cs_inf 19 12 (mj_iload 1 13) := ms_iload_n (mi_dec ib_19 dd_19_12) rfl
theorem ks_19_13 : mi_snd cs_G cs_cl cs_inf 19 13 (mj_iload 4 15) := ms_iload (mi_dec ib_19 dd_19_13)
theorem ks_19_15 : mi_snd cs_G cs_cl cs_inf 19 15 (mj_callS 7 2 2 18) := ms_callSN iw_c7 (mi_dec ib_19 dd_19_15) gw_344 iw_s7 iw_n7 (by decide +kernel) rfl (by decide)
theorem ks_19_18 : mi_snd cs_G cs_cl cs_inf 19 18 (mj_if (fun x => decide (x = 0)) 50 21) := ms_if_eq (mi_dec ib_19 dd_19_18) (by decide)
theorem ks_19_21 : mi_snd cs_G cs_cl cs_inf 19 21 (mj_aload 0 22) := ms_aload_n (mi_dec ib_19 dd_19_21) rfl
theorem ks_19_22 : mi_snd cs_G cs_cl cs_inf 19 22 (mj_get 2 2 25) := ms_get (T := cs_T2) (k := 2) (mi_dec ib_19 dd_19_22) rfl cs_in2 (by decide) gw_57
theorem ks_19_25 : mi_snd cs_G cs_cl cs_inf 19 25 (mj_iload 4 27) := ms_iload (mi_dec ib_19 dd_19_25)
theorem ks_19_27 : mi_snd cs_G cs_cl cs_inf 19 27 (mj_ald 0 28) := ms_ald0 (mi_dec ib_19 dd_19_27)
theorem ks_19_28 : mi_snd cs_G cs_cl cs_inf 19 28 (mj_iload 2 29) := ms_iload_n (mi_dec ib_19 dd_19_28) rfl
theorem ks_19_29 : mi_snd cs_G cs_cl cs_inf 19 29 (mj_bin (fun x y => x &&& y) 30) := ms_iand (mi_dec ib_19 dd_19_29)
theorem ks_19_30 : mi_snd cs_G cs_cl cs_inf 19 30 (mj_callS 20 1 1 33) := ms_callS iw_c20 (mi_dec ib_19 dd_19_30) gw_345 iw_s20 iw_n20 (by decide +kernel) rfl (by decide)
theorem ks_19_33 : mi_snd cs_G cs_cl cs_inf 19 33 (mj_iload 3 34) := ms_iload_n (mi_dec ib_19 dd_19_33) rfl
theorem ks_19_34 : mi_snd cs_G cs_cl cs_inf 19 34 (mj_iload 2 35) := ms_iload_n (mi_dec ib_19 dd_19_34) rfl
theorem ks_19_35 : mi_snd cs_G cs_cl cs_inf 19 35 (mj_bin (fun x y => x &&& y) 36) := ms_iand (mi_dec ib_19 dd_19_35)
theorem ks_19_36 : mi_snd cs_G cs_cl cs_inf 19 36 (mj_callS 20 1 1 39) := ms_callS iw_c20 (mi_dec ib_19 dd_19_36) gw_345 iw_s20 iw_n20 (by decide +kernel) rfl (by decide)
theorem ks_19_39 : mi_snd cs_G cs_cl cs_inf 19 39 (mj_cmp (fun x y => decide (x ≤ y)) 50 42) := ms_icmp_le (mi_dec ib_19 dd_19_39) (by decide)
theorem ks_19_42 : mi_snd cs_G cs_cl cs_inf 19 42 (mj_aload 0 43) := ms_aload_n (mi_dec ib_19 dd_19_42) rfl
theorem ks_19_43 : mi_snd cs_G cs_cl cs_inf 19 43 (mj_get 2 2 46) := ms_get (T := cs_T2) (k := 2) (mi_dec ib_19 dd_19_43) rfl cs_in2 (by decide) gw_57
theorem ks_19_46 : mi_snd cs_G cs_cl cs_inf 19 46 (mj_iload 4 48) := ms_iload (mi_dec ib_19 dd_19_46)
theorem ks_19_48 : mi_snd cs_G cs_cl cs_inf 19 48 (mj_ald 0 49) := ms_ald0 (mi_dec ib_19 dd_19_48)
theorem ks_19_49 : mi_snd cs_G cs_cl cs_inf 19 49 (mj_istore 3 50) := ms_istore_n (mi_dec ib_19 dd_19_49) rfl
theorem ks_19_50 : mi_snd cs_G cs_cl cs_inf 19 50 (mj_iinc 4 1 53) := ms_iinc (mi_dec ib_19 dd_19_50) (by decide)
theorem ks_19_53 : mi_snd cs_G cs_cl cs_inf 19 53 (mj_goto 5) := ms_goto (mi_dec ib_19 dd_19_53) (by decide)
theorem ks_19_56 : mi_snd cs_G cs_cl cs_inf 19 56 (mj_iload 3 57) := ms_iload_n (mi_dec ib_19 dd_19_56) rfl
theorem ks_19_57 : mi_snd cs_G cs_cl cs_inf 19 57 (mj_iret) := ms_iret (mi_dec ib_19 dd_19_57) rfl
def ct_19 : List (Nat × mi_I) := [
  (0, mj_push (.inl 0) 1),
  (1, mj_istore 3 2),
  (2, mj_push (.inl 0) 3),
  (3, mj_istore 4 5),
  (5, mj_iload 4 7),
  (7, mj_push (.inl 16) 9),
  (9, mj_cmp (fun x y => decide (y ≤ x)) 56 12),
  (12, mj_iload 1 13),
  (13, mj_iload 4 15),
  (15, mj_callS 7 2 2 18),
  (18, mj_if (fun x => decide (x = 0)) 50 21),
  (21, mj_aload 0 22),
  (22, mj_get 2 2 25),
  (25, mj_iload 4 27),
  (27, mj_ald 0 28),
  (28, mj_iload 2 29),
  (29, mj_bin (fun x y => x &&& y) 30),
  (30, mj_callS 20 1 1 33),
  (33, mj_iload 3 34),
  (34, mj_iload 2 35),
  (35, mj_bin (fun x y => x &&& y) 36),
  (36, mj_callS 20 1 1 39),
  (39, mj_cmp (fun x y => decide (x ≤ y)) 50 42),
  (42, mj_aload 0 43),
  (43, mj_get 2 2 46),
  (46, mj_iload 4 48),
  (48, mj_ald 0 49),
  (49, mj_istore 3 50),
  (50, mj_iinc 4 1 53),
  (53, mj_goto 5),
  (56, mj_iload 3 57),
  (57, mj_iret)]
theorem sd_19 : ∀ q ∈ ct_19, mi_snd cs_G cs_cl cs_inf 19 q.1 q.2 := mi_fc ks_19_0 (mi_fc ks_19_1 (mi_fc ks_19_2 (mi_fc ks_19_3 (mi_fc ks_19_5 (mi_fc ks_19_7 (mi_fc ks_19_9 (mi_fc ks_19_12 (mi_fc ks_19_13 (mi_fc ks_19_15 (mi_fc ks_19_18 (mi_fc ks_19_21 (mi_fc ks_19_22 (mi_fc ks_19_25 (mi_fc ks_19_27 (mi_fc ks_19_28 (mi_fc ks_19_29 (mi_fc ks_19_30 (mi_fc ks_19_33 (mi_fc ks_19_34 (mi_fc ks_19_35 (mi_fc ks_19_36 (mi_fc ks_19_39 (mi_fc ks_19_42 (mi_fc ks_19_43 (mi_fc ks_19_46 (mi_fc ks_19_48 (mi_fc ks_19_49 (mi_fc ks_19_50 (mi_fc ks_19_53 (mi_fc ks_19_56 (mi_fc ks_19_57 mi_fn)))))))))))))))))))))))))))))))
theorem dd_20_0 : decode prog_12_method_49_code 0 = .ok (.iload_n 0, 1) := by decide +kernel
theorem dd_20_1 : decode prog_12_method_49_code 1 = .ok (.iload_n 0, 1) := by decide +kernel
theorem dd_20_2 : decode prog_12_method_49_code 2 = .ok (.iconst 1, 1) := by decide +kernel
theorem dd_20_3 : decode prog_12_method_49_code 3 = .ok (.iushr, 1) := by decide +kernel
theorem dd_20_4 : decode prog_12_method_49_code 4 = .ok (.ldc_w 265, 3) := by decide +kernel
theorem dd_20_7 : decode prog_12_method_49_code 7 = .ok (.iand, 1) := by decide +kernel
theorem dd_20_8 : decode prog_12_method_49_code 8 = .ok (.isub, 1) := by decide +kernel
theorem dd_20_9 : decode prog_12_method_49_code 9 = .ok (.istore_n 0, 1) := by decide +kernel
theorem dd_20_10 : decode prog_12_method_49_code 10 = .ok (.iload_n 0, 1) := by decide +kernel
theorem dd_20_11 : decode prog_12_method_49_code 11 = .ok (.ldc_w 266, 3) := by decide +kernel
theorem dd_20_14 : decode prog_12_method_49_code 14 = .ok (.iand, 1) := by decide +kernel
theorem dd_20_15 : decode prog_12_method_49_code 15 = .ok (.iload_n 0, 1) := by decide +kernel
theorem dd_20_16 : decode prog_12_method_49_code 16 = .ok (.iconst 2, 1) := by decide +kernel
theorem dd_20_17 : decode prog_12_method_49_code 17 = .ok (.iushr, 1) := by decide +kernel
theorem dd_20_18 : decode prog_12_method_49_code 18 = .ok (.ldc_w 266, 3) := by decide +kernel
theorem dd_20_21 : decode prog_12_method_49_code 21 = .ok (.iand, 1) := by decide +kernel
theorem dd_20_22 : decode prog_12_method_49_code 22 = .ok (.iadd, 1) := by decide +kernel
theorem dd_20_23 : decode prog_12_method_49_code 23 = .ok (.istore_n 0, 1) := by decide +kernel
theorem dd_20_24 : decode prog_12_method_49_code 24 = .ok (.iload_n 0, 1) := by decide +kernel
theorem dd_20_25 : decode prog_12_method_49_code 25 = .ok (.iload_n 0, 1) := by decide +kernel
theorem dd_20_26 : decode prog_12_method_49_code 26 = .ok (.iconst 4, 1) := by decide +kernel
theorem dd_20_27 : decode prog_12_method_49_code 27 = .ok (.iushr, 1) := by decide +kernel
theorem dd_20_28 : decode prog_12_method_49_code 28 = .ok (.iadd, 1) := by decide +kernel
theorem dd_20_29 : decode prog_12_method_49_code 29 = .ok (.ldc_w 267, 3) := by decide +kernel
theorem dd_20_32 : decode prog_12_method_49_code 32 = .ok (.iand, 1) := by decide +kernel
theorem dd_20_33 : decode prog_12_method_49_code 33 = .ok (.istore_n 0, 1) := by decide +kernel
theorem dd_20_34 : decode prog_12_method_49_code 34 = .ok (.iload_n 0, 1) := by decide +kernel
theorem dd_20_35 : decode prog_12_method_49_code 35 = .ok (.iload_n 0, 1) := by decide +kernel
theorem dd_20_36 : decode prog_12_method_49_code 36 = .ok (.bipush 8, 2) := by decide +kernel
theorem dd_20_38 : decode prog_12_method_49_code 38 = .ok (.iushr, 1) := by decide +kernel
theorem dd_20_39 : decode prog_12_method_49_code 39 = .ok (.iadd, 1) := by decide +kernel
theorem dd_20_40 : decode prog_12_method_49_code 40 = .ok (.istore_n 0, 1) := by decide +kernel
theorem dd_20_41 : decode prog_12_method_49_code 41 = .ok (.iload_n 0, 1) := by decide +kernel
theorem dd_20_42 : decode prog_12_method_49_code 42 = .ok (.iload_n 0, 1) := by decide +kernel
theorem dd_20_43 : decode prog_12_method_49_code 43 = .ok (.bipush 16, 2) := by decide +kernel
theorem dd_20_45 : decode prog_12_method_49_code 45 = .ok (.iushr, 1) := by decide +kernel
theorem dd_20_46 : decode prog_12_method_49_code 46 = .ok (.iadd, 1) := by decide +kernel
theorem dd_20_47 : decode prog_12_method_49_code 47 = .ok (.istore_n 0, 1) := by decide +kernel
theorem dd_20_48 : decode prog_12_method_49_code 48 = .ok (.iload_n 0, 1) := by decide +kernel
theorem dd_20_49 : decode prog_12_method_49_code 49 = .ok (.bipush 63, 2) := by decide +kernel
theorem dd_20_51 : decode prog_12_method_49_code 51 = .ok (.iand, 1) := by decide +kernel
theorem dd_20_52 : decode prog_12_method_49_code 52 = .ok (.ireturn, 1) := by decide +kernel
theorem ks_20_0 : mi_snd cs_G cs_cl cs_inf 20 0 (mj_iload 0 1) := ms_iload_n (mi_dec ib_20 dd_20_0) rfl
theorem ks_20_1 : mi_snd cs_G cs_cl cs_inf 20 1 (mj_iload 0 2) := ms_iload_n (mi_dec ib_20 dd_20_1) rfl
theorem ks_20_2 : mi_snd cs_G cs_cl cs_inf 20 2 (mj_push (.inl 1) 3) := ms_iconst (mi_dec ib_20 dd_20_2) (by decide)
theorem ks_20_3 : mi_snd cs_G cs_cl cs_inf 20 3 (mj_bin (fun x y => (x.toUInt32 >>> (y.toUInt32 &&& Int32.toUInt32 31)).toInt32) 4) := ms_iushr (mi_dec ib_20 dd_20_3)
theorem ks_20_4 : mi_snd cs_G cs_cl cs_inf 20 4 (mj_push (.inl 1431655765) 7) := ms_ldcw (mi_dec ib_20 dd_20_4) gw_348
theorem ks_20_7 : mi_snd cs_G cs_cl cs_inf 20 7 (mj_bin (fun x y => x &&& y) 8) := ms_iand (mi_dec ib_20 dd_20_7)
theorem ks_20_8 : mi_snd cs_G cs_cl cs_inf 20 8 (mj_bin (fun x y => x - y) 9) := ms_isub (mi_dec ib_20 dd_20_8)
theorem ks_20_9 : mi_snd cs_G cs_cl cs_inf 20 9 (mj_istore 0 10) := ms_istore_n (mi_dec ib_20 dd_20_9) rfl
theorem ks_20_10 : mi_snd cs_G cs_cl cs_inf 20 10 (mj_iload 0 11) := ms_iload_n (mi_dec ib_20 dd_20_10) rfl
theorem ks_20_11 : mi_snd cs_G cs_cl cs_inf 20 11 (mj_push (.inl 858993459) 14) := ms_ldcw (mi_dec ib_20 dd_20_11) gw_349
theorem ks_20_14 : mi_snd cs_G cs_cl cs_inf 20 14 (mj_bin (fun x y => x &&& y) 15) := ms_iand (mi_dec ib_20 dd_20_14)
theorem ks_20_15 : mi_snd cs_G cs_cl cs_inf 20 15 (mj_iload 0 16) := ms_iload_n (mi_dec ib_20 dd_20_15) rfl
theorem ks_20_16 : mi_snd cs_G cs_cl cs_inf 20 16 (mj_push (.inl 2) 17) := ms_iconst (mi_dec ib_20 dd_20_16) (by decide)
theorem ks_20_17 : mi_snd cs_G cs_cl cs_inf 20 17 (mj_bin (fun x y => (x.toUInt32 >>> (y.toUInt32 &&& Int32.toUInt32 31)).toInt32) 18) := ms_iushr (mi_dec ib_20 dd_20_17)
theorem ks_20_18 : mi_snd cs_G cs_cl cs_inf 20 18 (mj_push (.inl 858993459) 21) := ms_ldcw (mi_dec ib_20 dd_20_18) gw_349
theorem ks_20_21 : mi_snd cs_G cs_cl cs_inf 20 21 (mj_bin (fun x y => x &&& y) 22) := ms_iand (mi_dec ib_20 dd_20_21)
theorem ks_20_22 : mi_snd cs_G cs_cl cs_inf 20 22 (mj_bin (fun x y => x + y) 23) := ms_iadd (mi_dec ib_20 dd_20_22)
theorem ks_20_23 : mi_snd cs_G cs_cl cs_inf 20 23 (mj_istore 0 24) := ms_istore_n (mi_dec ib_20 dd_20_23) rfl
theorem ks_20_24 : mi_snd cs_G cs_cl cs_inf 20 24 (mj_iload 0 25) := ms_iload_n (mi_dec ib_20 dd_20_24) rfl
theorem ks_20_25 : mi_snd cs_G cs_cl cs_inf 20 25 (mj_iload 0 26) := ms_iload_n (mi_dec ib_20 dd_20_25) rfl
theorem ks_20_26 : mi_snd cs_G cs_cl cs_inf 20 26 (mj_push (.inl 4) 27) := ms_iconst (mi_dec ib_20 dd_20_26) (by decide)
theorem ks_20_27 : mi_snd cs_G cs_cl cs_inf 20 27 (mj_bin (fun x y => (x.toUInt32 >>> (y.toUInt32 &&& Int32.toUInt32 31)).toInt32) 28) := ms_iushr (mi_dec ib_20 dd_20_27)
theorem ks_20_28 : mi_snd cs_G cs_cl cs_inf 20 28 (mj_bin (fun x y => x + y) 29) := ms_iadd (mi_dec ib_20 dd_20_28)
theorem ks_20_29 : mi_snd cs_G cs_cl cs_inf 20 29 (mj_push (.inl 252645135) 32) := ms_ldcw (mi_dec ib_20 dd_20_29) gw_350
theorem ks_20_32 : mi_snd cs_G cs_cl cs_inf 20 32 (mj_bin (fun x y => x &&& y) 33) := ms_iand (mi_dec ib_20 dd_20_32)
theorem ks_20_33 : mi_snd cs_G cs_cl cs_inf 20 33 (mj_istore 0 34) := ms_istore_n (mi_dec ib_20 dd_20_33) rfl
theorem ks_20_34 : mi_snd cs_G cs_cl cs_inf 20 34 (mj_iload 0 35) := ms_iload_n (mi_dec ib_20 dd_20_34) rfl
theorem ks_20_35 : mi_snd cs_G cs_cl cs_inf 20 35 (mj_iload 0 36) := ms_iload_n (mi_dec ib_20 dd_20_35) rfl
theorem ks_20_36 : mi_snd cs_G cs_cl cs_inf 20 36 (mj_push (.inl 8) 38) := ms_bipush (mi_dec ib_20 dd_20_36) (by decide)
theorem ks_20_38 : mi_snd cs_G cs_cl cs_inf 20 38 (mj_bin (fun x y => (x.toUInt32 >>> (y.toUInt32 &&& Int32.toUInt32 31)).toInt32) 39) := ms_iushr (mi_dec ib_20 dd_20_38)
theorem ks_20_39 : mi_snd cs_G cs_cl cs_inf 20 39 (mj_bin (fun x y => x + y) 40) := ms_iadd (mi_dec ib_20 dd_20_39)
theorem ks_20_40 : mi_snd cs_G cs_cl cs_inf 20 40 (mj_istore 0 41) := ms_istore_n (mi_dec ib_20 dd_20_40) rfl
theorem ks_20_41 : mi_snd cs_G cs_cl cs_inf 20 41 (mj_iload 0 42) := ms_iload_n (mi_dec ib_20 dd_20_41) rfl
theorem ks_20_42 : mi_snd cs_G cs_cl cs_inf 20 42 (mj_iload 0 43) := ms_iload_n (mi_dec ib_20 dd_20_42) rfl
theorem ks_20_43 : mi_snd cs_G cs_cl cs_inf 20 43 (mj_push (.inl 16) 45) := ms_bipush (mi_dec ib_20 dd_20_43) (by decide)
theorem ks_20_45 : mi_snd cs_G cs_cl cs_inf 20 45 (mj_bin (fun x y => (x.toUInt32 >>> (y.toUInt32 &&& Int32.toUInt32 31)).toInt32) 46) := ms_iushr (mi_dec ib_20 dd_20_45)
theorem ks_20_46 : mi_snd cs_G cs_cl cs_inf 20 46 (mj_bin (fun x y => x + y) 47) := ms_iadd (mi_dec ib_20 dd_20_46)
theorem ks_20_47 : mi_snd cs_G cs_cl cs_inf 20 47 (mj_istore 0 48) := ms_istore_n (mi_dec ib_20 dd_20_47) rfl
theorem ks_20_48 : mi_snd cs_G cs_cl cs_inf 20 48 (mj_iload 0 49) := ms_iload_n (mi_dec ib_20 dd_20_48) rfl
theorem ks_20_49 : mi_snd cs_G cs_cl cs_inf 20 49 (mj_push (.inl 63) 51) := ms_bipush (mi_dec ib_20 dd_20_49) (by decide)
theorem ks_20_51 : mi_snd cs_G cs_cl cs_inf 20 51 (mj_bin (fun x y => x &&& y) 52) := ms_iand (mi_dec ib_20 dd_20_51)
theorem ks_20_52 : mi_snd cs_G cs_cl cs_inf 20 52 (mj_iret) := ms_iret (mi_dec ib_20 dd_20_52) rfl
def ct_20 : List (Nat × mi_I) := [
  (0, mj_iload 0 1),
  (1, mj_iload 0 2),
  (2, mj_push (.inl 1) 3),
  (3, mj_bin (fun x y => (x.toUInt32 >>> (y.toUInt32 &&& Int32.toUInt32 31)).toInt32) 4),
  (4, mj_push (.inl 1431655765) 7),
  (7, mj_bin (fun x y => x &&& y) 8),
  (8, mj_bin (fun x y => x - y) 9),
  (9, mj_istore 0 10),
  (10, mj_iload 0 11),
  (11, mj_push (.inl 858993459) 14),
  (14, mj_bin (fun x y => x &&& y) 15),
  (15, mj_iload 0 16),
  (16, mj_push (.inl 2) 17),
  (17, mj_bin (fun x y => (x.toUInt32 >>> (y.toUInt32 &&& Int32.toUInt32 31)).toInt32) 18),
  (18, mj_push (.inl 858993459) 21),
  (21, mj_bin (fun x y => x &&& y) 22),
  (22, mj_bin (fun x y => x + y) 23),
  (23, mj_istore 0 24),
  (24, mj_iload 0 25),
  (25, mj_iload 0 26),
  (26, mj_push (.inl 4) 27),
  (27, mj_bin (fun x y => (x.toUInt32 >>> (y.toUInt32 &&& Int32.toUInt32 31)).toInt32) 28),
  (28, mj_bin (fun x y => x + y) 29),
  (29, mj_push (.inl 252645135) 32),
  (32, mj_bin (fun x y => x &&& y) 33),
  (33, mj_istore 0 34),
  (34, mj_iload 0 35),
  (35, mj_iload 0 36),
  (36, mj_push (.inl 8) 38),
  (38, mj_bin (fun x y => (x.toUInt32 >>> (y.toUInt32 &&& Int32.toUInt32 31)).toInt32) 39),
  (39, mj_bin (fun x y => x + y) 40),
  (40, mj_istore 0 41),
  (41, mj_iload 0 42),
  (42, mj_iload 0 43),
  (43, mj_push (.inl 16) 45),
  (45, mj_bin (fun x y => (x.toUInt32 >>> (y.toUInt32 &&& Int32.toUInt32 31)).toInt32) 46),
  (46, mj_bin (fun x y => x + y) 47),
  (47, mj_istore 0 48),
  (48, mj_iload 0 49),
  (49, mj_push (.inl 63) 51),
  (51, mj_bin (fun x y => x &&& y) 52),
  (52, mj_iret)]
theorem sd_20 : ∀ q ∈ ct_20, mi_snd cs_G cs_cl cs_inf 20 q.1 q.2 := mi_fc ks_20_0 (mi_fc ks_20_1 (mi_fc ks_20_2 (mi_fc ks_20_3 (mi_fc ks_20_4 (mi_fc ks_20_7 (mi_fc ks_20_8 (mi_fc ks_20_9 (mi_fc ks_20_10 (mi_fc ks_20_11 (mi_fc ks_20_14 (mi_fc ks_20_15 (mi_fc ks_20_16 (mi_fc ks_20_17 (mi_fc ks_20_18 (mi_fc ks_20_21 (mi_fc ks_20_22 (mi_fc ks_20_23 (mi_fc ks_20_24 (mi_fc ks_20_25 (mi_fc ks_20_26 (mi_fc ks_20_27 (mi_fc ks_20_28 (mi_fc ks_20_29 (mi_fc ks_20_32 (mi_fc ks_20_33 (mi_fc ks_20_34 (mi_fc ks_20_35 (mi_fc ks_20_36 (mi_fc ks_20_38 (mi_fc ks_20_39 (mi_fc ks_20_40 (mi_fc ks_20_41 (mi_fc ks_20_42 (mi_fc ks_20_43 (mi_fc ks_20_45 (mi_fc ks_20_46 (mi_fc ks_20_47 (mi_fc ks_20_48 (mi_fc ks_20_49 (mi_fc ks_20_51 (mi_fc ks_20_52 mi_fn)))))))))))))))))))))))))))))))))))))))))
theorem dd_21_0 : decode prog_1_method_7_code 0 = .ok (.aload_n 0, 1) := by decide +kernel
theorem dd_21_1 : decode prog_1_method_7_code 1 = .ok (.getfield 21, 3) := by decide +kernel
theorem dd_21_4 : decode prog_1_method_7_code 4 = .ok (.invokevirtual 110, 3) := by decide +kernel
theorem dd_21_7 : decode prog_1_method_7_code 7 = .ok (.ireturn, 1) := by decide +kernel
theorem ks_21_0 : mi_snd cs_G cs_cl cs_inf 21 0 (mj_aload 0 1) := ms_aload_n (mi_dec ib_21 dd_21_0) rfl
theorem ks_21_1 : mi_snd cs_G cs_cl cs_inf 21 1 (mj_get 0 1 4) := ms_get (T := cs_T0) (k := 1) (mi_dec ib_21 dd_21_1) rfl cs_in0 (by decide) gw_232
theorem ks_21_4 : mi_snd cs_G cs_cl cs_inf 21 4 (mj_callV 2 22 0 5 7) := ms_callVN iw_c22 (mi_dec ib_21 dd_21_4) gw_355 iw_i22 rfl iw_v22 iw_n22 (by decide +kernel) rfl (by decide)
theorem ks_21_7 : mi_snd cs_G cs_cl cs_inf 21 7 (mj_iret) := ms_iret (mi_dec ib_21 dd_21_7) rfl
def ct_21 : List (Nat × mi_I) := [
  (0, mj_aload 0 1),
  (1, mj_get 0 1 4),
  (4, mj_callV 2 22 0 5 7),
  (7, mj_iret)]
theorem sd_21 : ∀ q ∈ ct_21, mi_snd cs_G cs_cl cs_inf 21 q.1 q.2 := mi_fc ks_21_0 (mi_fc ks_21_1 (mi_fc ks_21_4 (mi_fc ks_21_7 mi_fn)))
theorem dd_22_0 : decode prog_3_method_6_code 0 = .ok (.aload_n 0, 1) := by decide +kernel
theorem dd_22_1 : decode prog_3_method_6_code 1 = .ok (.invokevirtual 30, 3) := by decide +kernel
theorem dd_22_4 : decode prog_3_method_6_code 4 = .ok (.iconst 0, 1) := by decide +kernel
theorem dd_22_5 : decode prog_3_method_6_code 5 = .ok (.istore_n 1, 1) := by decide +kernel
theorem dd_22_6 : decode prog_3_method_6_code 6 = .ok (.iconst 0, 1) := by decide +kernel
theorem dd_22_7 : decode prog_3_method_6_code 7 = .ok (.istore_n 2, 1) := by decide +kernel
theorem dd_22_8 : decode prog_3_method_6_code 8 = .ok (.iconst 0, 1) := by decide +kernel
theorem dd_22_9 : decode prog_3_method_6_code 9 = .ok (.istore_n 3, 1) := by decide +kernel
theorem dd_22_10 : decode prog_3_method_6_code 10 = .ok (.iload_n 3, 1) := by decide +kernel
theorem dd_22_11 : decode prog_3_method_6_code 11 = .ok (.aload_n 0, 1) := by decide +kernel
theorem dd_22_12 : decode prog_3_method_6_code 12 = .ok (.getfield 33, 3) := by decide +kernel
theorem dd_22_15 : decode prog_3_method_6_code 15 = .ok (.if_icmp .ge 40, 3) := by decide +kernel
theorem dd_22_18 : decode prog_3_method_6_code 18 = .ok (.aload_n 0, 1) := by decide +kernel
theorem dd_22_19 : decode prog_3_method_6_code 19 = .ok (.getfield 22, 3) := by decide +kernel
theorem dd_22_22 : decode prog_3_method_6_code 22 = .ok (.aload_n 0, 1) := by decide +kernel
theorem dd_22_23 : decode prog_3_method_6_code 23 = .ok (.getfield 15, 3) := by decide +kernel
theorem dd_22_26 : decode prog_3_method_6_code 26 = .ok (.iload_n 3, 1) := by decide +kernel
theorem dd_22_27 : decode prog_3_method_6_code 27 = .ok (.iaload, 1) := by decide +kernel
theorem dd_22_28 : decode prog_3_method_6_code 28 = .ok (.invokevirtual 42, 3) := by decide +kernel
theorem dd_22_31 : decode prog_3_method_6_code 31 = .ok (.istore 4, 2) := by decide +kernel
theorem dd_22_33 : decode prog_3_method_6_code 33 = .ok (.iload 4, 2) := by decide +kernel
theorem dd_22_35 : decode prog_3_method_6_code 35 = .ok (.iload_n 2, 1) := by decide +kernel
theorem dd_22_36 : decode prog_3_method_6_code 36 = .ok (.if_icmp .le 13, 3) := by decide +kernel
theorem dd_22_39 : decode prog_3_method_6_code 39 = .ok (.aload_n 0, 1) := by decide +kernel
theorem dd_22_40 : decode prog_3_method_6_code 40 = .ok (.getfield 15, 3) := by decide +kernel
theorem dd_22_43 : decode prog_3_method_6_code 43 = .ok (.iload_n 3, 1) := by decide +kernel
theorem dd_22_44 : decode prog_3_method_6_code 44 = .ok (.iaload, 1) := by decide +kernel
theorem dd_22_45 : decode prog_3_method_6_code 45 = .ok (.istore_n 1, 1) := by decide +kernel
theorem dd_22_46 : decode prog_3_method_6_code 46 = .ok (.iload 4, 2) := by decide +kernel
theorem dd_22_48 : decode prog_3_method_6_code 48 = .ok (.istore_n 2, 1) := by decide +kernel
theorem dd_22_49 : decode prog_3_method_6_code 49 = .ok (.iinc 3 1, 3) := by decide +kernel
theorem dd_22_52 : decode prog_3_method_6_code 52 = .ok (.goto (-42), 3) := by decide +kernel
theorem dd_22_55 : decode prog_3_method_6_code 55 = .ok (.iload_n 1, 1) := by decide +kernel
theorem dd_22_56 : decode prog_3_method_6_code 56 = .ok (.ireturn, 1) := by decide +kernel
theorem ks_22_0 : mi_snd cs_G cs_cl cs_inf 22 0 (mj_aload 0 1) := ms_aload_n (mi_dec ib_22 dd_22_0) rfl
theorem ks_22_1 : mi_snd cs_G cs_cl cs_inf 22 1 (mj_callV 2 14 0 4 4) := ms_callV iw_c14 (mi_dec ib_22 dd_22_1) gw_318 iw_i14 rfl iw_v14 iw_n14 (by decide +kernel) rfl (by decide)
theorem ks_22_4 : mi_snd cs_G cs_cl cs_inf 22 4 (mj_push (.inl 0) 5) := ms_iconst (mi_dec ib_22 dd_22_4) (by decide)
theorem ks_22_5 : mi_snd cs_G cs_cl cs_inf 22 5 (mj_istore 1 6) := ms_istore_n (mi_dec ib_22 dd_22_5) rfl
theorem ks_22_6 : mi_snd cs_G cs_cl cs_inf 22 6 (mj_push (.inl 0) 7) := ms_iconst (mi_dec ib_22 dd_22_6) (by decide)
theorem ks_22_7 : mi_snd cs_G cs_cl cs_inf 22 7 (mj_istore 2 8) := ms_istore_n (mi_dec ib_22 dd_22_7) rfl
theorem ks_22_8 : mi_snd cs_G cs_cl cs_inf 22 8 (mj_push (.inl 0) 9) := ms_iconst (mi_dec ib_22 dd_22_8) (by decide)
theorem ks_22_9 : mi_snd cs_G cs_cl cs_inf 22 9 (mj_istore 3 10) := ms_istore_n (mi_dec ib_22 dd_22_9) rfl
theorem ks_22_10 : mi_snd cs_G cs_cl cs_inf 22 10 (mj_iload 3 11) := ms_iload_n (mi_dec ib_22 dd_22_10) rfl
theorem ks_22_11 : mi_snd cs_G cs_cl cs_inf 22 11 (mj_aload 0 12) := ms_aload_n (mi_dec ib_22 dd_22_11) rfl
theorem ks_22_12 : mi_snd cs_G cs_cl cs_inf 22 12 (mj_get 2 4 15) := ms_get (T := cs_T2) (k := 4) (mi_dec ib_22 dd_22_12) rfl cs_in2 (by decide) gw_59
theorem ks_22_15 : mi_snd cs_G cs_cl cs_inf 22 15 (mj_cmp (fun x y => decide (y ≤ x)) 55 18) := ms_icmp_ge (mi_dec ib_22 dd_22_15) (by decide)
theorem ks_22_18 : mi_snd cs_G cs_cl cs_inf 22 18 (mj_aload 0 19) := ms_aload_n (mi_dec ib_22 dd_22_18) rfl
theorem ks_22_19 : mi_snd cs_G cs_cl cs_inf 22 19 (mj_get 2 0 22) := ms_get (T := cs_T2) (k := 0) (mi_dec ib_22 dd_22_19) rfl cs_in2 (by decide) gw_55
theorem ks_22_22 : mi_snd cs_G cs_cl cs_inf 22 22 (mj_aload 0 23) := ms_aload_n (mi_dec ib_22 dd_22_22) rfl
theorem ks_22_23 : mi_snd cs_G cs_cl cs_inf 22 23 (mj_get 2 3 26) := ms_get (T := cs_T2) (k := 3) (mi_dec ib_22 dd_22_23) rfl cs_in2 (by decide) gw_58
theorem ks_22_26 : mi_snd cs_G cs_cl cs_inf 22 26 (mj_iload 3 27) := ms_iload_n (mi_dec ib_22 dd_22_26) rfl
theorem ks_22_27 : mi_snd cs_G cs_cl cs_inf 22 27 (mj_ald 0 28) := ms_ald0 (mi_dec ib_22 dd_22_27)
theorem ks_22_28 : mi_snd cs_G cs_cl cs_inf 22 28 (mj_callV 1 23 1 4 31) := ms_callVN iw_c23 (mi_dec ib_22 dd_22_28) gw_359 iw_i23 rfl iw_v23 iw_n23 (by decide +kernel) rfl (by decide)
theorem ks_22_31 : mi_snd cs_G cs_cl cs_inf 22 31 (mj_istore 4 33) := ms_istore (mi_dec ib_22 dd_22_31)
theorem ks_22_33 : mi_snd cs_G cs_cl cs_inf 22 33 (mj_iload 4 35) := ms_iload (mi_dec ib_22 dd_22_33)
theorem ks_22_35 : mi_snd cs_G cs_cl cs_inf 22 35 (mj_iload 2 36) := ms_iload_n (mi_dec ib_22 dd_22_35) rfl
theorem ks_22_36 : mi_snd cs_G cs_cl cs_inf 22 36 (mj_cmp (fun x y => decide (x ≤ y)) 49 39) := ms_icmp_le (mi_dec ib_22 dd_22_36) (by decide)
theorem ks_22_39 : mi_snd cs_G cs_cl cs_inf 22 39 (mj_aload 0 40) := ms_aload_n (mi_dec ib_22 dd_22_39) rfl
theorem ks_22_40 : mi_snd cs_G cs_cl cs_inf 22 40 (mj_get 2 3 43) := ms_get (T := cs_T2) (k := 3) (mi_dec ib_22 dd_22_40) rfl cs_in2 (by decide) gw_58
theorem ks_22_43 : mi_snd cs_G cs_cl cs_inf 22 43 (mj_iload 3 44) := ms_iload_n (mi_dec ib_22 dd_22_43) rfl
theorem ks_22_44 : mi_snd cs_G cs_cl cs_inf 22 44 (mj_ald 0 45) := ms_ald0 (mi_dec ib_22 dd_22_44)
theorem ks_22_45 : mi_snd cs_G cs_cl cs_inf 22 45 (mj_istore 1 46) := ms_istore_n (mi_dec ib_22 dd_22_45) rfl
theorem ks_22_46 : mi_snd cs_G cs_cl cs_inf 22 46 (mj_iload 4 48) := ms_iload (mi_dec ib_22 dd_22_46)
theorem ks_22_48 : mi_snd cs_G cs_cl cs_inf 22 48 (mj_istore 2 49) := ms_istore_n (mi_dec ib_22 dd_22_48) rfl
theorem ks_22_49 : mi_snd cs_G cs_cl cs_inf 22 49 (mj_iinc 3 1 52) := ms_iinc (mi_dec ib_22 dd_22_49) (by decide)
theorem ks_22_52 : mi_snd cs_G cs_cl cs_inf 22 52 (mj_goto 10) := ms_goto (mi_dec ib_22 dd_22_52) (by decide)
theorem ks_22_55 : mi_snd cs_G cs_cl cs_inf 22 55 (mj_iload 1 56) := ms_iload_n (mi_dec ib_22 dd_22_55) rfl
theorem ks_22_56 : mi_snd cs_G cs_cl cs_inf 22 56 (mj_iret) := ms_iret (mi_dec ib_22 dd_22_56) rfl
def ct_22 : List (Nat × mi_I) := [
  (0, mj_aload 0 1),
  (1, mj_callV 2 14 0 4 4),
  (4, mj_push (.inl 0) 5),
  (5, mj_istore 1 6),
  (6, mj_push (.inl 0) 7),
  (7, mj_istore 2 8),
  (8, mj_push (.inl 0) 9),
  (9, mj_istore 3 10),
  (10, mj_iload 3 11),
  (11, mj_aload 0 12),
  (12, mj_get 2 4 15),
  (15, mj_cmp (fun x y => decide (y ≤ x)) 55 18),
  (18, mj_aload 0 19),
  (19, mj_get 2 0 22),
  (22, mj_aload 0 23),
  (23, mj_get 2 3 26),
  (26, mj_iload 3 27),
  (27, mj_ald 0 28),
  (28, mj_callV 1 23 1 4 31),
  (31, mj_istore 4 33),
  (33, mj_iload 4 35),
  (35, mj_iload 2 36),
  (36, mj_cmp (fun x y => decide (x ≤ y)) 49 39),
  (39, mj_aload 0 40),
  (40, mj_get 2 3 43),
  (43, mj_iload 3 44),
  (44, mj_ald 0 45),
  (45, mj_istore 1 46),
  (46, mj_iload 4 48),
  (48, mj_istore 2 49),
  (49, mj_iinc 3 1 52),
  (52, mj_goto 10),
  (55, mj_iload 1 56),
  (56, mj_iret)]
theorem sd_22 : ∀ q ∈ ct_22, mi_snd cs_G cs_cl cs_inf 22 q.1 q.2 := mi_fc ks_22_0 (mi_fc ks_22_1 (mi_fc ks_22_4 (mi_fc ks_22_5 (mi_fc ks_22_6 (mi_fc ks_22_7 (mi_fc ks_22_8 (mi_fc ks_22_9 (mi_fc ks_22_10 (mi_fc ks_22_11 (mi_fc ks_22_12 (mi_fc ks_22_15 (mi_fc ks_22_18 (mi_fc ks_22_19 (mi_fc ks_22_22 (mi_fc ks_22_23 (mi_fc ks_22_26 (mi_fc ks_22_27 (mi_fc ks_22_28 (mi_fc ks_22_31 (mi_fc ks_22_33 (mi_fc ks_22_35 (mi_fc ks_22_36 (mi_fc ks_22_39 (mi_fc ks_22_40 (mi_fc ks_22_43 (mi_fc ks_22_44 (mi_fc ks_22_45 (mi_fc ks_22_46 (mi_fc ks_22_48 (mi_fc ks_22_49 (mi_fc ks_22_52 (mi_fc ks_22_55 (mi_fc ks_22_56 mi_fn)))))))))))))))))))))))))))))))))
theorem dd_23_0 : decode prog_5_method_11_code 0 = .ok (.iconst 0, 1) := by decide +kernel
theorem dd_23_1 : decode prog_5_method_11_code 1 = .ok (.istore_n 2, 1) := by decide +kernel
theorem dd_23_2 : decode prog_5_method_11_code 2 = .ok (.iconst 0, 1) := by decide +kernel
theorem dd_23_3 : decode prog_5_method_11_code 3 = .ok (.istore_n 3, 1) := by decide +kernel
theorem dd_23_4 : decode prog_5_method_11_code 4 = .ok (.iload_n 3, 1) := by decide +kernel
theorem dd_23_5 : decode prog_5_method_11_code 5 = .ok (.aload_n 0, 1) := by decide +kernel
theorem dd_23_6 : decode prog_5_method_11_code 6 = .ok (.getfield 18, 3) := by decide +kernel
theorem dd_23_9 : decode prog_5_method_11_code 9 = .ok (.if_icmp .ge 30, 3) := by decide +kernel
theorem dd_23_12 : decode prog_5_method_11_code 12 = .ok (.iload_n 2, 1) := by decide +kernel
theorem dd_23_13 : decode prog_5_method_11_code 13 = .ok (.iload_n 1, 1) := by decide +kernel
theorem dd_23_14 : decode prog_5_method_11_code 14 = .ok (.iload_n 3, 1) := by decide +kernel
theorem dd_23_15 : decode prog_5_method_11_code 15 = .ok (.invokestatic 46, 3) := by decide +kernel
theorem dd_23_18 : decode prog_5_method_11_code 18 = .ok (.ifCond .eq 12, 3) := by decide +kernel
theorem dd_23_21 : decode prog_5_method_11_code 21 = .ok (.aload_n 0, 1) := by decide +kernel
theorem dd_23_22 : decode prog_5_method_11_code 22 = .ok (.getfield 9, 3) := by decide +kernel
theorem dd_23_25 : decode prog_5_method_11_code 25 = .ok (.iload_n 3, 1) := by decide +kernel
theorem dd_23_26 : decode prog_5_method_11_code 26 = .ok (.iaload, 1) := by decide +kernel
theorem dd_23_27 : decode prog_5_method_11_code 27 = .ok (.goto 4, 3) := by decide +kernel
theorem dd_23_30 : decode prog_5_method_11_code 30 = .ok (.iconst 0, 1) := by decide +kernel
theorem dd_23_31 : decode prog_5_method_11_code 31 = .ok (.iadd, 1) := by decide +kernel
theorem dd_23_32 : decode prog_5_method_11_code 32 = .ok (.istore_n 2, 1) := by decide +kernel
theorem dd_23_33 : decode prog_5_method_11_code 33 = .ok (.iinc 3 1, 3) := by decide +kernel
theorem dd_23_36 : decode prog_5_method_11_code 36 = .ok (.goto (-32), 3) := by decide +kernel
theorem dd_23_39 : decode prog_5_method_11_code 39 = .ok (.iload_n 2, 1) := by decide +kernel
theorem dd_23_40 : decode prog_5_method_11_code 40 = .ok (.ireturn, 1) := by decide +kernel
theorem ks_23_0 : mi_snd cs_G cs_cl cs_inf 23 0 (mj_push (.inl 0) 1) := ms_iconst (mi_dec ib_23 dd_23_0) (by decide)
theorem ks_23_1 : mi_snd cs_G cs_cl cs_inf 23 1 (mj_istore 2 2) := ms_istore_n (mi_dec ib_23 dd_23_1) rfl
theorem ks_23_2 : mi_snd cs_G cs_cl cs_inf 23 2 (mj_push (.inl 0) 3) := ms_iconst (mi_dec ib_23 dd_23_2) (by decide)
theorem ks_23_3 : mi_snd cs_G cs_cl cs_inf 23 3 (mj_istore 3 4) := ms_istore_n (mi_dec ib_23 dd_23_3) rfl
theorem ks_23_4 : mi_snd cs_G cs_cl cs_inf 23 4 (mj_iload 3 5) := ms_iload_n (mi_dec ib_23 dd_23_4) rfl
theorem ks_23_5 : mi_snd cs_G cs_cl cs_inf 23 5 (mj_aload 0 6) := ms_aload_n (mi_dec ib_23 dd_23_5) rfl
theorem ks_23_6 : mi_snd cs_G cs_cl cs_inf 23 6 (mj_get 1 0 9) := ms_get (T := cs_T1) (k := 0) (mi_dec ib_23 dd_23_6) rfl cs_in1 (by decide) gw_29
theorem ks_23_9 : mi_snd cs_G cs_cl cs_inf 23 9 (mj_cmp (fun x y => decide (y ≤ x)) 39 12) := ms_icmp_ge (mi_dec ib_23 dd_23_9) (by decide)
theorem ks_23_12 : mi_snd cs_G cs_cl cs_inf 23 12 (mj_iload 2 13) := ms_iload_n (mi_dec ib_23 dd_23_12) rfl
theorem ks_23_13 : mi_snd cs_G cs_cl cs_inf 23 13 (mj_iload 1 14) := ms_iload_n (mi_dec ib_23 dd_23_13) rfl
theorem ks_23_14 : mi_snd cs_G cs_cl cs_inf 23 14 (mj_iload 3 15) := ms_iload_n (mi_dec ib_23 dd_23_14) rfl
theorem ks_23_15 : mi_snd cs_G cs_cl cs_inf 23 15 (mj_callS 7 2 2 18) := ms_callSN iw_c7 (mi_dec ib_23 dd_23_15) gw_363 iw_s7 iw_n7 (by decide +kernel) rfl (by decide)
theorem ks_23_18 : mi_snd cs_G cs_cl cs_inf 23 18 (mj_if (fun x => decide (x = 0)) 30 21) := ms_if_eq (mi_dec ib_23 dd_23_18) (by decide)
theorem ks_23_21 : mi_snd cs_G cs_cl cs_inf 23 21 (mj_aload 0 22) := ms_aload_n (mi_dec ib_23 dd_23_21) rfl
theorem ks_23_22 : mi_snd cs_G cs_cl cs_inf 23 22 (mj_get 1 2 25) := ms_get (T := cs_T1) (k := 2) (mi_dec ib_23 dd_23_22) rfl cs_in1 (by decide) gw_37
theorem ks_23_25 : mi_snd cs_G cs_cl cs_inf 23 25 (mj_iload 3 26) := ms_iload_n (mi_dec ib_23 dd_23_25) rfl
theorem ks_23_26 : mi_snd cs_G cs_cl cs_inf 23 26 (mj_ald 0 27) := ms_ald0 (mi_dec ib_23 dd_23_26)
theorem ks_23_27 : mi_snd cs_G cs_cl cs_inf 23 27 (mj_goto 31) := ms_goto (mi_dec ib_23 dd_23_27) (by decide)
theorem ks_23_30 : mi_snd cs_G cs_cl cs_inf 23 30 (mj_push (.inl 0) 31) := ms_iconst (mi_dec ib_23 dd_23_30) (by decide)
theorem ks_23_31 : mi_snd cs_G cs_cl cs_inf 23 31 (mj_bin (fun x y => x + y) 32) := ms_iadd (mi_dec ib_23 dd_23_31)
theorem ks_23_32 : mi_snd cs_G cs_cl cs_inf 23 32 (mj_istore 2 33) := ms_istore_n (mi_dec ib_23 dd_23_32) rfl
theorem ks_23_33 : mi_snd cs_G cs_cl cs_inf 23 33 (mj_iinc 3 1 36) := ms_iinc (mi_dec ib_23 dd_23_33) (by decide)
theorem ks_23_36 : mi_snd cs_G cs_cl cs_inf 23 36 (mj_goto 4) := ms_goto (mi_dec ib_23 dd_23_36) (by decide)
theorem ks_23_39 : mi_snd cs_G cs_cl cs_inf 23 39 (mj_iload 2 40) := ms_iload_n (mi_dec ib_23 dd_23_39) rfl
theorem ks_23_40 : mi_snd cs_G cs_cl cs_inf 23 40 (mj_iret) := ms_iret (mi_dec ib_23 dd_23_40) rfl
def ct_23 : List (Nat × mi_I) := [
  (0, mj_push (.inl 0) 1),
  (1, mj_istore 2 2),
  (2, mj_push (.inl 0) 3),
  (3, mj_istore 3 4),
  (4, mj_iload 3 5),
  (5, mj_aload 0 6),
  (6, mj_get 1 0 9),
  (9, mj_cmp (fun x y => decide (y ≤ x)) 39 12),
  (12, mj_iload 2 13),
  (13, mj_iload 1 14),
  (14, mj_iload 3 15),
  (15, mj_callS 7 2 2 18),
  (18, mj_if (fun x => decide (x = 0)) 30 21),
  (21, mj_aload 0 22),
  (22, mj_get 1 2 25),
  (25, mj_iload 3 26),
  (26, mj_ald 0 27),
  (27, mj_goto 31),
  (30, mj_push (.inl 0) 31),
  (31, mj_bin (fun x y => x + y) 32),
  (32, mj_istore 2 33),
  (33, mj_iinc 3 1 36),
  (36, mj_goto 4),
  (39, mj_iload 2 40),
  (40, mj_iret)]
theorem sd_23 : ∀ q ∈ ct_23, mi_snd cs_G cs_cl cs_inf 23 q.1 q.2 := mi_fc ks_23_0 (mi_fc ks_23_1 (mi_fc ks_23_2 (mi_fc ks_23_3 (mi_fc ks_23_4 (mi_fc ks_23_5 (mi_fc ks_23_6 (mi_fc ks_23_9 (mi_fc ks_23_12 (mi_fc ks_23_13 (mi_fc ks_23_14 (mi_fc ks_23_15 (mi_fc ks_23_18 (mi_fc ks_23_21 (mi_fc ks_23_22 (mi_fc ks_23_25 (mi_fc ks_23_26 (mi_fc ks_23_27 (mi_fc ks_23_30 (mi_fc ks_23_31 (mi_fc ks_23_32 (mi_fc ks_23_33 (mi_fc ks_23_36 (mi_fc ks_23_39 (mi_fc ks_23_40 mi_fn))))))))))))))))))))))))
theorem dd_24_0 : decode prog_1_method_8_code 0 = .ok (.aload_n 0, 1) := by decide +kernel
theorem dd_24_1 : decode prog_1_method_8_code 1 = .ok (.getfield 21, 3) := by decide +kernel
theorem dd_24_4 : decode prog_1_method_8_code 4 = .ok (.invokevirtual 113, 3) := by decide +kernel
theorem dd_24_7 : decode prog_1_method_8_code 7 = .ok (.ireturn, 1) := by decide +kernel
theorem ks_24_0 : mi_snd cs_G cs_cl cs_inf 24 0 (mj_aload 0 1) := ms_aload_n (mi_dec ib_24 dd_24_0) rfl
theorem ks_24_1 : mi_snd cs_G cs_cl cs_inf 24 1 (mj_get 0 1 4) := ms_get (T := cs_T0) (k := 1) (mi_dec ib_24 dd_24_1) rfl cs_in0 (by decide) gw_232
theorem ks_24_4 : mi_snd cs_G cs_cl cs_inf 24 4 (mj_callV 2 25 0 1 7) := ms_callVN iw_c25 (mi_dec ib_24 dd_24_4) gw_368 iw_i25 rfl iw_v25 iw_n25 (by decide +kernel) rfl (by decide)
theorem ks_24_7 : mi_snd cs_G cs_cl cs_inf 24 7 (mj_iret) := ms_iret (mi_dec ib_24 dd_24_7) rfl
def ct_24 : List (Nat × mi_I) := [
  (0, mj_aload 0 1),
  (1, mj_get 0 1 4),
  (4, mj_callV 2 25 0 1 7),
  (7, mj_iret)]
theorem sd_24 : ∀ q ∈ ct_24, mi_snd cs_G cs_cl cs_inf 24 q.1 q.2 := mi_fc ks_24_0 (mi_fc ks_24_1 (mi_fc ks_24_4 (mi_fc ks_24_7 mi_fn)))
theorem dd_25_0 : decode prog_3_method_2_code 0 = .ok (.aload_n 0, 1) := by decide +kernel
theorem dd_25_1 : decode prog_3_method_2_code 1 = .ok (.invokevirtual 30, 3) := by decide +kernel
theorem dd_25_4 : decode prog_3_method_2_code 4 = .ok (.aload_n 0, 1) := by decide +kernel
theorem dd_25_5 : decode prog_3_method_2_code 5 = .ok (.getfield 33, 3) := by decide +kernel
theorem dd_25_8 : decode prog_3_method_2_code 8 = .ok (.ireturn, 1) := by decide +kernel
theorem ks_25_0 : mi_snd cs_G cs_cl cs_inf 25 0 (mj_aload 0 1) := ms_aload_n (mi_dec ib_25 dd_25_0) rfl
theorem ks_25_1 : mi_snd cs_G cs_cl cs_inf 25 1 (mj_callV 2 14 0 4 4) := ms_callV iw_c14 (mi_dec ib_25 dd_25_1) gw_318 iw_i14 rfl iw_v14 iw_n14 (by decide +kernel) rfl (by decide)
theorem ks_25_4 : mi_snd cs_G cs_cl cs_inf 25 4 (mj_aload 0 5) := ms_aload_n (mi_dec ib_25 dd_25_4) rfl
theorem ks_25_5 : mi_snd cs_G cs_cl cs_inf 25 5 (mj_get 2 4 8) := ms_get (T := cs_T2) (k := 4) (mi_dec ib_25 dd_25_5) rfl cs_in2 (by decide) gw_59
theorem ks_25_8 : mi_snd cs_G cs_cl cs_inf 25 8 (mj_iret) := ms_iret (mi_dec ib_25 dd_25_8) rfl
def ct_25 : List (Nat × mi_I) := [
  (0, mj_aload 0 1),
  (1, mj_callV 2 14 0 4 4),
  (4, mj_aload 0 5),
  (5, mj_get 2 4 8),
  (8, mj_iret)]
theorem sd_25 : ∀ q ∈ ct_25, mi_snd cs_G cs_cl cs_inf 25 q.1 q.2 := mi_fc ks_25_0 (mi_fc ks_25_1 (mi_fc ks_25_4 (mi_fc ks_25_5 (mi_fc ks_25_8 mi_fn))))
theorem dd_26_0 : decode prog_1_method_9_code 0 = .ok (.iload_n 1, 1) := by decide +kernel
theorem dd_26_1 : decode prog_1_method_9_code 1 = .ok (.ifCond .lt 25, 3) := by decide +kernel
theorem dd_26_4 : decode prog_1_method_9_code 4 = .ok (.iload_n 1, 1) := by decide +kernel
theorem dd_26_5 : decode prog_1_method_9_code 5 = .ok (.aload_n 0, 1) := by decide +kernel
theorem dd_26_6 : decode prog_1_method_9_code 6 = .ok (.getfield 21, 3) := by decide +kernel
theorem dd_26_9 : decode prog_1_method_9_code 9 = .ok (.invokevirtual 113, 3) := by decide +kernel
theorem dd_26_12 : decode prog_1_method_9_code 12 = .ok (.if_icmp .ge 14, 3) := by decide +kernel
theorem dd_26_15 : decode prog_1_method_9_code 15 = .ok (.aload_n 0, 1) := by decide +kernel
theorem dd_26_16 : decode prog_1_method_9_code 16 = .ok (.getfield 21, 3) := by decide +kernel
theorem dd_26_19 : decode prog_1_method_9_code 19 = .ok (.iload_n 1, 1) := by decide +kernel
theorem dd_26_20 : decode prog_1_method_9_code 20 = .ok (.invokevirtual 116, 3) := by decide +kernel
theorem dd_26_23 : decode prog_1_method_9_code 23 = .ok (.goto 4, 3) := by decide +kernel
theorem dd_26_26 : decode prog_1_method_9_code 26 = .ok (.iconst (-1), 1) := by decide +kernel
theorem dd_26_27 : decode prog_1_method_9_code 27 = .ok (.ireturn, 1) := by decide +kernel
theorem ks_26_0 : mi_snd cs_G cs_cl cs_inf 26 0 (mj_iload 1 1) := ms_iload_n (mi_dec ib_26 dd_26_0) rfl
theorem ks_26_1 : mi_snd cs_G cs_cl cs_inf 26 1 (mj_if (fun x => decide (x < 0)) 26 4) := ms_if_lt (mi_dec ib_26 dd_26_1) (by decide)
theorem ks_26_4 : mi_snd cs_G cs_cl cs_inf 26 4 (mj_iload 1 5) := ms_iload_n (mi_dec ib_26 dd_26_4) rfl
theorem ks_26_5 : mi_snd cs_G cs_cl cs_inf 26 5 (mj_aload 0 6) := ms_aload_n (mi_dec ib_26 dd_26_5) rfl
theorem ks_26_6 : mi_snd cs_G cs_cl cs_inf 26 6 (mj_get 0 1 9) := ms_get (T := cs_T0) (k := 1) (mi_dec ib_26 dd_26_6) rfl cs_in0 (by decide) gw_232
theorem ks_26_9 : mi_snd cs_G cs_cl cs_inf 26 9 (mj_callV 2 25 0 1 12) := ms_callVN iw_c25 (mi_dec ib_26 dd_26_9) gw_368 iw_i25 rfl iw_v25 iw_n25 (by decide +kernel) rfl (by decide)
theorem ks_26_12 : mi_snd cs_G cs_cl cs_inf 26 12 (mj_cmp (fun x y => decide (y ≤ x)) 26 15) := ms_icmp_ge (mi_dec ib_26 dd_26_12) (by decide)
theorem ks_26_15 : mi_snd cs_G cs_cl cs_inf 26 15 (mj_aload 0 16) := ms_aload_n (mi_dec ib_26 dd_26_15) rfl
theorem ks_26_16 : mi_snd cs_G cs_cl cs_inf 26 16 (mj_get 0 1 19) := ms_get (T := cs_T0) (k := 1) (mi_dec ib_26 dd_26_16) rfl cs_in0 (by decide) gw_232
theorem ks_26_19 : mi_snd cs_G cs_cl cs_inf 26 19 (mj_iload 1 20) := ms_iload_n (mi_dec ib_26 dd_26_19) rfl
theorem ks_26_20 : mi_snd cs_G cs_cl cs_inf 26 20 (mj_callV 2 27 1 2 23) := ms_callVN iw_c27 (mi_dec ib_26 dd_26_20) gw_376 iw_i27 rfl iw_v27 iw_n27 (by decide +kernel) rfl (by decide)
theorem ks_26_23 : mi_snd cs_G cs_cl cs_inf 26 23 (mj_goto 27) := ms_goto (mi_dec ib_26 dd_26_23) (by decide)
theorem ks_26_26 : mi_snd cs_G cs_cl cs_inf 26 26 (mj_push (.inl (-1)) 27) := ms_iconst (mi_dec ib_26 dd_26_26) (by decide)
theorem ks_26_27 : mi_snd cs_G cs_cl cs_inf 26 27 (mj_iret) := ms_iret (mi_dec ib_26 dd_26_27) rfl
def ct_26 : List (Nat × mi_I) := [
  (0, mj_iload 1 1),
  (1, mj_if (fun x => decide (x < 0)) 26 4),
  (4, mj_iload 1 5),
  (5, mj_aload 0 6),
  (6, mj_get 0 1 9),
  (9, mj_callV 2 25 0 1 12),
  (12, mj_cmp (fun x y => decide (y ≤ x)) 26 15),
  (15, mj_aload 0 16),
  (16, mj_get 0 1 19),
  (19, mj_iload 1 20),
  (20, mj_callV 2 27 1 2 23),
  (23, mj_goto 27),
  (26, mj_push (.inl (-1)) 27),
  (27, mj_iret)]
theorem sd_26 : ∀ q ∈ ct_26, mi_snd cs_G cs_cl cs_inf 26 q.1 q.2 := mi_fc ks_26_0 (mi_fc ks_26_1 (mi_fc ks_26_4 (mi_fc ks_26_5 (mi_fc ks_26_6 (mi_fc ks_26_9 (mi_fc ks_26_12 (mi_fc ks_26_15 (mi_fc ks_26_16 (mi_fc ks_26_19 (mi_fc ks_26_20 (mi_fc ks_26_23 (mi_fc ks_26_26 (mi_fc ks_26_27 mi_fn)))))))))))))
theorem dd_27_0 : decode prog_3_method_3_code 0 = .ok (.iload_n 1, 1) := by decide +kernel
theorem dd_27_1 : decode prog_3_method_3_code 1 = .ok (.ifCond .lt 20, 3) := by decide +kernel
theorem dd_27_4 : decode prog_3_method_3_code 4 = .ok (.iload_n 1, 1) := by decide +kernel
theorem dd_27_5 : decode prog_3_method_3_code 5 = .ok (.aload_n 0, 1) := by decide +kernel
theorem dd_27_6 : decode prog_3_method_3_code 6 = .ok (.getfield 33, 3) := by decide +kernel
theorem dd_27_9 : decode prog_3_method_3_code 9 = .ok (.if_icmp .ge 12, 3) := by decide +kernel
theorem dd_27_12 : decode prog_3_method_3_code 12 = .ok (.aload_n 0, 1) := by decide +kernel
theorem dd_27_13 : decode prog_3_method_3_code 13 = .ok (.getfield 15, 3) := by decide +kernel
theorem dd_27_16 : decode prog_3_method_3_code 16 = .ok (.iload_n 1, 1) := by decide +kernel
theorem dd_27_17 : decode prog_3_method_3_code 17 = .ok (.iaload, 1) := by decide +kernel
theorem dd_27_18 : decode prog_3_method_3_code 18 = .ok (.goto 4, 3) := by decide +kernel
theorem dd_27_21 : decode prog_3_method_3_code 21 = .ok (.iconst (-1), 1) := by decide +kernel
theorem dd_27_22 : decode prog_3_method_3_code 22 = .ok (.ireturn, 1) := by decide +kernel
theorem ks_27_0 : mi_snd cs_G cs_cl cs_inf 27 0 (mj_iload 1 1) := ms_iload_n (mi_dec ib_27 dd_27_0) rfl
theorem ks_27_1 : mi_snd cs_G cs_cl cs_inf 27 1 (mj_if (fun x => decide (x < 0)) 21 4) := ms_if_lt (mi_dec ib_27 dd_27_1) (by decide)
theorem ks_27_4 : mi_snd cs_G cs_cl cs_inf 27 4 (mj_iload 1 5) := ms_iload_n (mi_dec ib_27 dd_27_4) rfl
theorem ks_27_5 : mi_snd cs_G cs_cl cs_inf 27 5 (mj_aload 0 6) := ms_aload_n (mi_dec ib_27 dd_27_5) rfl
theorem ks_27_6 : mi_snd cs_G cs_cl cs_inf 27 6 (mj_get 2 4 9) := ms_get (T := cs_T2) (k := 4) (mi_dec ib_27 dd_27_6) rfl cs_in2 (by decide) gw_59
theorem ks_27_9 : mi_snd cs_G cs_cl cs_inf 27 9 (mj_cmp (fun x y => decide (y ≤ x)) 21 12) := ms_icmp_ge (mi_dec ib_27 dd_27_9) (by decide)
theorem ks_27_12 : mi_snd cs_G cs_cl cs_inf 27 12 (mj_aload 0 13) := ms_aload_n (mi_dec ib_27 dd_27_12) rfl
theorem ks_27_13 : mi_snd cs_G cs_cl cs_inf 27 13 (mj_get 2 3 16) := ms_get (T := cs_T2) (k := 3) (mi_dec ib_27 dd_27_13) rfl cs_in2 (by decide) gw_58
theorem ks_27_16 : mi_snd cs_G cs_cl cs_inf 27 16 (mj_iload 1 17) := ms_iload_n (mi_dec ib_27 dd_27_16) rfl
theorem ks_27_17 : mi_snd cs_G cs_cl cs_inf 27 17 (mj_ald 0 18) := ms_ald0 (mi_dec ib_27 dd_27_17)
theorem ks_27_18 : mi_snd cs_G cs_cl cs_inf 27 18 (mj_goto 22) := ms_goto (mi_dec ib_27 dd_27_18) (by decide)
theorem ks_27_21 : mi_snd cs_G cs_cl cs_inf 27 21 (mj_push (.inl (-1)) 22) := ms_iconst (mi_dec ib_27 dd_27_21) (by decide)
theorem ks_27_22 : mi_snd cs_G cs_cl cs_inf 27 22 (mj_iret) := ms_iret (mi_dec ib_27 dd_27_22) rfl
def ct_27 : List (Nat × mi_I) := [
  (0, mj_iload 1 1),
  (1, mj_if (fun x => decide (x < 0)) 21 4),
  (4, mj_iload 1 5),
  (5, mj_aload 0 6),
  (6, mj_get 2 4 9),
  (9, mj_cmp (fun x y => decide (y ≤ x)) 21 12),
  (12, mj_aload 0 13),
  (13, mj_get 2 3 16),
  (16, mj_iload 1 17),
  (17, mj_ald 0 18),
  (18, mj_goto 22),
  (21, mj_push (.inl (-1)) 22),
  (22, mj_iret)]
theorem sd_27 : ∀ q ∈ ct_27, mi_snd cs_G cs_cl cs_inf 27 q.1 q.2 := mi_fc ks_27_0 (mi_fc ks_27_1 (mi_fc ks_27_4 (mi_fc ks_27_5 (mi_fc ks_27_6 (mi_fc ks_27_9 (mi_fc ks_27_12 (mi_fc ks_27_13 (mi_fc ks_27_16 (mi_fc ks_27_17 (mi_fc ks_27_18 (mi_fc ks_27_21 (mi_fc ks_27_22 mi_fn))))))))))))
theorem dd_28_0 : decode prog_1_method_10_code 0 = .ok (.iload_n 1, 1) := by decide +kernel
theorem dd_28_1 : decode prog_1_method_10_code 1 = .ok (.ifCond .lt 20, 3) := by decide +kernel
theorem dd_28_4 : decode prog_1_method_10_code 4 = .ok (.iload_n 1, 1) := by decide +kernel
theorem dd_28_5 : decode prog_1_method_10_code 5 = .ok (.bipush 16, 2) := by decide +kernel
theorem dd_28_7 : decode prog_1_method_10_code 7 = .ok (.if_icmp .gt 14, 3) := by decide +kernel
theorem dd_28_10 : decode prog_1_method_10_code 10 = .ok (.aload_n 0, 1) := by decide +kernel
theorem dd_28_11 : decode prog_1_method_10_code 11 = .ok (.getfield 33, 3) := by decide +kernel
theorem dd_28_14 : decode prog_1_method_10_code 14 = .ok (.iload_n 1, 1) := by decide +kernel
theorem dd_28_15 : decode prog_1_method_10_code 15 = .ok (.invokevirtual 119, 3) := by decide +kernel
theorem dd_28_18 : decode prog_1_method_10_code 18 = .ok (.goto 4, 3) := by decide +kernel
theorem dd_28_21 : decode prog_1_method_10_code 21 = .ok (.iconst (-1), 1) := by decide +kernel
theorem dd_28_22 : decode prog_1_method_10_code 22 = .ok (.ireturn, 1) := by decide +kernel
theorem ks_28_0 : mi_snd cs_G cs_cl cs_inf 28 0 (mj_iload 1 1) := ms_iload_n (mi_dec ib_28 dd_28_0) rfl
theorem ks_28_1 : mi_snd cs_G cs_cl cs_inf 28 1 (mj_if (fun x => decide (x < 0)) 21 4) := ms_if_lt (mi_dec ib_28 dd_28_1) (by decide)
theorem ks_28_4 : mi_snd cs_G cs_cl cs_inf 28 4 (mj_iload 1 5) := ms_iload_n (mi_dec ib_28 dd_28_4) rfl
theorem ks_28_5 : mi_snd cs_G cs_cl cs_inf 28 5 (mj_push (.inl 16) 7) := ms_bipush (mi_dec ib_28 dd_28_5) (by decide)
theorem ks_28_7 : mi_snd cs_G cs_cl cs_inf 28 7 (mj_cmp (fun x y => decide (y < x)) 21 10) := ms_icmp_gt (mi_dec ib_28 dd_28_7) (by decide)
theorem ks_28_10 : mi_snd cs_G cs_cl cs_inf 28 10 (mj_aload 0 11) := ms_aload_n (mi_dec ib_28 dd_28_10) rfl
theorem ks_28_11 : mi_snd cs_G cs_cl cs_inf 28 11 (mj_get 0 3 14) := ms_get (T := cs_T0) (k := 3) (mi_dec ib_28 dd_28_11) rfl cs_in0 (by decide) gw_234
theorem ks_28_14 : mi_snd cs_G cs_cl cs_inf 28 14 (mj_iload 1 15) := ms_iload_n (mi_dec ib_28 dd_28_14) rfl
theorem ks_28_15 : mi_snd cs_G cs_cl cs_inf 28 15 (mj_callV 3 29 1 2 18) := ms_callVN iw_c29 (mi_dec ib_28 dd_28_15) gw_384 iw_i29 rfl iw_v29 iw_n29 (by decide +kernel) rfl (by decide)
theorem ks_28_18 : mi_snd cs_G cs_cl cs_inf 28 18 (mj_goto 22) := ms_goto (mi_dec ib_28 dd_28_18) (by decide)
theorem ks_28_21 : mi_snd cs_G cs_cl cs_inf 28 21 (mj_push (.inl (-1)) 22) := ms_iconst (mi_dec ib_28 dd_28_21) (by decide)
theorem ks_28_22 : mi_snd cs_G cs_cl cs_inf 28 22 (mj_iret) := ms_iret (mi_dec ib_28 dd_28_22) rfl
def ct_28 : List (Nat × mi_I) := [
  (0, mj_iload 1 1),
  (1, mj_if (fun x => decide (x < 0)) 21 4),
  (4, mj_iload 1 5),
  (5, mj_push (.inl 16) 7),
  (7, mj_cmp (fun x y => decide (y < x)) 21 10),
  (10, mj_aload 0 11),
  (11, mj_get 0 3 14),
  (14, mj_iload 1 15),
  (15, mj_callV 3 29 1 2 18),
  (18, mj_goto 22),
  (21, mj_push (.inl (-1)) 22),
  (22, mj_iret)]
theorem sd_28 : ∀ q ∈ ct_28, mi_snd cs_G cs_cl cs_inf 28 q.1 q.2 := mi_fc ks_28_0 (mi_fc ks_28_1 (mi_fc ks_28_4 (mi_fc ks_28_5 (mi_fc ks_28_7 (mi_fc ks_28_10 (mi_fc ks_28_11 (mi_fc ks_28_14 (mi_fc ks_28_15 (mi_fc ks_28_18 (mi_fc ks_28_21 (mi_fc ks_28_22 mi_fn)))))))))))
theorem dd_29_0 : decode prog_8_method_2_code 0 = .ok (.aload_n 0, 1) := by decide +kernel
theorem dd_29_1 : decode prog_8_method_2_code 1 = .ok (.getfield 15, 3) := by decide +kernel
theorem dd_29_4 : decode prog_8_method_2_code 4 = .ok (.aload_n 0, 1) := by decide +kernel
theorem dd_29_5 : decode prog_8_method_2_code 5 = .ok (.getfield 19, 3) := by decide +kernel
theorem dd_29_8 : decode prog_8_method_2_code 8 = .ok (.getfield 23, 3) := by decide +kernel
theorem dd_29_11 : decode prog_8_method_2_code 11 = .ok (.if_icmp .eq 35, 3) := by decide +kernel
theorem dd_29_14 : decode prog_8_method_2_code 14 = .ok (.aload_n 0, 1) := by decide +kernel
theorem dd_29_15 : decode prog_8_method_2_code 15 = .ok (.aload_n 0, 1) := by decide +kernel
theorem dd_29_16 : decode prog_8_method_2_code 16 = .ok (.getfield 19, 3) := by decide +kernel
theorem dd_29_19 : decode prog_8_method_2_code 19 = .ok (.getfield 23, 3) := by decide +kernel
theorem dd_29_22 : decode prog_8_method_2_code 22 = .ok (.putfield 15, 3) := by decide +kernel
theorem dd_29_25 : decode prog_8_method_2_code 25 = .ok (.aload_n 0, 1) := by decide +kernel
theorem dd_29_26 : decode prog_8_method_2_code 26 = .ok (.getfield 9, 3) := by decide +kernel
theorem dd_29_29 : decode prog_8_method_2_code 29 = .ok (.iconst 0, 1) := by decide +kernel
theorem dd_29_30 : decode prog_8_method_2_code 30 = .ok (.invokestatic 28, 3) := by decide +kernel
theorem dd_29_33 : decode prog_8_method_2_code 33 = .ok (.aload_n 0, 1) := by decide +kernel
theorem dd_29_34 : decode prog_8_method_2_code 34 = .ok (.iconst 0, 1) := by decide +kernel
theorem dd_29_35 : decode prog_8_method_2_code 35 = .ok (.aload_n 0, 1) := by decide +kernel
theorem dd_29_36 : decode prog_8_method_2_code 36 = .ok (.getfield 19, 3) := by decide +kernel
theorem dd_29_39 : decode prog_8_method_2_code 39 = .ok (.invokevirtual 34, 3) := by decide +kernel
theorem dd_29_42 : decode prog_8_method_2_code 42 = .ok (.iconst 0, 1) := by decide +kernel
theorem dd_29_43 : decode prog_8_method_2_code 43 = .ok (.invokestatic 38, 3) := by decide +kernel
theorem dd_29_46 : decode prog_8_method_2_code 46 = .ok (.iload_n 1, 1) := by decide +kernel
theorem dd_29_47 : decode prog_8_method_2_code 47 = .ok (.ifCond .lt 21, 3) := by decide +kernel
theorem dd_29_50 : decode prog_8_method_2_code 50 = .ok (.iload_n 1, 1) := by decide +kernel
theorem dd_29_51 : decode prog_8_method_2_code 51 = .ok (.aload_n 0, 1) := by decide +kernel
theorem dd_29_52 : decode prog_8_method_2_code 52 = .ok (.getfield 9, 3) := by decide +kernel
theorem dd_29_55 : decode prog_8_method_2_code 55 = .ok (.arraylength, 1) := by decide +kernel
theorem dd_29_56 : decode prog_8_method_2_code 56 = .ok (.if_icmp .ge 12, 3) := by decide +kernel
theorem dd_29_59 : decode prog_8_method_2_code 59 = .ok (.aload_n 0, 1) := by decide +kernel
theorem dd_29_60 : decode prog_8_method_2_code 60 = .ok (.getfield 9, 3) := by decide +kernel
theorem dd_29_63 : decode prog_8_method_2_code 63 = .ok (.iload_n 1, 1) := by decide +kernel
theorem dd_29_64 : decode prog_8_method_2_code 64 = .ok (.iaload, 1) := by decide +kernel
theorem dd_29_65 : decode prog_8_method_2_code 65 = .ok (.goto 4, 3) := by decide +kernel
theorem dd_29_68 : decode prog_8_method_2_code 68 = .ok (.iconst (-1), 1) := by decide +kernel
theorem dd_29_69 : decode prog_8_method_2_code 69 = .ok (.ireturn, 1) := by decide +kernel
theorem ks_29_0 : mi_snd cs_G cs_cl cs_inf 29 0 (mj_aload 0 1) := ms_aload_n (mi_dec ib_29 dd_29_0) rfl
theorem ks_29_1 : mi_snd cs_G cs_cl cs_inf 29 1 (mj_get 3 2 4) := ms_get (T := cs_T3) (k := 2) (mi_dec ib_29 dd_29_1) rfl cs_in3 (by decide) gw_82
theorem ks_29_4 : mi_snd cs_G cs_cl cs_inf 29 4 (mj_aload 0 5) := ms_aload_n (mi_dec ib_29 dd_29_4) rfl
theorem ks_29_5 : mi_snd cs_G cs_cl cs_inf 29 5 (mj_get 3 0 8) := ms_get (T := cs_T3) (k := 0) (mi_dec ib_29 dd_29_5) rfl cs_in3 (by decide) gw_80
theorem ks_29_8 : mi_snd cs_G cs_cl cs_inf 29 8 (mj_get 1 1 11) := ms_getN (T := cs_T1) (k := 1) (mi_dec ib_29 dd_29_8) rfl cs_in1 (by decide) gw_33
theorem ks_29_11 : mi_snd cs_G cs_cl cs_inf 29 11 (mj_cmp (fun x y => decide (x = y)) 46 14) := ms_icmp_eq (mi_dec ib_29 dd_29_11) (by decide)
theorem ks_29_14 : mi_snd cs_G cs_cl cs_inf 29 14 (mj_aload 0 15) := ms_aload_n (mi_dec ib_29 dd_29_14) rfl
theorem ks_29_15 : mi_snd cs_G cs_cl cs_inf 29 15 (mj_aload 0 16) := ms_aload_n (mi_dec ib_29 dd_29_15) rfl
theorem ks_29_16 : mi_snd cs_G cs_cl cs_inf 29 16 (mj_get 3 0 19) := ms_get (T := cs_T3) (k := 0) (mi_dec ib_29 dd_29_16) rfl cs_in3 (by decide) gw_80
theorem ks_29_19 : mi_snd cs_G cs_cl cs_inf 29 19 (mj_get 1 1 22) := ms_getN (T := cs_T1) (k := 1) (mi_dec ib_29 dd_29_19) rfl cs_in1 (by decide) gw_33
theorem ks_29_22 : mi_snd cs_G cs_cl cs_inf 29 22 (mj_putI 3 2 25) := ms_putI (T := cs_T3) (k := 2) (mi_dec ib_29 dd_29_22) rfl cs_in3 cs_ty3_ok cs_nm3 (by decide) gw_82 (by decide) (by decide +kernel)
theorem ks_29_25 : mi_snd cs_G cs_cl cs_inf 29 25 (mj_aload 0 26) := ms_aload_n (mi_dec ib_29 dd_29_25) rfl
theorem ks_29_26 : mi_snd cs_G cs_cl cs_inf 29 26 (mj_get 3 1 29) := ms_get (T := cs_T3) (k := 1) (mi_dec ib_29 dd_29_26) rfl cs_in3 (by decide) gw_81
theorem ks_29_29 : mi_snd cs_G cs_cl cs_inf 29 29 (mj_push (.inl 0) 30) := ms_iconst (mi_dec ib_29 dd_29_29) (by decide)
theorem ks_29_30 : mi_snd cs_G cs_cl cs_inf 29 30 (mj_callS 30 2 4 33) := ms_callS iw_c30 (mi_dec ib_29 dd_29_30) gw_388 iw_s30 iw_n30 (by decide +kernel) rfl (by decide)
theorem ks_29_33 : mi_snd cs_G cs_cl cs_inf 29 33 (mj_aload 0 34) := ms_aload_n (mi_dec ib_29 dd_29_33) rfl
theorem ks_29_34 : mi_snd cs_G cs_cl cs_inf 29 34 (mj_push (.inl 0) 35) := ms_iconst (mi_dec ib_29 dd_29_34) (by decide)
theorem ks_29_35 : mi_snd cs_G cs_cl cs_inf 29 35 (mj_aload 0 36) := ms_aload_n (mi_dec ib_29 dd_29_35) rfl
theorem ks_29_36 : mi_snd cs_G cs_cl cs_inf 29 36 (mj_get 3 0 39) := ms_get (T := cs_T3) (k := 0) (mi_dec ib_29 dd_29_36) rfl cs_in3 (by decide) gw_80
theorem ks_29_39 : mi_snd cs_G cs_cl cs_inf 29 39 (mj_callV 1 15 0 1 42) := ms_callVN iw_c15 (mi_dec ib_29 dd_29_39) gw_391 iw_i15 rfl iw_v15 iw_n15 (by decide +kernel) rfl (by decide)
theorem ks_29_42 : mi_snd cs_G cs_cl cs_inf 29 42 (mj_push (.inl 0) 43) := ms_iconst (mi_dec ib_29 dd_29_42) (by decide)
theorem ks_29_43 : mi_snd cs_G cs_cl cs_inf 29 43 (mj_callS 31 4 6 46) := ms_callS iw_c31 (mi_dec ib_29 dd_29_43) gw_392 iw_s31 iw_n31 (by decide +kernel) rfl (by decide)
theorem ks_29_46 : mi_snd cs_G cs_cl cs_inf 29 46 (mj_iload 1 47) := ms_iload_n (mi_dec ib_29 dd_29_46) rfl
theorem ks_29_47 : mi_snd cs_G cs_cl cs_inf 29 47 (mj_if (fun x => decide (x < 0)) 68 50) := ms_if_lt (mi_dec ib_29 dd_29_47) (by decide)
theorem ks_29_50 : mi_snd cs_G cs_cl cs_inf 29 50 (mj_iload 1 51) := ms_iload_n (mi_dec ib_29 dd_29_50) rfl
theorem ks_29_51 : mi_snd cs_G cs_cl cs_inf 29 51 (mj_aload 0 52) := ms_aload_n (mi_dec ib_29 dd_29_51) rfl
theorem ks_29_52 : mi_snd cs_G cs_cl cs_inf 29 52 (mj_get 3 1 55) := ms_get (T := cs_T3) (k := 1) (mi_dec ib_29 dd_29_52) rfl cs_in3 (by decide) gw_81
theorem ks_29_55 : mi_snd cs_G cs_cl cs_inf 29 55 (mj_alen 56) := ms_alen (mi_dec ib_29 dd_29_55)
theorem ks_29_56 : mi_snd cs_G cs_cl cs_inf 29 56 (mj_cmp (fun x y => decide (y ≤ x)) 68 59) := ms_icmp_ge (mi_dec ib_29 dd_29_56) (by decide)
theorem ks_29_59 : mi_snd cs_G cs_cl cs_inf 29 59 (mj_aload 0 60) := ms_aload_n (mi_dec ib_29 dd_29_59) rfl
theorem ks_29_60 : mi_snd cs_G cs_cl cs_inf 29 60 (mj_get 3 1 63) := ms_get (T := cs_T3) (k := 1) (mi_dec ib_29 dd_29_60) rfl cs_in3 (by decide) gw_81
theorem ks_29_63 : mi_snd cs_G cs_cl cs_inf 29 63 (mj_iload 1 64) := ms_iload_n (mi_dec ib_29 dd_29_63) rfl
theorem ks_29_64 : mi_snd cs_G cs_cl cs_inf 29 64 (mj_ald 0 65) := ms_ald0 (mi_dec ib_29 dd_29_64)
theorem ks_29_65 : mi_snd cs_G cs_cl cs_inf 29 65 (mj_goto 69) := ms_goto (mi_dec ib_29 dd_29_65) (by decide)
theorem ks_29_68 : mi_snd cs_G cs_cl cs_inf 29 68 (mj_push (.inl (-1)) 69) := ms_iconst (mi_dec ib_29 dd_29_68) (by decide)
theorem ks_29_69 : mi_snd cs_G cs_cl cs_inf 29 69 (mj_iret) := ms_iret (mi_dec ib_29 dd_29_69) rfl
def ct_29 : List (Nat × mi_I) := [
  (0, mj_aload 0 1),
  (1, mj_get 3 2 4),
  (4, mj_aload 0 5),
  (5, mj_get 3 0 8),
  (8, mj_get 1 1 11),
  (11, mj_cmp (fun x y => decide (x = y)) 46 14),
  (14, mj_aload 0 15),
  (15, mj_aload 0 16),
  (16, mj_get 3 0 19),
  (19, mj_get 1 1 22),
  (22, mj_putI 3 2 25),
  (25, mj_aload 0 26),
  (26, mj_get 3 1 29),
  (29, mj_push (.inl 0) 30),
  (30, mj_callS 30 2 4 33),
  (33, mj_aload 0 34),
  (34, mj_push (.inl 0) 35),
  (35, mj_aload 0 36),
  (36, mj_get 3 0 39),
  (39, mj_callV 1 15 0 1 42),
  (42, mj_push (.inl 0) 43),
  (43, mj_callS 31 4 6 46),
  (46, mj_iload 1 47),
  (47, mj_if (fun x => decide (x < 0)) 68 50),
  (50, mj_iload 1 51),
  (51, mj_aload 0 52),
  (52, mj_get 3 1 55),
  (55, mj_alen 56),
  (56, mj_cmp (fun x y => decide (y ≤ x)) 68 59),
  (59, mj_aload 0 60),
  (60, mj_get 3 1 63),
  (63, mj_iload 1 64),
  (64, mj_ald 0 65),
  (65, mj_goto 69),
  (68, mj_push (.inl (-1)) 69),
  (69, mj_iret)]
theorem sd_29 : ∀ q ∈ ct_29, mi_snd cs_G cs_cl cs_inf 29 q.1 q.2 := mi_fc ks_29_0 (mi_fc ks_29_1 (mi_fc ks_29_4 (mi_fc ks_29_5 (mi_fc ks_29_8 (mi_fc ks_29_11 (mi_fc ks_29_14 (mi_fc ks_29_15 (mi_fc ks_29_16 (mi_fc ks_29_19 (mi_fc ks_29_22 (mi_fc ks_29_25 (mi_fc ks_29_26 (mi_fc ks_29_29 (mi_fc ks_29_30 (mi_fc ks_29_33 (mi_fc ks_29_34 (mi_fc ks_29_35 (mi_fc ks_29_36 (mi_fc ks_29_39 (mi_fc ks_29_42 (mi_fc ks_29_43 (mi_fc ks_29_46 (mi_fc ks_29_47 (mi_fc ks_29_50 (mi_fc ks_29_51 (mi_fc ks_29_52 (mi_fc ks_29_55 (mi_fc ks_29_56 (mi_fc ks_29_59 (mi_fc ks_29_60 (mi_fc ks_29_63 (mi_fc ks_29_64 (mi_fc ks_29_65 (mi_fc ks_29_68 (mi_fc ks_29_69 mi_fn)))))))))))))))))))))))))))))))))))
theorem dd_30_0 : decode prog_15_method_103_code 0 = .ok (.iconst 0, 1) := by decide +kernel
theorem dd_30_1 : decode prog_15_method_103_code 1 = .ok (.istore_n 2, 1) := by decide +kernel
theorem dd_30_2 : decode prog_15_method_103_code 2 = .ok (.aload_n 0, 1) := by decide +kernel
theorem dd_30_3 : decode prog_15_method_103_code 3 = .ok (.arraylength, 1) := by decide +kernel
theorem dd_30_4 : decode prog_15_method_103_code 4 = .ok (.istore_n 3, 1) := by decide +kernel
theorem dd_30_5 : decode prog_15_method_103_code 5 = .ok (.iload_n 2, 1) := by decide +kernel
theorem dd_30_6 : decode prog_15_method_103_code 6 = .ok (.iload_n 3, 1) := by decide +kernel
theorem dd_30_7 : decode prog_15_method_103_code 7 = .ok (.if_icmp .ge 13, 3) := by decide +kernel
theorem dd_30_10 : decode prog_15_method_103_code 10 = .ok (.aload_n 0, 1) := by decide +kernel
theorem dd_30_11 : decode prog_15_method_103_code 11 = .ok (.iload_n 2, 1) := by decide +kernel
theorem dd_30_12 : decode prog_15_method_103_code 12 = .ok (.iload_n 1, 1) := by decide +kernel
theorem dd_30_13 : decode prog_15_method_103_code 13 = .ok (.iastore, 1) := by decide +kernel
theorem dd_30_14 : decode prog_15_method_103_code 14 = .ok (.iinc 2 1, 3) := by decide +kernel
theorem dd_30_17 : decode prog_15_method_103_code 17 = .ok (.goto (-12), 3) := by decide +kernel
theorem dd_30_20 : decode prog_15_method_103_code 20 = .ok (.return_, 1) := by decide +kernel
theorem ks_30_0 : mi_snd cs_G cs_cl cs_inf 30 0 (mj_push (.inl 0) 1) := ms_iconst (mi_dec ib_30 dd_30_0) (by decide)
theorem ks_30_1 : mi_snd cs_G cs_cl cs_inf 30 1 (mj_istore 2 2) := ms_istore_n (mi_dec ib_30 dd_30_1) rfl
theorem ks_30_2 : mi_snd cs_G cs_cl cs_inf 30 2 (mj_aload 0 3) := ms_aload_n (mi_dec ib_30 dd_30_2) rfl
theorem ks_30_3 : mi_snd cs_G cs_cl cs_inf 30 3 (mj_alen 4) := ms_alen (mi_dec ib_30 dd_30_3)
theorem ks_30_4 : mi_snd cs_G cs_cl cs_inf 30 4 (mj_istore 3 5) := ms_istore_n (mi_dec ib_30 dd_30_4) rfl
theorem ks_30_5 : mi_snd cs_G cs_cl cs_inf 30 5 (mj_iload 2 6) := ms_iload_n (mi_dec ib_30 dd_30_5) rfl
theorem ks_30_6 : mi_snd cs_G cs_cl cs_inf 30 6 (mj_iload 3 7) := ms_iload_n (mi_dec ib_30 dd_30_6) rfl
theorem ks_30_7 : mi_snd cs_G cs_cl cs_inf 30 7 (mj_cmp (fun x y => decide (y ≤ x)) 20 10) := ms_icmp_ge (mi_dec ib_30 dd_30_7) (by decide)
theorem ks_30_10 : mi_snd cs_G cs_cl cs_inf 30 10 (mj_aload 0 11) := ms_aload_n (mi_dec ib_30 dd_30_10) rfl
theorem ks_30_11 : mi_snd cs_G cs_cl cs_inf 30 11 (mj_iload 2 12) := ms_iload_n (mi_dec ib_30 dd_30_11) rfl
theorem ks_30_12 : mi_snd cs_G cs_cl cs_inf 30 12 (mj_iload 1 13) := ms_iload_n (mi_dec ib_30 dd_30_12) rfl
theorem ks_30_13 : mi_snd cs_G cs_cl cs_inf 30 13 (mj_iast 14) := ms_iast (mi_dec ib_30 dd_30_13)
theorem ks_30_14 : mi_snd cs_G cs_cl cs_inf 30 14 (mj_iinc 2 1 17) := ms_iinc (mi_dec ib_30 dd_30_14) (by decide)
theorem ks_30_17 : mi_snd cs_G cs_cl cs_inf 30 17 (mj_goto 5) := ms_goto (mi_dec ib_30 dd_30_17) (by decide)
theorem ks_30_20 : mi_snd cs_G cs_cl cs_inf 30 20 (mj_ret) := ms_ret (mi_dec ib_30 dd_30_20) rfl
def ct_30 : List (Nat × mi_I) := [
  (0, mj_push (.inl 0) 1),
  (1, mj_istore 2 2),
  (2, mj_aload 0 3),
  (3, mj_alen 4),
  (4, mj_istore 3 5),
  (5, mj_iload 2 6),
  (6, mj_iload 3 7),
  (7, mj_cmp (fun x y => decide (y ≤ x)) 20 10),
  (10, mj_aload 0 11),
  (11, mj_iload 2 12),
  (12, mj_iload 1 13),
  (13, mj_iast 14),
  (14, mj_iinc 2 1 17),
  (17, mj_goto 5),
  (20, mj_ret)]
theorem sd_30 : ∀ q ∈ ct_30, mi_snd cs_G cs_cl cs_inf 30 q.1 q.2 := mi_fc ks_30_0 (mi_fc ks_30_1 (mi_fc ks_30_2 (mi_fc ks_30_3 (mi_fc ks_30_4 (mi_fc ks_30_5 (mi_fc ks_30_6 (mi_fc ks_30_7 (mi_fc ks_30_10 (mi_fc ks_30_11 (mi_fc ks_30_12 (mi_fc ks_30_13 (mi_fc ks_30_14 (mi_fc ks_30_17 (mi_fc ks_30_20 mi_fn))))))))))))))
theorem dd_31_0 : decode prog_8_method_3_code 0 = .ok (.iload_n 3, 1) := by decide +kernel
theorem dd_31_1 : decode prog_8_method_3_code 1 = .ok (.bipush 16, 2) := by decide +kernel
theorem dd_31_3 : decode prog_8_method_3_code 3 = .ok (.if_icmp .le 4, 3) := by decide +kernel
theorem dd_31_6 : decode prog_8_method_3_code 6 = .ok (.return_, 1) := by decide +kernel
theorem dd_31_7 : decode prog_8_method_3_code 7 = .ok (.aload_n 0, 1) := by decide +kernel
theorem dd_31_8 : decode prog_8_method_3_code 8 = .ok (.getfield 19, 3) := by decide +kernel
theorem dd_31_11 : decode prog_8_method_3_code 11 = .ok (.iload_n 2, 1) := by decide +kernel
theorem dd_31_12 : decode prog_8_method_3_code 12 = .ok (.invokevirtual 42, 3) := by decide +kernel
theorem dd_31_15 : decode prog_8_method_3_code 15 = .ok (.istore 4, 2) := by decide +kernel
theorem dd_31_17 : decode prog_8_method_3_code 17 = .ok (.iload_n 2, 1) := by decide +kernel
theorem dd_31_18 : decode prog_8_method_3_code 18 = .ok (.iconst 1, 1) := by decide +kernel
theorem dd_31_19 : decode prog_8_method_3_code 19 = .ok (.iload 4, 2) := by decide +kernel
theorem dd_31_21 : decode prog_8_method_3_code 21 = .ok (.ishl, 1) := by decide +kernel
theorem dd_31_22 : decode prog_8_method_3_code 22 = .ok (.iconst (-1), 1) := by decide +kernel
theorem dd_31_23 : decode prog_8_method_3_code 23 = .ok (.ixor, 1) := by decide +kernel
theorem dd_31_24 : decode prog_8_method_3_code 24 = .ok (.iand, 1) := by decide +kernel
theorem dd_31_25 : decode prog_8_method_3_code 25 = .ok (.istore 5, 2) := by decide +kernel
theorem dd_31_27 : decode prog_8_method_3_code 27 = .ok (.iload 4, 2) := by decide +kernel
theorem dd_31_29 : decode prog_8_method_3_code 29 = .ok (.ifCond .lt 21, 3) := by decide +kernel
theorem dd_31_32 : decode prog_8_method_3_code 32 = .ok (.aload_n 0, 1) := by decide +kernel
theorem dd_31_33 : decode prog_8_method_3_code 33 = .ok (.getfield 19, 3) := by decide +kernel
theorem dd_31_36 : decode prog_8_method_3_code 36 = .ok (.iload 4, 2) := by decide +kernel
theorem dd_31_38 : decode prog_8_method_3_code 38 = .ok (.iload_n 2, 1) := by decide +kernel
theorem dd_31_39 : decode prog_8_method_3_code 39 = .ok (.invokevirtual 46, 3) := by decide +kernel
theorem dd_31_42 : decode prog_8_method_3_code 42 = .ok (.iload 5, 2) := by decide +kernel
theorem dd_31_44 : decode prog_8_method_3_code 44 = .ok (.invokestatic 50, 3) := by decide +kernel
theorem dd_31_47 : decode prog_8_method_3_code 47 = .ok (.if_icmp .ne 13, 3) := by decide +kernel
theorem dd_31_50 : decode prog_8_method_3_code 50 = .ok (.aload_n 0, 1) := by decide +kernel
theorem dd_31_51 : decode prog_8_method_3_code 51 = .ok (.iload_n 1, 1) := by decide +kernel
theorem dd_31_52 : decode prog_8_method_3_code 52 = .ok (.iload_n 2, 1) := by decide +kernel
theorem dd_31_53 : decode prog_8_method_3_code 53 = .ok (.invokestatic 50, 3) := by decide +kernel
theorem dd_31_56 : decode prog_8_method_3_code 56 = .ok (.invokevirtual 55, 3) := by decide +kernel
theorem dd_31_59 : decode prog_8_method_3_code 59 = .ok (.return_, 1) := by decide +kernel
theorem dd_31_60 : decode prog_8_method_3_code 60 = .ok (.aload_n 0, 1) := by decide +kernel
theorem dd_31_61 : decode prog_8_method_3_code 61 = .ok (.iload_n 1, 1) := by decide +kernel
theorem dd_31_62 : decode prog_8_method_3_code 62 = .ok (.iload 5, 2) := by decide +kernel
theorem dd_31_64 : decode prog_8_method_3_code 64 = .ok (.iload_n 3, 1) := by decide +kernel
theorem dd_31_65 : decode prog_8_method_3_code 65 = .ok (.iconst 1, 1) := by decide +kernel
theorem dd_31_66 : decode prog_8_method_3_code 66 = .ok (.iadd, 1) := by decide +kernel
theorem dd_31_67 : decode prog_8_method_3_code 67 = .ok (.invokestatic 38, 3) := by decide +kernel
theorem dd_31_70 : decode prog_8_method_3_code 70 = .ok (.aload_n 0, 1) := by decide +kernel
theorem dd_31_71 : decode prog_8_method_3_code 71 = .ok (.iload_n 1, 1) := by decide +kernel
theorem dd_31_72 : decode prog_8_method_3_code 72 = .ok (.iconst 1, 1) := by decide +kernel
theorem dd_31_73 : decode prog_8_method_3_code 73 = .ok (.iadd, 1) := by decide +kernel
theorem dd_31_74 : decode prog_8_method_3_code 74 = .ok (.iload_n 2, 1) := by decide +kernel
theorem dd_31_75 : decode prog_8_method_3_code 75 = .ok (.aload_n 0, 1) := by decide +kernel
theorem dd_31_76 : decode prog_8_method_3_code 76 = .ok (.getfield 19, 3) := by decide +kernel
theorem dd_31_79 : decode prog_8_method_3_code 79 = .ok (.iload 4, 2) := by decide +kernel
theorem dd_31_81 : decode prog_8_method_3_code 81 = .ok (.invokevirtual 59, 3) := by decide +kernel
theorem dd_31_84 : decode prog_8_method_3_code 84 = .ok (.iand, 1) := by decide +kernel
theorem dd_31_85 : decode prog_8_method_3_code 85 = .ok (.iload_n 3, 1) := by decide +kernel
theorem dd_31_86 : decode prog_8_method_3_code 86 = .ok (.iconst 1, 1) := by decide +kernel
theorem dd_31_87 : decode prog_8_method_3_code 87 = .ok (.iadd, 1) := by decide +kernel
theorem dd_31_88 : decode prog_8_method_3_code 88 = .ok (.invokestatic 38, 3) := by decide +kernel
theorem dd_31_91 : decode prog_8_method_3_code 91 = .ok (.return_, 1) := by decide +kernel
theorem ks_31_0 : mi_snd cs_G cs_cl cs_inf 31 0 (mj_iload 3 1) := ms_iload_n (mi_dec ib_31 dd_31_0) rfl
theorem ks_31_1 : mi_snd cs_G cs_cl cs_inf 31 1 (mj_push (.inl 16) 3) := ms_bipush (mi_dec ib_31 dd_31_1) (by decide)
theorem ks_31_3 : mi_snd cs_G cs_cl cs_inf 31 3 (mj_cmp (fun x y => decide (x ≤ y)) 7 6) := ms_icmp_le (mi_dec ib_31 dd_31_3) (by decide)
theorem ks_31_6 : mi_snd cs_G cs_cl cs_inf 31 6 (mj_ret) := ms_ret (mi_dec ib_31 dd_31_6) rfl
theorem ks_31_7 : mi_snd cs_G cs_cl cs_inf 31 7 (mj_aload 0 8) := ms_aload_n (mi_dec ib_31 dd_31_7) rfl
theorem ks_31_8 : mi_snd cs_G cs_cl cs_inf 31 8 (mj_get 3 0 11) := ms_get (T := cs_T3) (k := 0) (mi_dec ib_31 dd_31_8) rfl cs_in3 (by decide) gw_80
theorem ks_31_11 : mi_snd cs_G cs_cl cs_inf 31 11 (mj_iload 2 12) := ms_iload_n (mi_dec ib_31 dd_31_11) rfl
theorem ks_31_12 : mi_snd cs_G cs_cl cs_inf 31 12 (mj_callV 1 32 1 5 15) := ms_callVN iw_c32 (mi_dec ib_31 dd_31_12) gw_395 iw_i32 rfl iw_v32 iw_n32 (by decide +kernel) rfl (by decide)
theorem ks_31_15 : mi_snd cs_G cs_cl cs_inf 31 15 (mj_istore 4 17) := ms_istore (mi_dec ib_31 dd_31_15)
theorem ks_31_17 : mi_snd cs_G cs_cl cs_inf 31 17 (mj_iload 2 18) := ms_iload_n (mi_dec ib_31 dd_31_17) rfl
theorem ks_31_18 : mi_snd cs_G cs_cl cs_inf 31 18 (mj_push (.inl 1) 19) := ms_iconst (mi_dec ib_31 dd_31_18) (by decide)
theorem ks_31_19 : mi_snd cs_G cs_cl cs_inf 31 19 (mj_iload 4 21) := ms_iload (mi_dec ib_31 dd_31_19)
theorem ks_31_21 : mi_snd cs_G cs_cl cs_inf 31 21 (mj_bin (fun x y => x <<< (y &&& 31)) 22) := ms_ishl (mi_dec ib_31 dd_31_21)
theorem ks_31_22 : mi_snd cs_G cs_cl cs_inf 31 22 (mj_push (.inl (-1)) 23) := ms_iconst (mi_dec ib_31 dd_31_22) (by decide)
theorem ks_31_23 : mi_snd cs_G cs_cl cs_inf 31 23 (mj_bin (fun x y => x ^^^ y) 24) := ms_ixor (mi_dec ib_31 dd_31_23)
theorem ks_31_24 : mi_snd cs_G cs_cl cs_inf 31 24 (mj_bin (fun x y => x &&& y) 25) := ms_iand (mi_dec ib_31 dd_31_24)
theorem ks_31_25 : mi_snd cs_G cs_cl cs_inf 31 25 (mj_istore 5 27) := ms_istore (mi_dec ib_31 dd_31_25)
theorem ks_31_27 : mi_snd cs_G cs_cl cs_inf 31 27 (mj_iload 4 29) := ms_iload (mi_dec ib_31 dd_31_27)
theorem ks_31_29 : mi_snd cs_G cs_cl cs_inf 31 29 (mj_if (fun x => decide (x < 0)) 50 32) := ms_if_lt (mi_dec ib_31 dd_31_29) (by decide)
theorem ks_31_32 : mi_snd cs_G cs_cl cs_inf 31 32 (mj_aload 0 33) := ms_aload_n (mi_dec ib_31 dd_31_32) rfl
theorem ks_31_33 : mi_snd cs_G cs_cl cs_inf 31 33 (mj_get 3 0 36) := ms_get (T := cs_T3) (k := 0) (mi_dec ib_31 dd_31_33) rfl cs_in3 (by decide) gw_80
theorem ks_31_36 : mi_snd cs_G cs_cl cs_inf 31 36 (mj_iload 4 38) := ms_iload (mi_dec ib_31 dd_31_36)
theorem ks_31_38 : mi_snd cs_G cs_cl cs_inf 31 38 (mj_iload 2 39) := ms_iload_n (mi_dec ib_31 dd_31_38) rfl
theorem ks_31_39 : mi_snd cs_G cs_cl cs_inf 31 39 (mj_callV 1 33 2 3 42) := ms_callVN iw_c33 (mi_dec ib_31 dd_31_39) gw_405 iw_i33 rfl iw_v33 iw_n33 (by decide +kernel) rfl (by decide)
theorem ks_31_42 : mi_snd cs_G cs_cl cs_inf 31 42 (mj_iload 5 44) := ms_iload (mi_dec ib_31 dd_31_42)
theorem ks_31_44 : mi_snd cs_G cs_cl cs_inf 31 44 (mj_callS 20 1 1 47) := ms_callS iw_c20 (mi_dec ib_31 dd_31_44) gw_406 iw_s20 iw_n20 (by decide +kernel) rfl (by decide)
theorem ks_31_47 : mi_snd cs_G cs_cl cs_inf 31 47 (mj_cmp (fun x y => decide (¬ x = y)) 60 50) := ms_icmp_ne (mi_dec ib_31 dd_31_47) (by decide)
theorem ks_31_50 : mi_snd cs_G cs_cl cs_inf 31 50 (mj_aload 0 51) := ms_aload_n (mi_dec ib_31 dd_31_50) rfl
theorem ks_31_51 : mi_snd cs_G cs_cl cs_inf 31 51 (mj_iload 1 52) := ms_iload_n (mi_dec ib_31 dd_31_51) rfl
theorem ks_31_52 : mi_snd cs_G cs_cl cs_inf 31 52 (mj_iload 2 53) := ms_iload_n (mi_dec ib_31 dd_31_52) rfl
theorem ks_31_53 : mi_snd cs_G cs_cl cs_inf 31 53 (mj_callS 20 1 1 56) := ms_callS iw_c20 (mi_dec ib_31 dd_31_53) gw_406 iw_s20 iw_n20 (by decide +kernel) rfl (by decide)
theorem ks_31_56 : mi_snd cs_G cs_cl cs_inf 31 56 (mj_callV 3 34 2 5 59) := ms_callV iw_c34 (mi_dec ib_31 dd_31_56) gw_407 iw_i34 rfl iw_v34 iw_n34 (by decide +kernel) rfl (by decide)
theorem ks_31_59 : mi_snd cs_G cs_cl cs_inf 31 59 (mj_ret) := ms_ret (mi_dec ib_31 dd_31_59) rfl
theorem ks_31_60 : mi_snd cs_G cs_cl cs_inf 31 60 (mj_aload 0 61) := ms_aload_n (mi_dec ib_31 dd_31_60) rfl
theorem ks_31_61 : mi_snd cs_G cs_cl cs_inf 31 61 (mj_iload 1 62) := ms_iload_n (mi_dec ib_31 dd_31_61) rfl
theorem ks_31_62 : mi_snd cs_G cs_cl cs_inf 31 62 (mj_iload 5 64) := ms_iload (mi_dec ib_31 dd_31_62)
theorem ks_31_64 : mi_snd cs_G cs_cl cs_inf 31 64 (mj_iload 3 65) := ms_iload_n (mi_dec ib_31 dd_31_64) rfl
theorem ks_31_65 : mi_snd cs_G cs_cl cs_inf 31 65 (mj_push (.inl 1) 66) := ms_iconst (mi_dec ib_31 dd_31_65) (by decide)
theorem ks_31_66 : mi_snd cs_G cs_cl cs_inf 31 66 (mj_bin (fun x y => x + y) 67) := ms_iadd (mi_dec ib_31 dd_31_66)
theorem ks_31_67 : mi_snd cs_G cs_cl cs_inf 31 67 (mj_callS 31 4 6 70) := ms_callS iw_c31 (mi_dec ib_31 dd_31_67) gw_392 iw_s31 iw_n31 (by decide +kernel) rfl (by decide)
theorem ks_31_70 : mi_snd cs_G cs_cl cs_inf 31 70 (mj_aload 0 71) := ms_aload_n (mi_dec ib_31 dd_31_70) rfl
theorem ks_31_71 : mi_snd cs_G cs_cl cs_inf 31 71 (mj_iload 1 72) := ms_iload_n (mi_dec ib_31 dd_31_71) rfl
theorem ks_31_72 : mi_snd cs_G cs_cl cs_inf 31 72 (mj_push (.inl 1) 73) := ms_iconst (mi_dec ib_31 dd_31_72) (by decide)
theorem ks_31_73 : mi_snd cs_G cs_cl cs_inf 31 73 (mj_bin (fun x y => x + y) 74) := ms_iadd (mi_dec ib_31 dd_31_73)
theorem ks_31_74 : mi_snd cs_G cs_cl cs_inf 31 74 (mj_iload 2 75) := ms_iload_n (mi_dec ib_31 dd_31_74) rfl
theorem ks_31_75 : mi_snd cs_G cs_cl cs_inf 31 75 (mj_aload 0 76) := ms_aload_n (mi_dec ib_31 dd_31_75) rfl
theorem ks_31_76 : mi_snd cs_G cs_cl cs_inf 31 76 (mj_get 3 0 79) := ms_get (T := cs_T3) (k := 0) (mi_dec ib_31 dd_31_76) rfl cs_in3 (by decide) gw_80
theorem ks_31_79 : mi_snd cs_G cs_cl cs_inf 31 79 (mj_iload 4 81) := ms_iload (mi_dec ib_31 dd_31_79)
theorem ks_31_81 : mi_snd cs_G cs_cl cs_inf 31 81 (mj_callV 1 6 1 2 84) := ms_callVN iw_c6 (mi_dec ib_31 dd_31_81) gw_411 iw_i6 rfl iw_v6 iw_n6 (by decide +kernel) rfl (by decide)
theorem ks_31_84 : mi_snd cs_G cs_cl cs_inf 31 84 (mj_bin (fun x y => x &&& y) 85) := ms_iand (mi_dec ib_31 dd_31_84)
theorem ks_31_85 : mi_snd cs_G cs_cl cs_inf 31 85 (mj_iload 3 86) := ms_iload_n (mi_dec ib_31 dd_31_85) rfl
theorem ks_31_86 : mi_snd cs_G cs_cl cs_inf 31 86 (mj_push (.inl 1) 87) := ms_iconst (mi_dec ib_31 dd_31_86) (by decide)
theorem ks_31_87 : mi_snd cs_G cs_cl cs_inf 31 87 (mj_bin (fun x y => x + y) 88) := ms_iadd (mi_dec ib_31 dd_31_87)
theorem ks_31_88 : mi_snd cs_G cs_cl cs_inf 31 88 (mj_callS 31 4 6 91) := ms_callS iw_c31 (mi_dec ib_31 dd_31_88) gw_392 iw_s31 iw_n31 (by decide +kernel) rfl (by decide)
theorem ks_31_91 : mi_snd cs_G cs_cl cs_inf 31 91 (mj_ret) := ms_ret (mi_dec ib_31 dd_31_91) rfl
def ct_31 : List (Nat × mi_I) := [
  (0, mj_iload 3 1),
  (1, mj_push (.inl 16) 3),
  (3, mj_cmp (fun x y => decide (x ≤ y)) 7 6),
  (6, mj_ret),
  (7, mj_aload 0 8),
  (8, mj_get 3 0 11),
  (11, mj_iload 2 12),
  (12, mj_callV 1 32 1 5 15),
  (15, mj_istore 4 17),
  (17, mj_iload 2 18),
  (18, mj_push (.inl 1) 19),
  (19, mj_iload 4 21),
  (21, mj_bin (fun x y => x <<< (y &&& 31)) 22),
  (22, mj_push (.inl (-1)) 23),
  (23, mj_bin (fun x y => x ^^^ y) 24),
  (24, mj_bin (fun x y => x &&& y) 25),
  (25, mj_istore 5 27),
  (27, mj_iload 4 29),
  (29, mj_if (fun x => decide (x < 0)) 50 32),
  (32, mj_aload 0 33),
  (33, mj_get 3 0 36),
  (36, mj_iload 4 38),
  (38, mj_iload 2 39),
  (39, mj_callV 1 33 2 3 42),
  (42, mj_iload 5 44),
  (44, mj_callS 20 1 1 47),
  (47, mj_cmp (fun x y => decide (¬ x = y)) 60 50),
  (50, mj_aload 0 51),
  (51, mj_iload 1 52),
  (52, mj_iload 2 53),
  (53, mj_callS 20 1 1 56),
  (56, mj_callV 3 34 2 5 59),
  (59, mj_ret),
  (60, mj_aload 0 61),
  (61, mj_iload 1 62),
  (62, mj_iload 5 64),
  (64, mj_iload 3 65),
  (65, mj_push (.inl 1) 66),
  (66, mj_bin (fun x y => x + y) 67),
  (67, mj_callS 31 4 6 70),
  (70, mj_aload 0 71),
  (71, mj_iload 1 72),
  (72, mj_push (.inl 1) 73),
  (73, mj_bin (fun x y => x + y) 74),
  (74, mj_iload 2 75),
  (75, mj_aload 0 76),
  (76, mj_get 3 0 79),
  (79, mj_iload 4 81),
  (81, mj_callV 1 6 1 2 84),
  (84, mj_bin (fun x y => x &&& y) 85),
  (85, mj_iload 3 86),
  (86, mj_push (.inl 1) 87),
  (87, mj_bin (fun x y => x + y) 88),
  (88, mj_callS 31 4 6 91),
  (91, mj_ret)]
theorem sd_31 : ∀ q ∈ ct_31, mi_snd cs_G cs_cl cs_inf 31 q.1 q.2 := mi_fc ks_31_0 (mi_fc ks_31_1 (mi_fc ks_31_3 (mi_fc ks_31_6 (mi_fc ks_31_7 (mi_fc ks_31_8 (mi_fc ks_31_11 (mi_fc ks_31_12 (mi_fc ks_31_15 (mi_fc ks_31_17 (mi_fc ks_31_18 (mi_fc ks_31_19 (mi_fc ks_31_21 (mi_fc ks_31_22 (mi_fc ks_31_23 (mi_fc ks_31_24 (mi_fc ks_31_25 (mi_fc ks_31_27 (mi_fc ks_31_29 (mi_fc ks_31_32 (mi_fc ks_31_33 (mi_fc ks_31_36 (mi_fc ks_31_38 (mi_fc ks_31_39 (mi_fc ks_31_42 (mi_fc ks_31_44 (mi_fc ks_31_47 (mi_fc ks_31_50 (mi_fc ks_31_51 (mi_fc ks_31_52 (mi_fc ks_31_53 (mi_fc ks_31_56 (mi_fc ks_31_59 (mi_fc ks_31_60 (mi_fc ks_31_61 (mi_fc ks_31_62 (mi_fc ks_31_64 (mi_fc ks_31_65 (mi_fc ks_31_66 (mi_fc ks_31_67 (mi_fc ks_31_70 (mi_fc ks_31_71 (mi_fc ks_31_72 (mi_fc ks_31_73 (mi_fc ks_31_74 (mi_fc ks_31_75 (mi_fc ks_31_76 (mi_fc ks_31_79 (mi_fc ks_31_81 (mi_fc ks_31_84 (mi_fc ks_31_85 (mi_fc ks_31_86 (mi_fc ks_31_87 (mi_fc ks_31_88 (mi_fc ks_31_91 mi_fn))))))))))))))))))))))))))))))))))))))))))))))))))))))
theorem dd_32_0 : decode prog_5_method_13_code 0 = .ok (.iconst (-1), 1) := by decide +kernel
theorem dd_32_1 : decode prog_5_method_13_code 1 = .ok (.istore_n 2, 1) := by decide +kernel
theorem dd_32_2 : decode prog_5_method_13_code 2 = .ok (.bipush 16, 2) := by decide +kernel
theorem dd_32_4 : decode prog_5_method_13_code 4 = .ok (.istore_n 3, 1) := by decide +kernel
theorem dd_32_5 : decode prog_5_method_13_code 5 = .ok (.iconst 0, 1) := by decide +kernel
theorem dd_32_6 : decode prog_5_method_13_code 6 = .ok (.istore 4, 2) := by decide +kernel
theorem dd_32_8 : decode prog_5_method_13_code 8 = .ok (.iload 4, 2) := by decide +kernel
theorem dd_32_10 : decode prog_5_method_13_code 10 = .ok (.aload_n 0, 1) := by decide +kernel
theorem dd_32_11 : decode prog_5_method_13_code 11 = .ok (.getfield 18, 3) := by decide +kernel
theorem dd_32_14 : decode prog_5_method_13_code 14 = .ok (.if_icmp .ge 40, 3) := by decide +kernel
theorem dd_32_17 : decode prog_5_method_13_code 17 = .ok (.iload_n 1, 1) := by decide +kernel
theorem dd_32_18 : decode prog_5_method_13_code 18 = .ok (.iload 4, 2) := by decide +kernel
theorem dd_32_20 : decode prog_5_method_13_code 20 = .ok (.invokestatic 46, 3) := by decide +kernel
theorem dd_32_23 : decode prog_5_method_13_code 23 = .ok (.ifCond .eq 25, 3) := by decide +kernel
theorem dd_32_26 : decode prog_5_method_13_code 26 = .ok (.aload_n 0, 1) := by decide +kernel
theorem dd_32_27 : decode prog_5_method_13_code 27 = .ok (.iload 4, 2) := by decide +kernel
theorem dd_32_29 : decode prog_5_method_13_code 29 = .ok (.iload_n 1, 1) := by decide +kernel
theorem dd_32_30 : decode prog_5_method_13_code 30 = .ok (.invokevirtual 50, 3) := by decide +kernel
theorem dd_32_33 : decode prog_5_method_13_code 33 = .ok (.iload_n 3, 1) := by decide +kernel
theorem dd_32_34 : decode prog_5_method_13_code 34 = .ok (.if_icmp .ge 14, 3) := by decide +kernel
theorem dd_32_37 : decode prog_5_method_13_code 37 = .ok (.iload 4, 2) := by decide +kernel
theorem dd_32_39 : decode prog_5_method_13_code 39 = .ok (.istore_n 2, 1) := by decide +kernel
theorem dd_32_40 : decode prog_5_method_13_code 40 = .ok (.aload_n 0, 1) := by decide +kernel
theorem dd_32_41 : decode prog_5_method_13_code 41 = .ok (.iload 4, 2) := by decide +kernel
theorem dd_32_43 : decode prog_5_method_13_code 43 = .ok (.iload_n 1, 1) := by decide +kernel
theorem dd_32_44 : decode prog_5_method_13_code 44 = .ok (.invokevirtual 50, 3) := by decide +kernel
theorem dd_32_47 : decode prog_5_method_13_code 47 = .ok (.istore_n 3, 1) := by decide +kernel
theorem dd_32_48 : decode prog_5_method_13_code 48 = .ok (.iinc 4 1, 3) := by decide +kernel
theorem dd_32_51 : decode prog_5_method_13_code 51 = .ok (.goto (-43), 3) := by decide +kernel
theorem dd_32_54 : decode prog_5_method_13_code 54 = .ok (.iload_n 2, 1) := by decide +kernel
theorem dd_32_55 : decode prog_5_method_13_code 55 = .ok (.ireturn, 1) := by decide +kernel
theorem ks_32_0 : mi_snd cs_G cs_cl cs_inf 32 0 (mj_push (.inl (-1)) 1) := ms_iconst (mi_dec ib_32 dd_32_0) (by decide)
theorem ks_32_1 : mi_snd cs_G cs_cl cs_inf 32 1 (mj_istore 2 2) := ms_istore_n (mi_dec ib_32 dd_32_1) rfl
theorem ks_32_2 : mi_snd cs_G cs_cl cs_inf 32 2 (mj_push (.inl 16) 4) := ms_bipush (mi_dec ib_32 dd_32_2) (by decide)
theorem ks_32_4 : mi_snd cs_G cs_cl cs_inf 32 4 (mj_istore 3 5) := ms_istore_n (mi_dec ib_32 dd_32_4) rfl
theorem ks_32_5 : mi_snd cs_G cs_cl cs_inf 32 5 (mj_push (.inl 0) 6) := ms_iconst (mi_dec ib_32 dd_32_5) (by decide)
theorem ks_32_6 : mi_snd cs_G cs_cl cs_inf 32 6 (mj_istore 4 8) := ms_istore (mi_dec ib_32 dd_32_6)
theorem ks_32_8 : mi_snd cs_G cs_cl cs_inf 32 8 (mj_iload 4 10) := ms_iload (mi_dec ib_32 dd_32_8)
theorem ks_32_10 : mi_snd cs_G cs_cl cs_inf 32 10 (mj_aload 0 11) := ms_aload_n (mi_dec ib_32 dd_32_10) rfl
theorem ks_32_11 : mi_snd cs_G cs_cl cs_inf 32 11 (mj_get 1 0 14) := ms_get (T := cs_T1) (k := 0) (mi_dec ib_32 dd_32_11) rfl cs_in1 (by decide) gw_29
theorem ks_32_14 : mi_snd cs_G cs_cl cs_inf 32 14 (mj_cmp (fun x y => decide (y ≤ x)) 54 17) := ms_icmp_ge (mi_dec ib_32 dd_32_14) (by decide)
theorem ks_32_17 : mi_snd cs_G cs_cl cs_inf 32 17 (mj_iload 1 18) := ms_iload_n (mi_dec ib_32 dd_32_17) rfl
theorem ks_32_18 : mi_snd cs_G cs_cl cs_inf 32 18 (mj_iload 4 20) := ms_iload (mi_dec ib_32 dd_32_18)
theorem ks_32_20 : mi_snd cs_G cs_cl cs_inf 32 20 (mj_callS 7 2 2 23) := ms_callSN iw_c7 (mi_dec ib_32 dd_32_20) gw_363 iw_s7 iw_n7 (by decide +kernel) rfl (by decide)
theorem ks_32_23 : mi_snd cs_G cs_cl cs_inf 32 23 (mj_if (fun x => decide (x = 0)) 48 26) := ms_if_eq (mi_dec ib_32 dd_32_23) (by decide)
theorem ks_32_26 : mi_snd cs_G cs_cl cs_inf 32 26 (mj_aload 0 27) := ms_aload_n (mi_dec ib_32 dd_32_26) rfl
theorem ks_32_27 : mi_snd cs_G cs_cl cs_inf 32 27 (mj_iload 4 29) := ms_iload (mi_dec ib_32 dd_32_27)
theorem ks_32_29 : mi_snd cs_G cs_cl cs_inf 32 29 (mj_iload 1 30) := ms_iload_n (mi_dec ib_32 dd_32_29) rfl
theorem ks_32_30 : mi_snd cs_G cs_cl cs_inf 32 30 (mj_callV 1 33 2 3 33) := ms_callV iw_c33 (mi_dec ib_32 dd_32_30) gw_399 iw_i33 rfl iw_v33 iw_n33 (by decide +kernel) rfl (by decide)
theorem ks_32_33 : mi_snd cs_G cs_cl cs_inf 32 33 (mj_iload 3 34) := ms_iload_n (mi_dec ib_32 dd_32_33) rfl
theorem ks_32_34 : mi_snd cs_G cs_cl cs_inf 32 34 (mj_cmp (fun x y => decide (y ≤ x)) 48 37) := ms_icmp_ge (mi_dec ib_32 dd_32_34) (by decide)
theorem ks_32_37 : mi_snd cs_G cs_cl cs_inf 32 37 (mj_iload 4 39) := ms_iload (mi_dec ib_32 dd_32_37)
theorem ks_32_39 : mi_snd cs_G cs_cl cs_inf 32 39 (mj_istore 2 40) := ms_istore_n (mi_dec ib_32 dd_32_39) rfl
theorem ks_32_40 : mi_snd cs_G cs_cl cs_inf 32 40 (mj_aload 0 41) := ms_aload_n (mi_dec ib_32 dd_32_40) rfl
theorem ks_32_41 : mi_snd cs_G cs_cl cs_inf 32 41 (mj_iload 4 43) := ms_iload (mi_dec ib_32 dd_32_41)
theorem ks_32_43 : mi_snd cs_G cs_cl cs_inf 32 43 (mj_iload 1 44) := ms_iload_n (mi_dec ib_32 dd_32_43) rfl
theorem ks_32_44 : mi_snd cs_G cs_cl cs_inf 32 44 (mj_callV 1 33 2 3 47) := ms_callV iw_c33 (mi_dec ib_32 dd_32_44) gw_399 iw_i33 rfl iw_v33 iw_n33 (by decide +kernel) rfl (by decide)
theorem ks_32_47 : mi_snd cs_G cs_cl cs_inf 32 47 (mj_istore 3 48) := ms_istore_n (mi_dec ib_32 dd_32_47) rfl
theorem ks_32_48 : mi_snd cs_G cs_cl cs_inf 32 48 (mj_iinc 4 1 51) := ms_iinc (mi_dec ib_32 dd_32_48) (by decide)
theorem ks_32_51 : mi_snd cs_G cs_cl cs_inf 32 51 (mj_goto 8) := ms_goto (mi_dec ib_32 dd_32_51) (by decide)
theorem ks_32_54 : mi_snd cs_G cs_cl cs_inf 32 54 (mj_iload 2 55) := ms_iload_n (mi_dec ib_32 dd_32_54) rfl
theorem ks_32_55 : mi_snd cs_G cs_cl cs_inf 32 55 (mj_iret) := ms_iret (mi_dec ib_32 dd_32_55) rfl
def ct_32 : List (Nat × mi_I) := [
  (0, mj_push (.inl (-1)) 1),
  (1, mj_istore 2 2),
  (2, mj_push (.inl 16) 4),
  (4, mj_istore 3 5),
  (5, mj_push (.inl 0) 6),
  (6, mj_istore 4 8),
  (8, mj_iload 4 10),
  (10, mj_aload 0 11),
  (11, mj_get 1 0 14),
  (14, mj_cmp (fun x y => decide (y ≤ x)) 54 17),
  (17, mj_iload 1 18),
  (18, mj_iload 4 20),
  (20, mj_callS 7 2 2 23),
  (23, mj_if (fun x => decide (x = 0)) 48 26),
  (26, mj_aload 0 27),
  (27, mj_iload 4 29),
  (29, mj_iload 1 30),
  (30, mj_callV 1 33 2 3 33),
  (33, mj_iload 3 34),
  (34, mj_cmp (fun x y => decide (y ≤ x)) 48 37),
  (37, mj_iload 4 39),
  (39, mj_istore 2 40),
  (40, mj_aload 0 41),
  (41, mj_iload 4 43),
  (43, mj_iload 1 44),
  (44, mj_callV 1 33 2 3 47),
  (47, mj_istore 3 48),
  (48, mj_iinc 4 1 51),
  (51, mj_goto 8),
  (54, mj_iload 2 55),
  (55, mj_iret)]
theorem sd_32 : ∀ q ∈ ct_32, mi_snd cs_G cs_cl cs_inf 32 q.1 q.2 := mi_fc ks_32_0 (mi_fc ks_32_1 (mi_fc ks_32_2 (mi_fc ks_32_4 (mi_fc ks_32_5 (mi_fc ks_32_6 (mi_fc ks_32_8 (mi_fc ks_32_10 (mi_fc ks_32_11 (mi_fc ks_32_14 (mi_fc ks_32_17 (mi_fc ks_32_18 (mi_fc ks_32_20 (mi_fc ks_32_23 (mi_fc ks_32_26 (mi_fc ks_32_27 (mi_fc ks_32_29 (mi_fc ks_32_30 (mi_fc ks_32_33 (mi_fc ks_32_34 (mi_fc ks_32_37 (mi_fc ks_32_39 (mi_fc ks_32_40 (mi_fc ks_32_41 (mi_fc ks_32_43 (mi_fc ks_32_44 (mi_fc ks_32_47 (mi_fc ks_32_48 (mi_fc ks_32_51 (mi_fc ks_32_54 (mi_fc ks_32_55 mi_fn))))))))))))))))))))))))))))))
theorem dd_33_0 : decode prog_5_method_10_code 0 = .ok (.aload_n 0, 1) := by decide +kernel
theorem dd_33_1 : decode prog_5_method_10_code 1 = .ok (.iload_n 1, 1) := by decide +kernel
theorem dd_33_2 : decode prog_5_method_10_code 2 = .ok (.invokevirtual 37, 3) := by decide +kernel
theorem dd_33_5 : decode prog_5_method_10_code 5 = .ok (.iload_n 2, 1) := by decide +kernel
theorem dd_33_6 : decode prog_5_method_10_code 6 = .ok (.iand, 1) := by decide +kernel
theorem dd_33_7 : decode prog_5_method_10_code 7 = .ok (.invokestatic 41, 3) := by decide +kernel
theorem dd_33_10 : decode prog_5_method_10_code 10 = .ok (.ireturn, 1) := by decide +kernel
theorem ks_33_0 : mi_snd cs_G cs_cl cs_inf 33 0 (mj_aload 0 1) := ms_aload_n (mi_dec ib_33 dd_33_0) rfl
theorem ks_33_1 : mi_snd cs_G cs_cl cs_inf 33 1 (mj_iload 1 2) := ms_iload_n (mi_dec ib_33 dd_33_1) rfl
theorem ks_33_2 : mi_snd cs_G cs_cl cs_inf 33 2 (mj_callV 1 6 1 2 5) := ms_callV iw_c6 (mi_dec ib_33 dd_33_2) gw_403 iw_i6 rfl iw_v6 iw_n6 (by decide +kernel) rfl (by decide)
theorem ks_33_5 : mi_snd cs_G cs_cl cs_inf 33 5 (mj_iload 2 6) := ms_iload_n (mi_dec ib_33 dd_33_5) rfl
theorem ks_33_6 : mi_snd cs_G cs_cl cs_inf 33 6 (mj_bin (fun x y => x &&& y) 7) := ms_iand (mi_dec ib_33 dd_33_6)
theorem ks_33_7 : mi_snd cs_G cs_cl cs_inf 33 7 (mj_callS 20 1 1 10) := ms_callS iw_c20 (mi_dec ib_33 dd_33_7) gw_404 iw_s20 iw_n20 (by decide +kernel) rfl (by decide)
theorem ks_33_10 : mi_snd cs_G cs_cl cs_inf 33 10 (mj_iret) := ms_iret (mi_dec ib_33 dd_33_10) rfl
def ct_33 : List (Nat × mi_I) := [
  (0, mj_aload 0 1),
  (1, mj_iload 1 2),
  (2, mj_callV 1 6 1 2 5),
  (5, mj_iload 2 6),
  (6, mj_bin (fun x y => x &&& y) 7),
  (7, mj_callS 20 1 1 10),
  (10, mj_iret)]
theorem sd_33 : ∀ q ∈ ct_33, mi_snd cs_G cs_cl cs_inf 33 q.1 q.2 := mi_fc ks_33_0 (mi_fc ks_33_1 (mi_fc ks_33_2 (mi_fc ks_33_5 (mi_fc ks_33_6 (mi_fc ks_33_7 (mi_fc ks_33_10 mi_fn))))))
theorem dd_34_0 : decode prog_8_method_4_code 0 = .ok (.iconst 1, 1) := by decide +kernel
theorem dd_34_1 : decode prog_8_method_4_code 1 = .ok (.istore_n 3, 1) := by decide +kernel
theorem dd_34_2 : decode prog_8_method_4_code 2 = .ok (.iconst 0, 1) := by decide +kernel
theorem dd_34_3 : decode prog_8_method_4_code 3 = .ok (.istore 4, 2) := by decide +kernel
theorem dd_34_5 : decode prog_8_method_4_code 5 = .ok (.iload 4, 2) := by decide +kernel
theorem dd_34_7 : decode prog_8_method_4_code 7 = .ok (.iload_n 2, 1) := by decide +kernel
theorem dd_34_8 : decode prog_8_method_4_code 8 = .ok (.if_icmp .gt 43, 3) := by decide +kernel
theorem dd_34_11 : decode prog_8_method_4_code 11 = .ok (.iload_n 1, 1) := by decide +kernel
theorem dd_34_12 : decode prog_8_method_4_code 12 = .ok (.iload 4, 2) := by decide +kernel
theorem dd_34_14 : decode prog_8_method_4_code 14 = .ok (.iadd, 1) := by decide +kernel
theorem dd_34_15 : decode prog_8_method_4_code 15 = .ok (.bipush 16, 2) := by decide +kernel
theorem dd_34_17 : decode prog_8_method_4_code 17 = .ok (.if_icmp .gt 34, 3) := by decide +kernel
theorem dd_34_20 : decode prog_8_method_4_code 20 = .ok (.aload_n 0, 1) := by decide +kernel
theorem dd_34_21 : decode prog_8_method_4_code 21 = .ok (.getfield 9, 3) := by decide +kernel
theorem dd_34_24 : decode prog_8_method_4_code 24 = .ok (.iload_n 1, 1) := by decide +kernel
theorem dd_34_25 : decode prog_8_method_4_code 25 = .ok (.iload 4, 2) := by decide +kernel
theorem dd_34_27 : decode prog_8_method_4_code 27 = .ok (.iadd, 1) := by decide +kernel
theorem dd_34_28 : decode prog_8_method_4_code 28 = .ok (.dup2, 1) := by decide +kernel
theorem dd_34_29 : decode prog_8_method_4_code 29 = .ok (.iaload, 1) := by decide +kernel
theorem dd_34_30 : decode prog_8_method_4_code 30 = .ok (.iload_n 3, 1) := by decide +kernel
theorem dd_34_31 : decode prog_8_method_4_code 31 = .ok (.iadd, 1) := by decide +kernel
theorem dd_34_32 : decode prog_8_method_4_code 32 = .ok (.iastore, 1) := by decide +kernel
theorem dd_34_33 : decode prog_8_method_4_code 33 = .ok (.iload_n 3, 1) := by decide +kernel
theorem dd_34_34 : decode prog_8_method_4_code 34 = .ok (.iload_n 2, 1) := by decide +kernel
theorem dd_34_35 : decode prog_8_method_4_code 35 = .ok (.iload 4, 2) := by decide +kernel
theorem dd_34_37 : decode prog_8_method_4_code 37 = .ok (.isub, 1) := by decide +kernel
theorem dd_34_38 : decode prog_8_method_4_code 38 = .ok (.imul, 1) := by decide +kernel
theorem dd_34_39 : decode prog_8_method_4_code 39 = .ok (.iload 4, 2) := by decide +kernel
theorem dd_34_41 : decode prog_8_method_4_code 41 = .ok (.iconst 1, 1) := by decide +kernel
theorem dd_34_42 : decode prog_8_method_4_code 42 = .ok (.iadd, 1) := by decide +kernel
theorem dd_34_43 : decode prog_8_method_4_code 43 = .ok (.idiv, 1) := by decide +kernel
theorem dd_34_44 : decode prog_8_method_4_code 44 = .ok (.istore_n 3, 1) := by decide +kernel
theorem dd_34_45 : decode prog_8_method_4_code 45 = .ok (.iinc 4 1, 3) := by decide +kernel
theorem dd_34_48 : decode prog_8_method_4_code 48 = .ok (.goto (-43), 3) := by decide +kernel
theorem dd_34_51 : decode prog_8_method_4_code 51 = .ok (.return_, 1) := by decide +kernel
theorem ks_34_0 : mi_snd cs_G cs_cl cs_inf 34 0 (mj_push (.inl 1) 1) := ms_iconst (mi_dec ib_34 dd_34_0) (by decide)
theorem ks_34_1 : mi_snd cs_G cs_cl cs_inf 34 1 (mj_istore 3 2) := ms_istore_n (mi_dec ib_34 dd_34_1) rfl
theorem ks_34_2 : mi_snd cs_G cs_cl cs_inf 34 2 (mj_push (.inl 0) 3) := ms_iconst (mi_dec ib_34 dd_34_2) (by decide)
theorem ks_34_3 : mi_snd cs_G cs_cl cs_inf 34 3 (mj_istore 4 5) := ms_istore (mi_dec ib_34 dd_34_3)
theorem ks_34_5 : mi_snd cs_G cs_cl cs_inf 34 5 (mj_iload 4 7) := ms_iload (mi_dec ib_34 dd_34_5)
theorem ks_34_7 : mi_snd cs_G cs_cl cs_inf 34 7 (mj_iload 2 8) := ms_iload_n (mi_dec ib_34 dd_34_7) rfl
theorem ks_34_8 : mi_snd cs_G cs_cl cs_inf 34 8 (mj_cmp (fun x y => decide (y < x)) 51 11) := ms_icmp_gt (mi_dec ib_34 dd_34_8) (by decide)
theorem ks_34_11 : mi_snd cs_G cs_cl cs_inf 34 11 (mj_iload 1 12) := ms_iload_n (mi_dec ib_34 dd_34_11) rfl
theorem ks_34_12 : mi_snd cs_G cs_cl cs_inf 34 12 (mj_iload 4 14) := ms_iload (mi_dec ib_34 dd_34_12)
theorem ks_34_14 : mi_snd cs_G cs_cl cs_inf 34 14 (mj_bin (fun x y => x + y) 15) := ms_iadd (mi_dec ib_34 dd_34_14)
theorem ks_34_15 : mi_snd cs_G cs_cl cs_inf 34 15 (mj_push (.inl 16) 17) := ms_bipush (mi_dec ib_34 dd_34_15) (by decide)
theorem ks_34_17 : mi_snd cs_G cs_cl cs_inf 34 17 (mj_cmp (fun x y => decide (y < x)) 51 20) := ms_icmp_gt (mi_dec ib_34 dd_34_17) (by decide)
theorem ks_34_20 : mi_snd cs_G cs_cl cs_inf 34 20 (mj_aload 0 21) := ms_aload_n (mi_dec ib_34 dd_34_20) rfl
theorem ks_34_21 : mi_snd cs_G cs_cl cs_inf 34 21 (mj_get 3 1 24) := ms_get (T := cs_T3) (k := 1) (mi_dec ib_34 dd_34_21) rfl cs_in3 (by decide) gw_81
theorem ks_34_24 : mi_snd cs_G cs_cl cs_inf 34 24 (mj_iload 1 25) := ms_iload_n (mi_dec ib_34 dd_34_24) rfl
theorem ks_34_25 : mi_snd cs_G cs_cl cs_inf 34 25 (mj_iload 4 27) := ms_iload (mi_dec ib_34 dd_34_25)
theorem ks_34_27 : mi_snd cs_G cs_cl cs_inf 34 27 (mj_bin (fun x y => x + y) 28) := ms_iadd (mi_dec ib_34 dd_34_27)
theorem ks_34_28 : mi_snd cs_G cs_cl cs_inf 34 28 (mj_dup2 29) := ms_dup2 (mi_dec ib_34 dd_34_28)
theorem ks_34_29 : mi_snd cs_G cs_cl cs_inf 34 29 (mj_ald 0 30) := ms_ald0 (mi_dec ib_34 dd_34_29)
theorem ks_34_30 : mi_snd cs_G cs_cl cs_inf 34 30 (mj_iload 3 31) := ms_iload_n (mi_dec ib_34 dd_34_30) rfl
theorem ks_34_31 : mi_snd cs_G cs_cl cs_inf 34 31 (mj_bin (fun x y => x + y) 32) := ms_iadd (mi_dec ib_34 dd_34_31)
theorem ks_34_32 : mi_snd cs_G cs_cl cs_inf 34 32 (mj_iast 33) := ms_iast (mi_dec ib_34 dd_34_32)
theorem ks_34_33 : mi_snd cs_G cs_cl cs_inf 34 33 (mj_iload 3 34) := ms_iload_n (mi_dec ib_34 dd_34_33) rfl
theorem ks_34_34 : mi_snd cs_G cs_cl cs_inf 34 34 (mj_iload 2 35) := ms_iload_n (mi_dec ib_34 dd_34_34) rfl
theorem ks_34_35 : mi_snd cs_G cs_cl cs_inf 34 35 (mj_iload 4 37) := ms_iload (mi_dec ib_34 dd_34_35)
theorem ks_34_37 : mi_snd cs_G cs_cl cs_inf 34 37 (mj_bin (fun x y => x - y) 38) := ms_isub (mi_dec ib_34 dd_34_37)
theorem ks_34_38 : mi_snd cs_G cs_cl cs_inf 34 38 (mj_bin (fun x y => x * y) 39) := ms_imul (mi_dec ib_34 dd_34_38)
theorem ks_34_39 : mi_snd cs_G cs_cl cs_inf 34 39 (mj_iload 4 41) := ms_iload (mi_dec ib_34 dd_34_39)
theorem ks_34_41 : mi_snd cs_G cs_cl cs_inf 34 41 (mj_push (.inl 1) 42) := ms_iconst (mi_dec ib_34 dd_34_41) (by decide)
theorem ks_34_42 : mi_snd cs_G cs_cl cs_inf 34 42 (mj_bin (fun x y => x + y) 43) := ms_iadd (mi_dec ib_34 dd_34_42)
theorem ks_34_43 : mi_snd cs_G cs_cl cs_inf 34 43 (mj_div 44) := ms_idiv (mi_dec ib_34 dd_34_43)
theorem ks_34_44 : mi_snd cs_G cs_cl cs_inf 34 44 (mj_istore 3 45) := ms_istore_n (mi_dec ib_34 dd_34_44) rfl
theorem ks_34_45 : mi_snd cs_G cs_cl cs_inf 34 45 (mj_iinc 4 1 48) := ms_iinc (mi_dec ib_34 dd_34_45) (by decide)
theorem ks_34_48 : mi_snd cs_G cs_cl cs_inf 34 48 (mj_goto 5) := ms_goto (mi_dec ib_34 dd_34_48) (by decide)
theorem ks_34_51 : mi_snd cs_G cs_cl cs_inf 34 51 (mj_ret) := ms_ret (mi_dec ib_34 dd_34_51) rfl
def ct_34 : List (Nat × mi_I) := [
  (0, mj_push (.inl 1) 1),
  (1, mj_istore 3 2),
  (2, mj_push (.inl 0) 3),
  (3, mj_istore 4 5),
  (5, mj_iload 4 7),
  (7, mj_iload 2 8),
  (8, mj_cmp (fun x y => decide (y < x)) 51 11),
  (11, mj_iload 1 12),
  (12, mj_iload 4 14),
  (14, mj_bin (fun x y => x + y) 15),
  (15, mj_push (.inl 16) 17),
  (17, mj_cmp (fun x y => decide (y < x)) 51 20),
  (20, mj_aload 0 21),
  (21, mj_get 3 1 24),
  (24, mj_iload 1 25),
  (25, mj_iload 4 27),
  (27, mj_bin (fun x y => x + y) 28),
  (28, mj_dup2 29),
  (29, mj_ald 0 30),
  (30, mj_iload 3 31),
  (31, mj_bin (fun x y => x + y) 32),
  (32, mj_iast 33),
  (33, mj_iload 3 34),
  (34, mj_iload 2 35),
  (35, mj_iload 4 37),
  (37, mj_bin (fun x y => x - y) 38),
  (38, mj_bin (fun x y => x * y) 39),
  (39, mj_iload 4 41),
  (41, mj_push (.inl 1) 42),
  (42, mj_bin (fun x y => x + y) 43),
  (43, mj_div 44),
  (44, mj_istore 3 45),
  (45, mj_iinc 4 1 48),
  (48, mj_goto 5),
  (51, mj_ret)]
theorem sd_34 : ∀ q ∈ ct_34, mi_snd cs_G cs_cl cs_inf 34 q.1 q.2 := mi_fc ks_34_0 (mi_fc ks_34_1 (mi_fc ks_34_2 (mi_fc ks_34_3 (mi_fc ks_34_5 (mi_fc ks_34_7 (mi_fc ks_34_8 (mi_fc ks_34_11 (mi_fc ks_34_12 (mi_fc ks_34_14 (mi_fc ks_34_15 (mi_fc ks_34_17 (mi_fc ks_34_20 (mi_fc ks_34_21 (mi_fc ks_34_24 (mi_fc ks_34_25 (mi_fc ks_34_27 (mi_fc ks_34_28 (mi_fc ks_34_29 (mi_fc ks_34_30 (mi_fc ks_34_31 (mi_fc ks_34_32 (mi_fc ks_34_33 (mi_fc ks_34_34 (mi_fc ks_34_35 (mi_fc ks_34_37 (mi_fc ks_34_38 (mi_fc ks_34_39 (mi_fc ks_34_41 (mi_fc ks_34_42 (mi_fc ks_34_43 (mi_fc ks_34_44 (mi_fc ks_34_45 (mi_fc ks_34_48 (mi_fc ks_34_51 mi_fn))))))))))))))))))))))))))))))))))
theorem dd_35_0 : decode prog_1_method_11_code 0 = .ok (.aload_n 0, 1) := by decide +kernel
theorem dd_35_1 : decode prog_1_method_11_code 1 = .ok (.getfield 10, 3) := by decide +kernel
theorem dd_35_4 : decode prog_1_method_11_code 4 = .ok (.invokevirtual 122, 3) := by decide +kernel
theorem dd_35_7 : decode prog_1_method_11_code 7 = .ok (.aload_n 0, 1) := by decide +kernel
theorem dd_35_8 : decode prog_1_method_11_code 8 = .ok (.getfield 25, 3) := by decide +kernel
theorem dd_35_11 : decode prog_1_method_11_code 11 = .ok (.invokevirtual 125, 3) := by decide +kernel
theorem dd_35_14 : decode prog_1_method_11_code 14 = .ok (.iconst (-1), 1) := by decide +kernel
theorem dd_35_15 : decode prog_1_method_11_code 15 = .ok (.ixor, 1) := by decide +kernel
theorem dd_35_16 : decode prog_1_method_11_code 16 = .ok (.iand, 1) := by decide +kernel
theorem dd_35_17 : decode prog_1_method_11_code 17 = .ok (.ireturn, 1) := by decide +kernel
theorem ks_35_0 : mi_snd cs_G cs_cl cs_inf 35 0 (mj_aload 0 1) := ms_aload_n (mi_dec ib_35 dd_35_0) rfl
theorem ks_35_1 : mi_snd cs_G cs_cl cs_inf 35 1 (mj_get 0 0 4) := ms_get (T := cs_T0) (k := 0) (mi_dec ib_35 dd_35_1) rfl cs_in0 (by decide) gw_231
theorem ks_35_4 : mi_snd cs_G cs_cl cs_inf 35 4 (mj_callV 1 15 0 1 7) := ms_callVN iw_c15 (mi_dec ib_35 dd_35_4) gw_416 iw_i15 rfl iw_v15 iw_n15 (by decide +kernel) rfl (by decide)
theorem ks_35_7 : mi_snd cs_G cs_cl cs_inf 35 7 (mj_aload 0 8) := ms_aload_n (mi_dec ib_35 dd_35_7) rfl
theorem ks_35_8 : mi_snd cs_G cs_cl cs_inf 35 8 (mj_get 0 2 11) := ms_get (T := cs_T0) (k := 2) (mi_dec ib_35 dd_35_8) rfl cs_in0 (by decide) gw_233
theorem ks_35_11 : mi_snd cs_G cs_cl cs_inf 35 11 (mj_callV 2 36 0 3 14) := ms_callVN iw_c36 (mi_dec ib_35 dd_35_11) gw_417 iw_i36 rfl iw_v36 iw_n36 (by decide +kernel) rfl (by decide)
theorem ks_35_14 : mi_snd cs_G cs_cl cs_inf 35 14 (mj_push (.inl (-1)) 15) := ms_iconst (mi_dec ib_35 dd_35_14) (by decide)
theorem ks_35_15 : mi_snd cs_G cs_cl cs_inf 35 15 (mj_bin (fun x y => x ^^^ y) 16) := ms_ixor (mi_dec ib_35 dd_35_15)
theorem ks_35_16 : mi_snd cs_G cs_cl cs_inf 35 16 (mj_bin (fun x y => x &&& y) 17) := ms_iand (mi_dec ib_35 dd_35_16)
theorem ks_35_17 : mi_snd cs_G cs_cl cs_inf 35 17 (mj_iret) := ms_iret (mi_dec ib_35 dd_35_17) rfl
def ct_35 : List (Nat × mi_I) := [
  (0, mj_aload 0 1),
  (1, mj_get 0 0 4),
  (4, mj_callV 1 15 0 1 7),
  (7, mj_aload 0 8),
  (8, mj_get 0 2 11),
  (11, mj_callV 2 36 0 3 14),
  (14, mj_push (.inl (-1)) 15),
  (15, mj_bin (fun x y => x ^^^ y) 16),
  (16, mj_bin (fun x y => x &&& y) 17),
  (17, mj_iret)]
theorem sd_35 : ∀ q ∈ ct_35, mi_snd cs_G cs_cl cs_inf 35 q.1 q.2 := mi_fc ks_35_0 (mi_fc ks_35_1 (mi_fc ks_35_4 (mi_fc ks_35_7 (mi_fc ks_35_8 (mi_fc ks_35_11 (mi_fc ks_35_14 (mi_fc ks_35_15 (mi_fc ks_35_16 (mi_fc ks_35_17 mi_fn)))))))))
theorem dd_36_0 : decode prog_3_method_5_code 0 = .ok (.aload_n 0, 1) := by decide +kernel
theorem dd_36_1 : decode prog_3_method_5_code 1 = .ok (.invokevirtual 30, 3) := by decide +kernel
theorem dd_36_4 : decode prog_3_method_5_code 4 = .ok (.iconst 0, 1) := by decide +kernel
theorem dd_36_5 : decode prog_3_method_5_code 5 = .ok (.istore_n 1, 1) := by decide +kernel
theorem dd_36_6 : decode prog_3_method_5_code 6 = .ok (.iconst 0, 1) := by decide +kernel
theorem dd_36_7 : decode prog_3_method_5_code 7 = .ok (.istore_n 2, 1) := by decide +kernel
theorem dd_36_8 : decode prog_3_method_5_code 8 = .ok (.iload_n 2, 1) := by decide +kernel
theorem dd_36_9 : decode prog_3_method_5_code 9 = .ok (.aload_n 0, 1) := by decide +kernel
theorem dd_36_10 : decode prog_3_method_5_code 10 = .ok (.getfield 33, 3) := by decide +kernel
theorem dd_36_13 : decode prog_3_method_5_code 13 = .ok (.if_icmp .ge 32, 3) := by decide +kernel
theorem dd_36_16 : decode prog_3_method_5_code 16 = .ok (.aload_n 0, 1) := by decide +kernel
theorem dd_36_17 : decode prog_3_method_5_code 17 = .ok (.getfield 15, 3) := by decide +kernel
theorem dd_36_20 : decode prog_3_method_5_code 20 = .ok (.iload_n 2, 1) := by decide +kernel
theorem dd_36_21 : decode prog_3_method_5_code 21 = .ok (.iaload, 1) := by decide +kernel
theorem dd_36_22 : decode prog_3_method_5_code 22 = .ok (.invokestatic 36, 3) := by decide +kernel
theorem dd_36_25 : decode prog_3_method_5_code 25 = .ok (.iload_n 1, 1) := by decide +kernel
theorem dd_36_26 : decode prog_3_method_5_code 26 = .ok (.invokestatic 36, 3) := by decide +kernel
theorem dd_36_29 : decode prog_3_method_5_code 29 = .ok (.if_icmp .lt 10, 3) := by decide +kernel
theorem dd_36_32 : decode prog_3_method_5_code 32 = .ok (.aload_n 0, 1) := by decide +kernel
theorem dd_36_33 : decode prog_3_method_5_code 33 = .ok (.getfield 15, 3) := by decide +kernel
theorem dd_36_36 : decode prog_3_method_5_code 36 = .ok (.iload_n 2, 1) := by decide +kernel
theorem dd_36_37 : decode prog_3_method_5_code 37 = .ok (.iaload, 1) := by decide +kernel
theorem dd_36_38 : decode prog_3_method_5_code 38 = .ok (.istore_n 1, 1) := by decide +kernel
theorem dd_36_39 : decode prog_3_method_5_code 39 = .ok (.iinc 2 1, 3) := by decide +kernel
theorem dd_36_42 : decode prog_3_method_5_code 42 = .ok (.goto (-34), 3) := by decide +kernel
theorem dd_36_45 : decode prog_3_method_5_code 45 = .ok (.iload_n 1, 1) := by decide +kernel
theorem dd_36_46 : decode prog_3_method_5_code 46 = .ok (.ireturn, 1) := by decide +kernel
theorem ks_36_0 : mi_snd cs_G cs_cl cs_inf 36 0 (mj_aload 0 1) := ms_aload_n (mi_dec ib_36 dd_36_0) rfl
theorem ks_36_1 : mi_snd cs_G cs_cl cs_inf 36 1 (mj_callV 2 14 0 4 4) := ms_callV iw_c14 (mi_dec ib_36 dd_36_1) gw_318 iw_i14 rfl iw_v14 iw_n14 (by decide +kernel) rfl (by decide)
theorem ks_36_4 : mi_snd cs_G cs_cl cs_inf 36 4 (mj_push (.inl 0) 5) := ms_iconst (mi_dec ib_36 dd_36_4) (by decide)
theorem ks_36_5 : mi_snd cs_G cs_cl cs_inf 36 5 (mj_istore 1 6) := ms_istore_n (mi_dec ib_36 dd_36_5) rfl
theorem ks_36_6 : mi_snd cs_G cs_cl cs_inf 36 6 (mj_push (.inl 0) 7) := ms_iconst (mi_dec ib_36 dd_36_6) (by decide)
theorem ks_36_7 : mi_snd cs_G cs_cl cs_inf 36 7 (mj_istore 2 8) := ms_istore_n (mi_dec ib_36 dd_36_7) rfl
theorem ks_36_8 : mi_snd cs_G cs_cl cs_inf 36 8 (mj_iload 2 9) := ms_iload_n (mi_dec ib_36 dd_36_8) rfl
theorem ks_36_9 : mi_snd cs_G cs_cl cs_inf 36 9 (mj_aload 0 10) := ms_aload_n (mi_dec ib_36 dd_36_9) rfl
theorem ks_36_10 : mi_snd cs_G cs_cl cs_inf 36 10 (mj_get 2 4 13) := ms_get (T := cs_T2) (k := 4) (mi_dec ib_36 dd_36_10) rfl cs_in2 (by decide) gw_59
theorem ks_36_13 : mi_snd cs_G cs_cl cs_inf 36 13 (mj_cmp (fun x y => decide (y ≤ x)) 45 16) := ms_icmp_ge (mi_dec ib_36 dd_36_13) (by decide)
theorem ks_36_16 : mi_snd cs_G cs_cl cs_inf 36 16 (mj_aload 0 17) := ms_aload_n (mi_dec ib_36 dd_36_16) rfl
theorem ks_36_17 : mi_snd cs_G cs_cl cs_inf 36 17 (mj_get 2 3 20) := ms_get (T := cs_T2) (k := 3) (mi_dec ib_36 dd_36_17) rfl cs_in2 (by decide) gw_58
theorem ks_36_20 : mi_snd cs_G cs_cl cs_inf 36 20 (mj_iload 2 21) := ms_iload_n (mi_dec ib_36 dd_36_20) rfl
theorem ks_36_21 : mi_snd cs_G cs_cl cs_inf 36 21 (mj_ald 0 22) := ms_ald0 (mi_dec ib_36 dd_36_21)
theorem ks_36_22 : mi_snd cs_G cs_cl cs_inf 36 22 (mj_callS 20 1 1 25) := ms_callS iw_c20 (mi_dec ib_36 dd_36_22) gw_345 iw_s20 iw_n20 (by decide +kernel) rfl (by decide)
theorem ks_36_25 : mi_snd cs_G cs_cl cs_inf 36 25 (mj_iload 1 26) := ms_iload_n (mi_dec ib_36 dd_36_25) rfl
theorem ks_36_26 : mi_snd cs_G cs_cl cs_inf 36 26 (mj_callS 20 1 1 29) := ms_callS iw_c20 (mi_dec ib_36 dd_36_26) gw_345 iw_s20 iw_n20 (by decide +kernel) rfl (by decide)
theorem ks_36_29 : mi_snd cs_G cs_cl cs_inf 36 29 (mj_cmp (fun x y => decide (x < y)) 39 32) := ms_icmp_lt (mi_dec ib_36 dd_36_29) (by decide)
theorem ks_36_32 : mi_snd cs_G cs_cl cs_inf 36 32 (mj_aload 0 33) := ms_aload_n (mi_dec ib_36 dd_36_32) rfl
theorem ks_36_33 : mi_snd cs_G cs_cl cs_inf 36 33 (mj_get 2 3 36) := ms_get (T := cs_T2) (k := 3) (mi_dec ib_36 dd_36_33) rfl cs_in2 (by decide) gw_58
theorem ks_36_36 : mi_snd cs_G cs_cl cs_inf 36 36 (mj_iload 2 37) := ms_iload_n (mi_dec ib_36 dd_36_36) rfl
theorem ks_36_37 : mi_snd cs_G cs_cl cs_inf 36 37 (mj_ald 0 38) := ms_ald0 (mi_dec ib_36 dd_36_37)
theorem ks_36_38 : mi_snd cs_G cs_cl cs_inf 36 38 (mj_istore 1 39) := ms_istore_n (mi_dec ib_36 dd_36_38) rfl
theorem ks_36_39 : mi_snd cs_G cs_cl cs_inf 36 39 (mj_iinc 2 1 42) := ms_iinc (mi_dec ib_36 dd_36_39) (by decide)
theorem ks_36_42 : mi_snd cs_G cs_cl cs_inf 36 42 (mj_goto 8) := ms_goto (mi_dec ib_36 dd_36_42) (by decide)
theorem ks_36_45 : mi_snd cs_G cs_cl cs_inf 36 45 (mj_iload 1 46) := ms_iload_n (mi_dec ib_36 dd_36_45) rfl
theorem ks_36_46 : mi_snd cs_G cs_cl cs_inf 36 46 (mj_iret) := ms_iret (mi_dec ib_36 dd_36_46) rfl
def ct_36 : List (Nat × mi_I) := [
  (0, mj_aload 0 1),
  (1, mj_callV 2 14 0 4 4),
  (4, mj_push (.inl 0) 5),
  (5, mj_istore 1 6),
  (6, mj_push (.inl 0) 7),
  (7, mj_istore 2 8),
  (8, mj_iload 2 9),
  (9, mj_aload 0 10),
  (10, mj_get 2 4 13),
  (13, mj_cmp (fun x y => decide (y ≤ x)) 45 16),
  (16, mj_aload 0 17),
  (17, mj_get 2 3 20),
  (20, mj_iload 2 21),
  (21, mj_ald 0 22),
  (22, mj_callS 20 1 1 25),
  (25, mj_iload 1 26),
  (26, mj_callS 20 1 1 29),
  (29, mj_cmp (fun x y => decide (x < y)) 39 32),
  (32, mj_aload 0 33),
  (33, mj_get 2 3 36),
  (36, mj_iload 2 37),
  (37, mj_ald 0 38),
  (38, mj_istore 1 39),
  (39, mj_iinc 2 1 42),
  (42, mj_goto 8),
  (45, mj_iload 1 46),
  (46, mj_iret)]
theorem sd_36 : ∀ q ∈ ct_36, mi_snd cs_G cs_cl cs_inf 36 q.1 q.2 := mi_fc ks_36_0 (mi_fc ks_36_1 (mi_fc ks_36_4 (mi_fc ks_36_5 (mi_fc ks_36_6 (mi_fc ks_36_7 (mi_fc ks_36_8 (mi_fc ks_36_9 (mi_fc ks_36_10 (mi_fc ks_36_13 (mi_fc ks_36_16 (mi_fc ks_36_17 (mi_fc ks_36_20 (mi_fc ks_36_21 (mi_fc ks_36_22 (mi_fc ks_36_25 (mi_fc ks_36_26 (mi_fc ks_36_29 (mi_fc ks_36_32 (mi_fc ks_36_33 (mi_fc ks_36_36 (mi_fc ks_36_37 (mi_fc ks_36_38 (mi_fc ks_36_39 (mi_fc ks_36_42 (mi_fc ks_36_45 (mi_fc ks_36_46 mi_fn))))))))))))))))))))))))))
theorem dd_37_0 : decode prog_1_method_12_code 0 = .ok (.aload_n 0, 1) := by decide +kernel
theorem dd_37_1 : decode prog_1_method_12_code 1 = .ok (.getfield 25, 3) := by decide +kernel
theorem dd_37_4 : decode prog_1_method_12_code 4 = .ok (.invokevirtual 106, 3) := by decide +kernel
theorem dd_37_7 : decode prog_1_method_12_code 7 = .ok (.ireturn, 1) := by decide +kernel
theorem ks_37_0 : mi_snd cs_G cs_cl cs_inf 37 0 (mj_aload 0 1) := ms_aload_n (mi_dec ib_37 dd_37_0) rfl
theorem ks_37_1 : mi_snd cs_G cs_cl cs_inf 37 1 (mj_get 0 2 4) := ms_get (T := cs_T0) (k := 2) (mi_dec ib_37 dd_37_1) rfl cs_in0 (by decide) gw_233
theorem ks_37_4 : mi_snd cs_G cs_cl cs_inf 37 4 (mj_callV 2 13 0 3 7) := ms_callVN iw_c13 (mi_dec ib_37 dd_37_4) gw_314 iw_i13 rfl iw_v13 iw_n13 (by decide +kernel) rfl (by decide)
theorem ks_37_7 : mi_snd cs_G cs_cl cs_inf 37 7 (mj_iret) := ms_iret (mi_dec ib_37 dd_37_7) rfl
def ct_37 : List (Nat × mi_I) := [
  (0, mj_aload 0 1),
  (1, mj_get 0 2 4),
  (4, mj_callV 2 13 0 3 7),
  (7, mj_iret)]
theorem sd_37 : ∀ q ∈ ct_37, mi_snd cs_G cs_cl cs_inf 37 q.1 q.2 := mi_fc ks_37_0 (mi_fc ks_37_1 (mi_fc ks_37_4 (mi_fc ks_37_7 mi_fn)))
theorem dd_38_0 : decode prog_1_method_13_code 0 = .ok (.iload_n 1, 1) := by decide +kernel
theorem dd_38_1 : decode prog_1_method_13_code 1 = .ok (.iconst 1, 1) := by decide +kernel
theorem dd_38_2 : decode prog_1_method_13_code 2 = .ok (.if_icmp .lt 19, 3) := by decide +kernel
theorem dd_38_5 : decode prog_1_method_13_code 5 = .ok (.iload_n 1, 1) := by decide +kernel
theorem dd_38_6 : decode prog_1_method_13_code 6 = .ok (.iconst 4, 1) := by decide +kernel
theorem dd_38_7 : decode prog_1_method_13_code 7 = .ok (.if_icmp .gt 14, 3) := by decide +kernel
theorem dd_38_10 : decode prog_1_method_13_code 10 = .ok (.aload_n 0, 1) := by decide +kernel
theorem dd_38_11 : decode prog_1_method_13_code 11 = .ok (.getfield 40, 3) := by decide +kernel
theorem dd_38_14 : decode prog_1_method_13_code 14 = .ok (.iload_n 1, 1) := by decide +kernel
theorem dd_38_15 : decode prog_1_method_13_code 15 = .ok (.invokevirtual 128, 3) := by decide +kernel
theorem dd_38_18 : decode prog_1_method_13_code 18 = .ok (.goto 4, 3) := by decide +kernel
theorem dd_38_21 : decode prog_1_method_13_code 21 = .ok (.iconst (-1), 1) := by decide +kernel
theorem dd_38_22 : decode prog_1_method_13_code 22 = .ok (.ireturn, 1) := by decide +kernel
theorem ks_38_0 : mi_snd cs_G cs_cl cs_inf 38 0 (mj_iload 1 1) := ms_iload_n (mi_dec ib_38 dd_38_0) rfl
theorem ks_38_1 : mi_snd cs_G cs_cl cs_inf 38 1 (mj_push (.inl 1) 2) := ms_iconst (mi_dec ib_38 dd_38_1) (by decide)
theorem ks_38_2 : mi_snd cs_G cs_cl cs_inf 38 2 (mj_cmp (fun x y => decide (x < y)) 21 5) := ms_icmp_lt (mi_dec ib_38 dd_38_2) (by decide)
theorem ks_38_5 : mi_snd cs_G cs_cl cs_inf 38 5 (mj_iload 1 6) := ms_iload_n (mi_dec ib_38 dd_38_5) rfl
theorem ks_38_6 : mi_snd cs_G cs_cl cs_inf 38 6 (mj_push (.inl 4) 7) := ms_iconst (mi_dec ib_38 dd_38_6) (by decide)
theorem ks_38_7 : mi_snd cs_G cs_cl cs_inf 38 7 (mj_cmp (fun x y => decide (y < x)) 21 10) := ms_icmp_gt (mi_dec ib_38 dd_38_7) (by decide)
theorem ks_38_10 : mi_snd cs_G cs_cl cs_inf 38 10 (mj_aload 0 11) := ms_aload_n (mi_dec ib_38 dd_38_10) rfl
theorem ks_38_11 : mi_snd cs_G cs_cl cs_inf 38 11 (mj_get 0 4 14) := ms_get (T := cs_T0) (k := 4) (mi_dec ib_38 dd_38_11) rfl cs_in0 (by decide) gw_235
theorem ks_38_14 : mi_snd cs_G cs_cl cs_inf 38 14 (mj_iload 1 15) := ms_iload_n (mi_dec ib_38 dd_38_14) rfl
theorem ks_38_15 : mi_snd cs_G cs_cl cs_inf 38 15 (mj_callV 4 39 1 2 18) := ms_callVN iw_c39 (mi_dec ib_38 dd_38_15) gw_429 iw_i39 rfl iw_v39 iw_n39 (by decide +kernel) rfl (by decide)
theorem ks_38_18 : mi_snd cs_G cs_cl cs_inf 38 18 (mj_goto 22) := ms_goto (mi_dec ib_38 dd_38_18) (by decide)
theorem ks_38_21 : mi_snd cs_G cs_cl cs_inf 38 21 (mj_push (.inl (-1)) 22) := ms_iconst (mi_dec ib_38 dd_38_21) (by decide)
theorem ks_38_22 : mi_snd cs_G cs_cl cs_inf 38 22 (mj_iret) := ms_iret (mi_dec ib_38 dd_38_22) rfl
def ct_38 : List (Nat × mi_I) := [
  (0, mj_iload 1 1),
  (1, mj_push (.inl 1) 2),
  (2, mj_cmp (fun x y => decide (x < y)) 21 5),
  (5, mj_iload 1 6),
  (6, mj_push (.inl 4) 7),
  (7, mj_cmp (fun x y => decide (y < x)) 21 10),
  (10, mj_aload 0 11),
  (11, mj_get 0 4 14),
  (14, mj_iload 1 15),
  (15, mj_callV 4 39 1 2 18),
  (18, mj_goto 22),
  (21, mj_push (.inl (-1)) 22),
  (22, mj_iret)]
theorem sd_38 : ∀ q ∈ ct_38, mi_snd cs_G cs_cl cs_inf 38 q.1 q.2 := mi_fc ks_38_0 (mi_fc ks_38_1 (mi_fc ks_38_2 (mi_fc ks_38_5 (mi_fc ks_38_6 (mi_fc ks_38_7 (mi_fc ks_38_10 (mi_fc ks_38_11 (mi_fc ks_38_14 (mi_fc ks_38_15 (mi_fc ks_38_18 (mi_fc ks_38_21 (mi_fc ks_38_22 mi_fn))))))))))))
theorem dd_39_0 : decode prog_4_method_2_code 0 = .ok (.aload_n 0, 1) := by decide +kernel
theorem dd_39_1 : decode prog_4_method_2_code 1 = .ok (.iconst 0, 1) := by decide +kernel
theorem dd_39_2 : decode prog_4_method_2_code 2 = .ok (.iload_n 1, 1) := by decide +kernel
theorem dd_39_3 : decode prog_4_method_2_code 3 = .ok (.iconst 4, 1) := by decide +kernel
theorem dd_39_4 : decode prog_4_method_2_code 4 = .ok (.invokestatic 24, 3) := by decide +kernel
theorem dd_39_7 : decode prog_4_method_2_code 7 = .ok (.iconst 1, 1) := by decide +kernel
theorem dd_39_8 : decode prog_4_method_2_code 8 = .ok (.isub, 1) := by decide +kernel
theorem dd_39_9 : decode prog_4_method_2_code 9 = .ok (.invokestatic 30, 3) := by decide +kernel
theorem dd_39_12 : decode prog_4_method_2_code 12 = .ok (.putfield 33, 3) := by decide +kernel
theorem dd_39_15 : decode prog_4_method_2_code 15 = .ok (.aload_n 0, 1) := by decide +kernel
theorem dd_39_16 : decode prog_4_method_2_code 16 = .ok (.aload_n 0, 1) := by decide +kernel
theorem dd_39_17 : decode prog_4_method_2_code 17 = .ok (.invokevirtual 37, 3) := by decide +kernel
theorem dd_39_20 : decode prog_4_method_2_code 20 = .ok (.putfield 41, 3) := by decide +kernel
theorem dd_39_23 : decode prog_4_method_2_code 23 = .ok (.aload_n 0, 1) := by decide +kernel
theorem dd_39_24 : decode prog_4_method_2_code 24 = .ok (.iconst 0, 1) := by decide +kernel
theorem dd_39_25 : decode prog_4_method_2_code 25 = .ok (.putfield 44, 3) := by decide +kernel
theorem dd_39_28 : decode prog_4_method_2_code 28 = .ok (.aload_n 0, 1) := by decide +kernel
theorem dd_39_29 : decode prog_4_method_2_code 29 = .ok (.getfield 11, 3) := by decide +kernel
theorem dd_39_32 : decode prog_4_method_2_code 32 = .ok (.iconst 0, 1) := by decide +kernel
theorem dd_39_33 : decode prog_4_method_2_code 33 = .ok (.aaload, 1) := by decide +kernel
theorem dd_39_34 : decode prog_4_method_2_code 34 = .ok (.iconst 0, 1) := by decide +kernel
theorem dd_39_35 : decode prog_4_method_2_code 35 = .ok (.invokestatic 47, 3) := by decide +kernel
theorem dd_39_38 : decode prog_4_method_2_code 38 = .ok (.aload_n 0, 1) := by decide +kernel
theorem dd_39_39 : decode prog_4_method_2_code 39 = .ok (.getfield 11, 3) := by decide +kernel
theorem dd_39_42 : decode prog_4_method_2_code 42 = .ok (.iconst 0, 1) := by decide +kernel
theorem dd_39_43 : decode prog_4_method_2_code 43 = .ok (.aaload, 1) := by decide +kernel
theorem dd_39_44 : decode prog_4_method_2_code 44 = .ok (.iconst 0, 1) := by decide +kernel
theorem dd_39_45 : decode prog_4_method_2_code 45 = .ok (.aload_n 0, 1) := by decide +kernel
theorem dd_39_46 : decode prog_4_method_2_code 46 = .ok (.getfield 20, 3) := by decide +kernel
theorem dd_39_49 : decode prog_4_method_2_code 49 = .ok (.invokevirtual 53, 3) := by decide +kernel
theorem dd_39_52 : decode prog_4_method_2_code 52 = .ok (.iastore, 1) := by decide +kernel
theorem dd_39_53 : decode prog_4_method_2_code 53 = .ok (.aload_n 0, 1) := by decide +kernel
theorem dd_39_54 : decode prog_4_method_2_code 54 = .ok (.iconst 0, 1) := by decide +kernel
theorem dd_39_55 : decode prog_4_method_2_code 55 = .ok (.aload_n 0, 1) := by decide +kernel
theorem dd_39_56 : decode prog_4_method_2_code 56 = .ok (.getfield 20, 3) := by decide +kernel
theorem dd_39_59 : decode prog_4_method_2_code 59 = .ok (.invokevirtual 53, 3) := by decide +kernel
theorem dd_39_62 : decode prog_4_method_2_code 62 = .ok (.iconst 0, 1) := by decide +kernel
theorem dd_39_63 : decode prog_4_method_2_code 63 = .ok (.invokestatic 58, 3) := by decide +kernel
theorem dd_39_66 : decode prog_4_method_2_code 66 = .ok (.aload_n 0, 1) := by decide +kernel
theorem dd_39_67 : decode prog_4_method_2_code 67 = .ok (.getfield 44, 3) := by decide +kernel
theorem dd_39_70 : decode prog_4_method_2_code 70 = .ok (.ireturn, 1) := by decide +kernel
theorem ks_39_0 : mi_snd cs_G cs_cl cs_inf 39 0 (mj_aload 0 1) := ms_aload_n (mi_dec ib_39 dd_39_0) rfl
theorem ks_39_1 : mi_snd cs_G cs_cl cs_inf 39 1 (mj_push (.inl 0) 2) := ms_iconst (mi_dec ib_39 dd_39_1) (by decide)
theorem ks_39_2 : mi_snd cs_G cs_cl cs_inf 39 2 (mj_iload 1 3) := ms_iload_n (mi_dec ib_39 dd_39_2) rfl
theorem ks_39_3 : mi_snd cs_G cs_cl cs_inf 39 3 (mj_push (.inl 4) 4) := ms_iconst (mi_dec ib_39 dd_39_3) (by decide)
theorem ks_39_4 : mi_snd cs_G cs_cl cs_inf 39 4 (mj_callS 40 2 2 7) := ms_callS iw_c40 (mi_dec ib_39 dd_39_4) gw_433 iw_s40 iw_n40 (by decide +kernel) rfl (by decide)
theorem ks_39_7 : mi_snd cs_G cs_cl cs_inf 39 7 (mj_push (.inl 1) 8) := ms_iconst (mi_dec ib_39 dd_39_7) (by decide)
theorem ks_39_8 : mi_snd cs_G cs_cl cs_inf 39 8 (mj_bin (fun x y => x - y) 9) := ms_isub (mi_dec ib_39 dd_39_8)
theorem ks_39_9 : mi_snd cs_G cs_cl cs_inf 39 9 (mj_callS 41 2 2 12) := ms_callS iw_c41 (mi_dec ib_39 dd_39_9) gw_436 iw_s41 iw_n41 (by decide +kernel) rfl (by decide)
theorem ks_39_12 : mi_snd cs_G cs_cl cs_inf 39 12 (mj_putI 4 3 15) := ms_putI (T := cs_T4) (k := 3) (mi_dec ib_39 dd_39_12) rfl cs_in4 cs_ty4_ok cs_nm4 (by decide) gw_101 (by decide) (by decide +kernel)
theorem ks_39_15 : mi_snd cs_G cs_cl cs_inf 39 15 (mj_aload 0 16) := ms_aload_n (mi_dec ib_39 dd_39_15) rfl
theorem ks_39_16 : mi_snd cs_G cs_cl cs_inf 39 16 (mj_aload 0 17) := ms_aload_n (mi_dec ib_39 dd_39_16) rfl
theorem ks_39_17 : mi_snd cs_G cs_cl cs_inf 39 17 (mj_callV 4 42 0 4 20) := ms_callV iw_c42 (mi_dec ib_39 dd_39_17) gw_439 iw_i42 rfl iw_v42 iw_n42 (by decide +kernel) rfl (by decide)
theorem ks_39_20 : mi_snd cs_G cs_cl cs_inf 39 20 (mj_putI 4 4 23) := ms_putI (T := cs_T4) (k := 4) (mi_dec ib_39 dd_39_20) rfl cs_in4 cs_ty4_ok cs_nm4 (by decide) gw_102 (by decide) (by decide +kernel)
theorem ks_39_23 : mi_snd cs_G cs_cl cs_inf 39 23 (mj_aload 0 24) := ms_aload_n (mi_dec ib_39 dd_39_23) rfl
theorem ks_39_24 : mi_snd cs_G cs_cl cs_inf 39 24 (mj_push (.inl 0) 25) := ms_iconst (mi_dec ib_39 dd_39_24) (by decide)
theorem ks_39_25 : mi_snd cs_G cs_cl cs_inf 39 25 (mj_putI 4 5 28) := ms_putI (T := cs_T4) (k := 5) (mi_dec ib_39 dd_39_25) rfl cs_in4 cs_ty4_ok cs_nm4 (by decide) gw_103 (by decide) (by decide +kernel)
theorem ks_39_28 : mi_snd cs_G cs_cl cs_inf 39 28 (mj_aload 0 29) := ms_aload_n (mi_dec ib_39 dd_39_28) rfl
theorem ks_39_29 : mi_snd cs_G cs_cl cs_inf 39 29 (mj_get 4 1 32) := ms_get (T := cs_T4) (k := 1) (mi_dec ib_39 dd_39_29) rfl cs_in4 (by decide) gw_99
theorem ks_39_32 : mi_snd cs_G cs_cl cs_inf 39 32 (mj_push (.inl 0) 33) := ms_iconst (mi_dec ib_39 dd_39_32) (by decide)
theorem ks_39_33 : mi_snd cs_G cs_cl cs_inf 39 33 (mj_aald 34) := ms_aald (mi_dec ib_39 dd_39_33)
theorem ks_39_34 : mi_snd cs_G cs_cl cs_inf 39 34 (mj_push (.inl 0) 35) := ms_iconst (mi_dec ib_39 dd_39_34) (by decide)
theorem ks_39_35 : mi_snd cs_G cs_cl cs_inf 39 35 (mj_callS 30 2 4 38) := ms_callS iw_c30 (mi_dec ib_39 dd_39_35) gw_454 iw_s30 iw_n30 (by decide +kernel) rfl (by decide)
theorem ks_39_38 : mi_snd cs_G cs_cl cs_inf 39 38 (mj_aload 0 39) := ms_aload_n (mi_dec ib_39 dd_39_38) rfl
theorem ks_39_39 : mi_snd cs_G cs_cl cs_inf 39 39 (mj_get 4 1 42) := ms_get (T := cs_T4) (k := 1) (mi_dec ib_39 dd_39_39) rfl cs_in4 (by decide) gw_99
theorem ks_39_42 : mi_snd cs_G cs_cl cs_inf 39 42 (mj_push (.inl 0) 43) := ms_iconst (mi_dec ib_39 dd_39_42) (by decide)
theorem ks_39_43 : mi_snd cs_G cs_cl cs_inf 39 43 (mj_aald 44) := ms_aald (mi_dec ib_39 dd_39_43)
theorem ks_39_44 : mi_snd cs_G cs_cl cs_inf 39 44 (mj_push (.inl 0) 45) := ms_iconst (mi_dec ib_39 dd_39_44) (by decide)
theorem ks_39_45 : mi_snd cs_G cs_cl cs_inf 39 45 (mj_aload 0 46) := ms_aload_n (mi_dec ib_39 dd_39_45) rfl
theorem ks_39_46 : mi_snd cs_G cs_cl cs_inf 39 46 (mj_get 4 0 49) := ms_get (T := cs_T4) (k := 0) (mi_dec ib_39 dd_39_46) rfl cs_in4 (by decide) gw_98
theorem ks_39_49 : mi_snd cs_G cs_cl cs_inf 39 49 (mj_callV 1 15 0 1 52) := ms_callVN iw_c15 (mi_dec ib_39 dd_39_49) gw_443 iw_i15 rfl iw_v15 iw_n15 (by decide +kernel) rfl (by decide)
theorem ks_39_52 : mi_snd cs_G cs_cl cs_inf 39 52 (mj_iast 53) := ms_iast (mi_dec ib_39 dd_39_52)
theorem ks_39_53 : mi_snd cs_G cs_cl cs_inf 39 53 (mj_aload 0 54) := ms_aload_n (mi_dec ib_39 dd_39_53) rfl
theorem ks_39_54 : mi_snd cs_G cs_cl cs_inf 39 54 (mj_push (.inl 0) 55) := ms_iconst (mi_dec ib_39 dd_39_54) (by decide)
theorem ks_39_55 : mi_snd cs_G cs_cl cs_inf 39 55 (mj_aload 0 56) := ms_aload_n (mi_dec ib_39 dd_39_55) rfl
theorem ks_39_56 : mi_snd cs_G cs_cl cs_inf 39 56 (mj_get 4 0 59) := ms_get (T := cs_T4) (k := 0) (mi_dec ib_39 dd_39_56) rfl cs_in4 (by decide) gw_98
theorem ks_39_59 : mi_snd cs_G cs_cl cs_inf 39 59 (mj_callV 1 15 0 1 62) := ms_callVN iw_c15 (mi_dec ib_39 dd_39_59) gw_443 iw_i15 rfl iw_v15 iw_n15 (by decide +kernel) rfl (by decide)
theorem ks_39_62 : mi_snd cs_G cs_cl cs_inf 39 62 (mj_push (.inl 0) 63) := ms_iconst (mi_dec ib_39 dd_39_62) (by decide)
theorem ks_39_63 : mi_snd cs_G cs_cl cs_inf 39 63 (mj_callS 45 4 8 66) := ms_callS iw_c45 (mi_dec ib_39 dd_39_63) gw_455 iw_s45 iw_n45 (by decide +kernel) rfl (by decide)
theorem ks_39_66 : mi_snd cs_G cs_cl cs_inf 39 66 (mj_aload 0 67) := ms_aload_n (mi_dec ib_39 dd_39_66) rfl
theorem ks_39_67 : mi_snd cs_G cs_cl cs_inf 39 67 (mj_get 4 5 70) := ms_get (T := cs_T4) (k := 5) (mi_dec ib_39 dd_39_67) rfl cs_in4 (by decide) gw_103
theorem ks_39_70 : mi_snd cs_G cs_cl cs_inf 39 70 (mj_iret) := ms_iret (mi_dec ib_39 dd_39_70) rfl
def ct_39 : List (Nat × mi_I) := [
  (0, mj_aload 0 1),
  (1, mj_push (.inl 0) 2),
  (2, mj_iload 1 3),
  (3, mj_push (.inl 4) 4),
  (4, mj_callS 40 2 2 7),
  (7, mj_push (.inl 1) 8),
  (8, mj_bin (fun x y => x - y) 9),
  (9, mj_callS 41 2 2 12),
  (12, mj_putI 4 3 15),
  (15, mj_aload 0 16),
  (16, mj_aload 0 17),
  (17, mj_callV 4 42 0 4 20),
  (20, mj_putI 4 4 23),
  (23, mj_aload 0 24),
  (24, mj_push (.inl 0) 25),
  (25, mj_putI 4 5 28),
  (28, mj_aload 0 29),
  (29, mj_get 4 1 32),
  (32, mj_push (.inl 0) 33),
  (33, mj_aald 34),
  (34, mj_push (.inl 0) 35),
  (35, mj_callS 30 2 4 38),
  (38, mj_aload 0 39),
  (39, mj_get 4 1 42),
  (42, mj_push (.inl 0) 43),
  (43, mj_aald 44),
  (44, mj_push (.inl 0) 45),
  (45, mj_aload 0 46),
  (46, mj_get 4 0 49),
  (49, mj_callV 1 15 0 1 52),
  (52, mj_iast 53),
  (53, mj_aload 0 54),
  (54, mj_push (.inl 0) 55),
  (55, mj_aload 0 56),
  (56, mj_get 4 0 59),
  (59, mj_callV 1 15 0 1 62),
  (62, mj_push (.inl 0) 63),
  (63, mj_callS 45 4 8 66),
  (66, mj_aload 0 67),
  (67, mj_get 4 5 70),
  (70, mj_iret)]
theorem sd_39 : ∀ q ∈ ct_39, mi_snd cs_G cs_cl cs_inf 39 q.1 q.2 := mi_fc ks_39_0 (mi_fc ks_39_1 (mi_fc ks_39_2 (mi_fc ks_39_3 (mi_fc ks_39_4 (mi_fc ks_39_7 (mi_fc ks_39_8 (mi_fc ks_39_9 (mi_fc ks_39_12 (mi_fc ks_39_15 (mi_fc ks_39_16 (mi_fc ks_39_17 (mi_fc ks_39_20 (mi_fc ks_39_23 (mi_fc ks_39_24 (mi_fc ks_39_25 (mi_fc ks_39_28 (mi_fc ks_39_29 (mi_fc ks_39_32 (mi_fc ks_39_33 (mi_fc ks_39_34 (mi_fc ks_39_35 (mi_fc ks_39_38 (mi_fc ks_39_39 (mi_fc ks_39_42 (mi_fc ks_39_43 (mi_fc ks_39_44 (mi_fc ks_39_45 (mi_fc ks_39_46 (mi_fc ks_39_49 (mi_fc ks_39_52 (mi_fc ks_39_53 (mi_fc ks_39_54 (mi_fc ks_39_55 (mi_fc ks_39_56 (mi_fc ks_39_59 (mi_fc ks_39_62 (mi_fc ks_39_63 (mi_fc ks_39_66 (mi_fc ks_39_67 (mi_fc ks_39_70 mi_fn))))))))))))))))))))))))))))))))))))))))
